theorem dX9_init_0 : decode cX9_init 0 = .ok (.aload_n 0, 1) := by decide +kernel
theorem dX9_init_1 : decode cX9_init 1 = .ok (.invokespecial 1, 3) := by decide +kernel
theorem dX9_init_4 : decode cX9_init 4 = .ok (.aload_n 0, 1) := by decide +kernel
theorem dX9_init_5 : decode cX9_init 5 = .ok (.sipush 9592, 3) := by decide +kernel
theorem dX9_init_8 : decode cX9_init 8 = .ok (.newarray .int, 2) := by decide +kernel
theorem dX9_init_10 : decode cX9_init 10 = .ok (.putfield 7, 3) := by decide +kernel
theorem dX9_init_13 : decode cX9_init 13 = .ok (.aload_n 0, 1) := by decide +kernel
theorem dX9_init_14 : decode cX9_init 14 = .ok (.ldc 13, 2) := by decide +kernel
theorem dX9_init_16 : decode cX9_init 16 = .ok (.newarray .boolean, 2) := by decide +kernel
theorem dX9_init_18 : decode cX9_init 18 = .ok (.putfield 14, 3) := by decide +kernel
theorem dX9_init_21 : decode cX9_init 21 = .ok (.aload_n 0, 1) := by decide +kernel
theorem dX9_init_22 : decode cX9_init 22 = .ok (.sipush 5000, 3) := by decide +kernel
theorem dX9_init_25 : decode cX9_init 25 = .ok (.newarray .long, 2) := by decide +kernel
theorem dX9_init_27 : decode cX9_init 27 = .ok (.putfield 18, 3) := by decide +kernel
theorem dX9_init_30 : decode cX9_init 30 = .ok (.aload_n 0, 1) := by decide +kernel
theorem dX9_init_31 : decode cX9_init 31 = .ok (.sipush 5000, 3) := by decide +kernel
theorem dX9_init_34 : decode cX9_init 34 = .ok (.newarray .long, 2) := by decide +kernel
theorem dX9_init_36 : decode cX9_init 36 = .ok (.putfield 22, 3) := by decide +kernel
theorem dX9_init_39 : decode cX9_init 39 = .ok (.aload_n 0, 1) := by decide +kernel
theorem dX9_init_40 : decode cX9_init 40 = .ok (.sipush 5000, 3) := by decide +kernel
theorem dX9_init_43 : decode cX9_init 43 = .ok (.newarray .boolean, 2) := by decide +kernel
theorem dX9_init_45 : decode cX9_init 45 = .ok (.putfield 25, 3) := by decide +kernel
theorem dX9_init_48 : decode cX9_init 48 = .ok (.aload_n 0, 1) := by decide +kernel
theorem dX9_init_49 : decode cX9_init 49 = .ok (.bipush 16, 2) := by decide +kernel
theorem dX9_init_51 : decode cX9_init 51 = .ok (.newarray .long, 2) := by decide +kernel
theorem dX9_init_53 : decode cX9_init 53 = .ok (.putfield 28, 3) := by decide +kernel
theorem dX9_init_56 : decode cX9_init 56 = .ok (.aload_n 0, 1) := by decide +kernel
theorem dX9_init_57 : decode cX9_init 57 = .ok (.bipush 16, 2) := by decide +kernel
theorem dX9_init_59 : decode cX9_init 59 = .ok (.newarray .int, 2) := by decide +kernel
theorem dX9_init_61 : decode cX9_init 61 = .ok (.putfield 31, 3) := by decide +kernel
theorem dX9_init_64 : decode cX9_init 64 = .ok (.aload_n 0, 1) := by decide +kernel
theorem dX9_init_65 : decode cX9_init 65 = .ok (.sipush 9616, 3) := by decide +kernel
theorem dX9_init_68 : decode cX9_init 68 = .ok (.newarray .long, 2) := by decide +kernel
theorem dX9_init_70 : decode cX9_init 70 = .ok (.putfield 34, 3) := by decide +kernel
theorem dX9_init_73 : decode cX9_init 73 = .ok (.aload_n 0, 1) := by decide +kernel
theorem dX9_init_74 : decode cX9_init 74 = .ok (.getfield 14, 3) := by decide +kernel
theorem dX9_init_77 : decode cX9_init 77 = .ok (.iconst 0, 1) := by decide +kernel
theorem dX9_init_78 : decode cX9_init 78 = .ok (.iconst 1, 1) := by decide +kernel
theorem dX9_init_79 : decode cX9_init 79 = .ok (.bastore, 1) := by decide +kernel
theorem dX9_init_80 : decode cX9_init 80 = .ok (.aload_n 0, 1) := by decide +kernel
theorem dX9_init_81 : decode cX9_init 81 = .ok (.getfield 14, 3) := by decide +kernel
theorem dX9_init_84 : decode cX9_init 84 = .ok (.iconst 1, 1) := by decide +kernel
theorem dX9_init_85 : decode cX9_init 85 = .ok (.iconst 1, 1) := by decide +kernel
theorem dX9_init_86 : decode cX9_init 86 = .ok (.bastore, 1) := by decide +kernel
theorem dX9_init_87 : decode cX9_init 87 = .ok (.iconst 2, 1) := by decide +kernel
theorem dX9_init_88 : decode cX9_init 88 = .ok (.istore_n 1, 1) := by decide +kernel
theorem dX9_init_89 : decode cX9_init 89 = .ok (.iload_n 1, 1) := by decide +kernel
theorem dX9_init_90 : decode cX9_init 90 = .ok (.sipush 1414, 3) := by decide +kernel
theorem dX9_init_93 : decode cX9_init 93 = .ok (.if_icmp .gt 42, 3) := by decide +kernel
theorem dX9_init_96 : decode cX9_init 96 = .ok (.aload_n 0, 1) := by decide +kernel
theorem dX9_init_97 : decode cX9_init 97 = .ok (.getfield 14, 3) := by decide +kernel
theorem dX9_init_100 : decode cX9_init 100 = .ok (.iload_n 1, 1) := by decide +kernel
theorem dX9_init_101 : decode cX9_init 101 = .ok (.baload, 1) := by decide +kernel
theorem dX9_init_102 : decode cX9_init 102 = .ok (.ifCond .ne 27, 3) := by decide +kernel
theorem dX9_init_105 : decode cX9_init 105 = .ok (.iload_n 1, 1) := by decide +kernel
theorem dX9_init_106 : decode cX9_init 106 = .ok (.iload_n 1, 1) := by decide +kernel
theorem dX9_init_107 : decode cX9_init 107 = .ok (.imul, 1) := by decide +kernel
theorem dX9_init_108 : decode cX9_init 108 = .ok (.istore_n 2, 1) := by decide +kernel
theorem dX9_init_109 : decode cX9_init 109 = .ok (.iload_n 2, 1) := by decide +kernel
theorem dX9_init_110 : decode cX9_init 110 = .ok (.ldc 37, 2) := by decide +kernel
theorem dX9_init_112 : decode cX9_init 112 = .ok (.if_icmp .gt 17, 3) := by decide +kernel
theorem dX9_init_115 : decode cX9_init 115 = .ok (.aload_n 0, 1) := by decide +kernel
theorem dX9_init_116 : decode cX9_init 116 = .ok (.getfield 14, 3) := by decide +kernel
theorem dX9_init_119 : decode cX9_init 119 = .ok (.iload_n 2, 1) := by decide +kernel
theorem dX9_init_120 : decode cX9_init 120 = .ok (.iconst 1, 1) := by decide +kernel
theorem dX9_init_121 : decode cX9_init 121 = .ok (.bastore, 1) := by decide +kernel
theorem dX9_init_122 : decode cX9_init 122 = .ok (.iload_n 2, 1) := by decide +kernel
theorem dX9_init_123 : decode cX9_init 123 = .ok (.iload_n 1, 1) := by decide +kernel
theorem dX9_init_124 : decode cX9_init 124 = .ok (.iadd, 1) := by decide +kernel
theorem dX9_init_125 : decode cX9_init 125 = .ok (.istore_n 2, 1) := by decide +kernel
theorem dX9_init_126 : decode cX9_init 126 = .ok (.goto (-17), 3) := by decide +kernel
theorem dX9_init_129 : decode cX9_init 129 = .ok (.iinc 1 1, 3) := by decide +kernel
theorem dX9_init_132 : decode cX9_init 132 = .ok (.goto (-43), 3) := by decide +kernel
theorem dX9_init_135 : decode cX9_init 135 = .ok (.iconst 2, 1) := by decide +kernel
theorem dX9_init_136 : decode cX9_init 136 = .ok (.istore_n 1, 1) := by decide +kernel
theorem dX9_init_137 : decode cX9_init 137 = .ok (.iload_n 1, 1) := by decide +kernel
theorem dX9_init_138 : decode cX9_init 138 = .ok (.ldc 38, 2) := by decide +kernel
theorem dX9_init_140 : decode cX9_init 140 = .ok (.if_icmp .gt 38, 3) := by decide +kernel
theorem dX9_init_143 : decode cX9_init 143 = .ok (.aload_n 0, 1) := by decide +kernel
theorem dX9_init_144 : decode cX9_init 144 = .ok (.getfield 14, 3) := by decide +kernel
theorem dX9_init_147 : decode cX9_init 147 = .ok (.iload_n 1, 1) := by decide +kernel
theorem dX9_init_148 : decode cX9_init 148 = .ok (.baload, 1) := by decide +kernel
theorem dX9_init_149 : decode cX9_init 149 = .ok (.ifCond .ne 23, 3) := by decide +kernel
theorem dX9_init_152 : decode cX9_init 152 = .ok (.aload_n 0, 1) := by decide +kernel
theorem dX9_init_153 : decode cX9_init 153 = .ok (.getfield 7, 3) := by decide +kernel
theorem dX9_init_156 : decode cX9_init 156 = .ok (.aload_n 0, 1) := by decide +kernel
theorem dX9_init_157 : decode cX9_init 157 = .ok (.getfield 39, 3) := by decide +kernel
theorem dX9_init_160 : decode cX9_init 160 = .ok (.iload_n 1, 1) := by decide +kernel
theorem dX9_init_161 : decode cX9_init 161 = .ok (.iastore, 1) := by decide +kernel
theorem dX9_init_162 : decode cX9_init 162 = .ok (.aload_n 0, 1) := by decide +kernel
theorem dX9_init_163 : decode cX9_init 163 = .ok (.dup, 1) := by decide +kernel
theorem dX9_init_164 : decode cX9_init 164 = .ok (.getfield 39, 3) := by decide +kernel
theorem dX9_init_167 : decode cX9_init 167 = .ok (.iconst 1, 1) := by decide +kernel
theorem dX9_init_168 : decode cX9_init 168 = .ok (.iadd, 1) := by decide +kernel
theorem dX9_init_169 : decode cX9_init 169 = .ok (.putfield 39, 3) := by decide +kernel
theorem dX9_init_172 : decode cX9_init 172 = .ok (.iinc 1 1, 3) := by decide +kernel
theorem dX9_init_175 : decode cX9_init 175 = .ok (.goto (-38), 3) := by decide +kernel
theorem dX9_init_178 : decode cX9_init 178 = .ok (.return_, 1) := by decide +kernel
theorem dX9_in_0 : decode cX9_in 0 = .ok (.lload_n 0, 1) := by decide +kernel
theorem dX9_in_1 : decode cX9_in 1 = .ok (.lload_n 2, 1) := by decide +kernel
theorem dX9_in_2 : decode cX9_in 2 = .ok (.lcmp, 1) := by decide +kernel
theorem dX9_in_3 : decode cX9_in 3 = .ok (.ifCond .lt 14, 3) := by decide +kernel
theorem dX9_in_6 : decode cX9_in 6 = .ok (.lload_n 0, 1) := by decide +kernel
theorem dX9_in_7 : decode cX9_in 7 = .ok (.lload 4, 2) := by decide +kernel
theorem dX9_in_9 : decode cX9_in 9 = .ok (.lcmp, 1) := by decide +kernel
theorem dX9_in_10 : decode cX9_in 10 = .ok (.ifCond .gt 7, 3) := by decide +kernel
theorem dX9_in_13 : decode cX9_in 13 = .ok (.iconst 1, 1) := by decide +kernel
theorem dX9_in_14 : decode cX9_in 14 = .ok (.goto 4, 3) := by decide +kernel
theorem dX9_in_17 : decode cX9_in 17 = .ok (.iconst 0, 1) := by decide +kernel
theorem dX9_in_18 : decode cX9_in 18 = .ok (.ireturn, 1) := by decide +kernel
theorem dX9_parts_0 : decode cX9_parts 0 = .ok (.lload_n 1, 1) := by decide +kernel
theorem dX9_parts_1 : decode cX9_parts 1 = .ok (.lstore 4, 2) := by decide +kernel
theorem dX9_parts_3 : decode cX9_parts 3 = .ok (.iconst 0, 1) := by decide +kernel
theorem dX9_parts_4 : decode cX9_parts 4 = .ok (.istore 6, 2) := by decide +kernel
theorem dX9_parts_6 : decode cX9_parts 6 = .ok (.aload_n 0, 1) := by decide +kernel
theorem dX9_parts_7 : decode cX9_parts 7 = .ok (.lconst 1, 1) := by decide +kernel
theorem dX9_parts_8 : decode cX9_parts 8 = .ok (.putfield 43, 3) := by decide +kernel
theorem dX9_parts_11 : decode cX9_parts 11 = .ok (.aload_n 0, 1) := by decide +kernel
theorem dX9_parts_12 : decode cX9_parts 12 = .ok (.lconst 1, 1) := by decide +kernel
theorem dX9_parts_13 : decode cX9_parts 13 = .ok (.putfield 47, 3) := by decide +kernel
theorem dX9_parts_16 : decode cX9_parts 16 = .ok (.aload_n 0, 1) := by decide +kernel
theorem dX9_parts_17 : decode cX9_parts 17 = .ok (.iconst 0, 1) := by decide +kernel
theorem dX9_parts_18 : decode cX9_parts 18 = .ok (.putfield 50, 3) := by decide +kernel
theorem dX9_parts_21 : decode cX9_parts 21 = .ok (.iconst 0, 1) := by decide +kernel
theorem dX9_parts_22 : decode cX9_parts 22 = .ok (.istore 7, 2) := by decide +kernel
theorem dX9_parts_24 : decode cX9_parts 24 = .ok (.iload 7, 2) := by decide +kernel
theorem dX9_parts_26 : decode cX9_parts 26 = .ok (.aload_n 0, 1) := by decide +kernel
theorem dX9_parts_27 : decode cX9_parts 27 = .ok (.getfield 39, 3) := by decide +kernel
theorem dX9_parts_30 : decode cX9_parts 30 = .ok (.if_icmp .ge 168, 3) := by decide +kernel
theorem dX9_parts_33 : decode cX9_parts 33 = .ok (.aload_n 0, 1) := by decide +kernel
theorem dX9_parts_34 : decode cX9_parts 34 = .ok (.getfield 7, 3) := by decide +kernel
theorem dX9_parts_37 : decode cX9_parts 37 = .ok (.iload 7, 2) := by decide +kernel
theorem dX9_parts_39 : decode cX9_parts 39 = .ok (.iaload, 1) := by decide +kernel
theorem dX9_parts_40 : decode cX9_parts 40 = .ok (.i2l, 1) := by decide +kernel
theorem dX9_parts_41 : decode cX9_parts 41 = .ok (.aload_n 0, 1) := by decide +kernel
theorem dX9_parts_42 : decode cX9_parts 42 = .ok (.getfield 7, 3) := by decide +kernel
theorem dX9_parts_45 : decode cX9_parts 45 = .ok (.iload 7, 2) := by decide +kernel
theorem dX9_parts_47 : decode cX9_parts 47 = .ok (.iaload, 1) := by decide +kernel
theorem dX9_parts_48 : decode cX9_parts 48 = .ok (.i2l, 1) := by decide +kernel
theorem dX9_parts_49 : decode cX9_parts 49 = .ok (.lmul, 1) := by decide +kernel
theorem dX9_parts_50 : decode cX9_parts 50 = .ok (.lload 4, 2) := by decide +kernel
theorem dX9_parts_52 : decode cX9_parts 52 = .ok (.lcmp, 1) := by decide +kernel
theorem dX9_parts_53 : decode cX9_parts 53 = .ok (.ifCond .gt 145, 3) := by decide +kernel
theorem dX9_parts_56 : decode cX9_parts 56 = .ok (.iconst 0, 1) := by decide +kernel
theorem dX9_parts_57 : decode cX9_parts 57 = .ok (.istore 8, 2) := by decide +kernel
theorem dX9_parts_59 : decode cX9_parts 59 = .ok (.lload 4, 2) := by decide +kernel
theorem dX9_parts_61 : decode cX9_parts 61 = .ok (.aload_n 0, 1) := by decide +kernel
theorem dX9_parts_62 : decode cX9_parts 62 = .ok (.getfield 7, 3) := by decide +kernel
theorem dX9_parts_65 : decode cX9_parts 65 = .ok (.iload 7, 2) := by decide +kernel
theorem dX9_parts_67 : decode cX9_parts 67 = .ok (.iaload, 1) := by decide +kernel
theorem dX9_parts_68 : decode cX9_parts 68 = .ok (.i2l, 1) := by decide +kernel
theorem dX9_parts_69 : decode cX9_parts 69 = .ok (.lrem, 1) := by decide +kernel
theorem dX9_parts_70 : decode cX9_parts 70 = .ok (.lconst 0, 1) := by decide +kernel
theorem dX9_parts_71 : decode cX9_parts 71 = .ok (.lcmp, 1) := by decide +kernel
theorem dX9_parts_72 : decode cX9_parts 72 = .ok (.ifCond .ne 22, 3) := by decide +kernel
theorem dX9_parts_75 : decode cX9_parts 75 = .ok (.lload 4, 2) := by decide +kernel
theorem dX9_parts_77 : decode cX9_parts 77 = .ok (.aload_n 0, 1) := by decide +kernel
theorem dX9_parts_78 : decode cX9_parts 78 = .ok (.getfield 7, 3) := by decide +kernel
theorem dX9_parts_81 : decode cX9_parts 81 = .ok (.iload 7, 2) := by decide +kernel
theorem dX9_parts_83 : decode cX9_parts 83 = .ok (.iaload, 1) := by decide +kernel
theorem dX9_parts_84 : decode cX9_parts 84 = .ok (.i2l, 1) := by decide +kernel
theorem dX9_parts_85 : decode cX9_parts 85 = .ok (.ldiv, 1) := by decide +kernel
theorem dX9_parts_86 : decode cX9_parts 86 = .ok (.lstore 4, 2) := by decide +kernel
theorem dX9_parts_88 : decode cX9_parts 88 = .ok (.iinc 8 1, 3) := by decide +kernel
theorem dX9_parts_91 : decode cX9_parts 91 = .ok (.goto (-32), 3) := by decide +kernel
theorem dX9_parts_94 : decode cX9_parts 94 = .ok (.iload 8, 2) := by decide +kernel
theorem dX9_parts_96 : decode cX9_parts 96 = .ok (.ifCond .le 96, 3) := by decide +kernel
theorem dX9_parts_99 : decode cX9_parts 99 = .ok (.aload_n 0, 1) := by decide +kernel
theorem dX9_parts_100 : decode cX9_parts 100 = .ok (.aload_n 0, 1) := by decide +kernel
theorem dX9_parts_101 : decode cX9_parts 101 = .ok (.getfield 43, 3) := by decide +kernel
theorem dX9_parts_104 : decode cX9_parts 104 = .ok (.lconst 1, 1) := by decide +kernel
theorem dX9_parts_105 : decode cX9_parts 105 = .ok (.lcmp, 1) := by decide +kernel
theorem dX9_parts_106 : decode cX9_parts 106 = .ok (.ifCond .ne 14, 3) := by decide +kernel
theorem dX9_parts_109 : decode cX9_parts 109 = .ok (.aload_n 0, 1) := by decide +kernel
theorem dX9_parts_110 : decode cX9_parts 110 = .ok (.getfield 7, 3) := by decide +kernel
theorem dX9_parts_113 : decode cX9_parts 113 = .ok (.iload 7, 2) := by decide +kernel
theorem dX9_parts_115 : decode cX9_parts 115 = .ok (.iaload, 1) := by decide +kernel
theorem dX9_parts_116 : decode cX9_parts 116 = .ok (.i2l, 1) := by decide +kernel
theorem dX9_parts_117 : decode cX9_parts 117 = .ok (.goto 7, 3) := by decide +kernel
theorem dX9_parts_120 : decode cX9_parts 120 = .ok (.aload_n 0, 1) := by decide +kernel
theorem dX9_parts_121 : decode cX9_parts 121 = .ok (.getfield 43, 3) := by decide +kernel
theorem dX9_parts_124 : decode cX9_parts 124 = .ok (.putfield 43, 3) := by decide +kernel
theorem dX9_parts_127 : decode cX9_parts 127 = .ok (.aload_n 0, 1) := by decide +kernel
theorem dX9_parts_128 : decode cX9_parts 128 = .ok (.aload_n 0, 1) := by decide +kernel
theorem dX9_parts_129 : decode cX9_parts 129 = .ok (.getfield 7, 3) := by decide +kernel
theorem dX9_parts_132 : decode cX9_parts 132 = .ok (.iload 7, 2) := by decide +kernel
theorem dX9_parts_134 : decode cX9_parts 134 = .ok (.iaload, 1) := by decide +kernel
theorem dX9_parts_135 : decode cX9_parts 135 = .ok (.i2l, 1) := by decide +kernel
theorem dX9_parts_136 : decode cX9_parts 136 = .ok (.putfield 47, 3) := by decide +kernel
theorem dX9_parts_139 : decode cX9_parts 139 = .ok (.aload_n 0, 1) := by decide +kernel
theorem dX9_parts_140 : decode cX9_parts 140 = .ok (.aload_n 0, 1) := by decide +kernel
theorem dX9_parts_141 : decode cX9_parts 141 = .ok (.getfield 50, 3) := by decide +kernel
theorem dX9_parts_144 : decode cX9_parts 144 = .ok (.ifCond .ne 9, 3) := by decide +kernel
theorem dX9_parts_147 : decode cX9_parts 147 = .ok (.iload 8, 2) := by decide +kernel
theorem dX9_parts_149 : decode cX9_parts 149 = .ok (.iconst 1, 1) := by decide +kernel
theorem dX9_parts_150 : decode cX9_parts 150 = .ok (.if_icmp .le 7, 3) := by decide +kernel
theorem dX9_parts_153 : decode cX9_parts 153 = .ok (.iconst 1, 1) := by decide +kernel
theorem dX9_parts_154 : decode cX9_parts 154 = .ok (.goto 4, 3) := by decide +kernel
theorem dX9_parts_157 : decode cX9_parts 157 = .ok (.iconst 0, 1) := by decide +kernel
theorem dX9_parts_158 : decode cX9_parts 158 = .ok (.putfield 50, 3) := by decide +kernel
theorem dX9_parts_161 : decode cX9_parts 161 = .ok (.iload_n 3, 1) := by decide +kernel
theorem dX9_parts_162 : decode cX9_parts 162 = .ok (.ifCond .eq 27, 3) := by decide +kernel
theorem dX9_parts_165 : decode cX9_parts 165 = .ok (.aload_n 0, 1) := by decide +kernel
theorem dX9_parts_166 : decode cX9_parts 166 = .ok (.getfield 28, 3) := by decide +kernel
theorem dX9_parts_169 : decode cX9_parts 169 = .ok (.iload 6, 2) := by decide +kernel
theorem dX9_parts_171 : decode cX9_parts 171 = .ok (.aload_n 0, 1) := by decide +kernel
theorem dX9_parts_172 : decode cX9_parts 172 = .ok (.getfield 7, 3) := by decide +kernel
theorem dX9_parts_175 : decode cX9_parts 175 = .ok (.iload 7, 2) := by decide +kernel
theorem dX9_parts_177 : decode cX9_parts 177 = .ok (.iaload, 1) := by decide +kernel
theorem dX9_parts_178 : decode cX9_parts 178 = .ok (.i2l, 1) := by decide +kernel
theorem dX9_parts_179 : decode cX9_parts 179 = .ok (.lastore, 1) := by decide +kernel
theorem dX9_parts_180 : decode cX9_parts 180 = .ok (.aload_n 0, 1) := by decide +kernel
theorem dX9_parts_181 : decode cX9_parts 181 = .ok (.getfield 31, 3) := by decide +kernel
theorem dX9_parts_184 : decode cX9_parts 184 = .ok (.iload 6, 2) := by decide +kernel
theorem dX9_parts_186 : decode cX9_parts 186 = .ok (.iload 8, 2) := by decide +kernel
theorem dX9_parts_188 : decode cX9_parts 188 = .ok (.iastore, 1) := by decide +kernel
theorem dX9_parts_189 : decode cX9_parts 189 = .ok (.iinc 6 1, 3) := by decide +kernel
theorem dX9_parts_192 : decode cX9_parts 192 = .ok (.iinc 7 1, 3) := by decide +kernel
theorem dX9_parts_195 : decode cX9_parts 195 = .ok (.goto (-171), 3) := by decide +kernel
theorem dX9_parts_198 : decode cX9_parts 198 = .ok (.lload 4, 2) := by decide +kernel
theorem dX9_parts_200 : decode cX9_parts 200 = .ok (.lconst 1, 1) := by decide +kernel
theorem dX9_parts_201 : decode cX9_parts 201 = .ok (.lcmp, 1) := by decide +kernel
theorem dX9_parts_202 : decode cX9_parts 202 = .ok (.ifCond .le 55, 3) := by decide +kernel
theorem dX9_parts_205 : decode cX9_parts 205 = .ok (.aload_n 0, 1) := by decide +kernel
theorem dX9_parts_206 : decode cX9_parts 206 = .ok (.aload_n 0, 1) := by decide +kernel
theorem dX9_parts_207 : decode cX9_parts 207 = .ok (.getfield 43, 3) := by decide +kernel
theorem dX9_parts_210 : decode cX9_parts 210 = .ok (.lconst 1, 1) := by decide +kernel
theorem dX9_parts_211 : decode cX9_parts 211 = .ok (.lcmp, 1) := by decide +kernel
theorem dX9_parts_212 : decode cX9_parts 212 = .ok (.ifCond .ne 8, 3) := by decide +kernel
theorem dX9_parts_215 : decode cX9_parts 215 = .ok (.lload 4, 2) := by decide +kernel
theorem dX9_parts_217 : decode cX9_parts 217 = .ok (.goto 7, 3) := by decide +kernel
theorem dX9_parts_220 : decode cX9_parts 220 = .ok (.aload_n 0, 1) := by decide +kernel
theorem dX9_parts_221 : decode cX9_parts 221 = .ok (.getfield 43, 3) := by decide +kernel
theorem dX9_parts_224 : decode cX9_parts 224 = .ok (.putfield 43, 3) := by decide +kernel
theorem dX9_parts_227 : decode cX9_parts 227 = .ok (.aload_n 0, 1) := by decide +kernel
theorem dX9_parts_228 : decode cX9_parts 228 = .ok (.lload 4, 2) := by decide +kernel
theorem dX9_parts_230 : decode cX9_parts 230 = .ok (.putfield 47, 3) := by decide +kernel
theorem dX9_parts_233 : decode cX9_parts 233 = .ok (.iload_n 3, 1) := by decide +kernel
theorem dX9_parts_234 : decode cX9_parts 234 = .ok (.ifCond .eq 20, 3) := by decide +kernel
theorem dX9_parts_237 : decode cX9_parts 237 = .ok (.aload_n 0, 1) := by decide +kernel
theorem dX9_parts_238 : decode cX9_parts 238 = .ok (.getfield 28, 3) := by decide +kernel
theorem dX9_parts_241 : decode cX9_parts 241 = .ok (.iload 6, 2) := by decide +kernel
theorem dX9_parts_243 : decode cX9_parts 243 = .ok (.lload 4, 2) := by decide +kernel
theorem dX9_parts_245 : decode cX9_parts 245 = .ok (.lastore, 1) := by decide +kernel
theorem dX9_parts_246 : decode cX9_parts 246 = .ok (.aload_n 0, 1) := by decide +kernel
theorem dX9_parts_247 : decode cX9_parts 247 = .ok (.getfield 31, 3) := by decide +kernel
theorem dX9_parts_250 : decode cX9_parts 250 = .ok (.iload 6, 2) := by decide +kernel
theorem dX9_parts_252 : decode cX9_parts 252 = .ok (.iconst 1, 1) := by decide +kernel
theorem dX9_parts_253 : decode cX9_parts 253 = .ok (.iastore, 1) := by decide +kernel
theorem dX9_parts_254 : decode cX9_parts 254 = .ok (.iinc 6 1, 3) := by decide +kernel
theorem dX9_parts_257 : decode cX9_parts 257 = .ok (.iload_n 3, 1) := by decide +kernel
theorem dX9_parts_258 : decode cX9_parts 258 = .ok (.ifCond .eq 9, 3) := by decide +kernel
theorem dX9_parts_261 : decode cX9_parts 261 = .ok (.aload_n 0, 1) := by decide +kernel
theorem dX9_parts_262 : decode cX9_parts 262 = .ok (.iload 6, 2) := by decide +kernel
theorem dX9_parts_264 : decode cX9_parts 264 = .ok (.putfield 54, 3) := by decide +kernel
theorem dX9_parts_267 : decode cX9_parts 267 = .ok (.return_, 1) := by decide +kernel
theorem dX9_isPrime_0 : decode cX9_isPrime 0 = .ok (.lload_n 1, 1) := by decide +kernel
theorem dX9_isPrime_1 : decode cX9_isPrime 1 = .ok (.ldc2_w 57, 3) := by decide +kernel
theorem dX9_isPrime_4 : decode cX9_isPrime 4 = .ok (.lcmp, 1) := by decide +kernel
theorem dX9_isPrime_5 : decode cX9_isPrime 5 = .ok (.ifCond .ge 5, 3) := by decide +kernel
theorem dX9_isPrime_8 : decode cX9_isPrime 8 = .ok (.iconst 0, 1) := by decide +kernel
theorem dX9_isPrime_9 : decode cX9_isPrime 9 = .ok (.ireturn, 1) := by decide +kernel
theorem dX9_isPrime_10 : decode cX9_isPrime 10 = .ok (.iconst 0, 1) := by decide +kernel
theorem dX9_isPrime_11 : decode cX9_isPrime 11 = .ok (.istore_n 3, 1) := by decide +kernel
theorem dX9_isPrime_12 : decode cX9_isPrime 12 = .ok (.iload_n 3, 1) := by decide +kernel
theorem dX9_isPrime_13 : decode cX9_isPrime 13 = .ok (.aload_n 0, 1) := by decide +kernel
theorem dX9_isPrime_14 : decode cX9_isPrime 14 = .ok (.getfield 39, 3) := by decide +kernel
theorem dX9_isPrime_17 : decode cX9_isPrime 17 = .ok (.if_icmp .ge 45, 3) := by decide +kernel
theorem dX9_isPrime_20 : decode cX9_isPrime 20 = .ok (.aload_n 0, 1) := by decide +kernel
theorem dX9_isPrime_21 : decode cX9_isPrime 21 = .ok (.getfield 7, 3) := by decide +kernel
theorem dX9_isPrime_24 : decode cX9_isPrime 24 = .ok (.iload_n 3, 1) := by decide +kernel
theorem dX9_isPrime_25 : decode cX9_isPrime 25 = .ok (.iaload, 1) := by decide +kernel
theorem dX9_isPrime_26 : decode cX9_isPrime 26 = .ok (.i2l, 1) := by decide +kernel
theorem dX9_isPrime_27 : decode cX9_isPrime 27 = .ok (.aload_n 0, 1) := by decide +kernel
theorem dX9_isPrime_28 : decode cX9_isPrime 28 = .ok (.getfield 7, 3) := by decide +kernel
theorem dX9_isPrime_31 : decode cX9_isPrime 31 = .ok (.iload_n 3, 1) := by decide +kernel
theorem dX9_isPrime_32 : decode cX9_isPrime 32 = .ok (.iaload, 1) := by decide +kernel
theorem dX9_isPrime_33 : decode cX9_isPrime 33 = .ok (.i2l, 1) := by decide +kernel
theorem dX9_isPrime_34 : decode cX9_isPrime 34 = .ok (.lmul, 1) := by decide +kernel
theorem dX9_isPrime_35 : decode cX9_isPrime 35 = .ok (.lload_n 1, 1) := by decide +kernel
theorem dX9_isPrime_36 : decode cX9_isPrime 36 = .ok (.lcmp, 1) := by decide +kernel
theorem dX9_isPrime_37 : decode cX9_isPrime 37 = .ok (.ifCond .gt 25, 3) := by decide +kernel
theorem dX9_isPrime_40 : decode cX9_isPrime 40 = .ok (.lload_n 1, 1) := by decide +kernel
theorem dX9_isPrime_41 : decode cX9_isPrime 41 = .ok (.aload_n 0, 1) := by decide +kernel
theorem dX9_isPrime_42 : decode cX9_isPrime 42 = .ok (.getfield 7, 3) := by decide +kernel
theorem dX9_isPrime_45 : decode cX9_isPrime 45 = .ok (.iload_n 3, 1) := by decide +kernel
theorem dX9_isPrime_46 : decode cX9_isPrime 46 = .ok (.iaload, 1) := by decide +kernel
theorem dX9_isPrime_47 : decode cX9_isPrime 47 = .ok (.i2l, 1) := by decide +kernel
theorem dX9_isPrime_48 : decode cX9_isPrime 48 = .ok (.lrem, 1) := by decide +kernel
theorem dX9_isPrime_49 : decode cX9_isPrime 49 = .ok (.lconst 0, 1) := by decide +kernel
theorem dX9_isPrime_50 : decode cX9_isPrime 50 = .ok (.lcmp, 1) := by decide +kernel
theorem dX9_isPrime_51 : decode cX9_isPrime 51 = .ok (.ifCond .ne 5, 3) := by decide +kernel
theorem dX9_isPrime_54 : decode cX9_isPrime 54 = .ok (.iconst 0, 1) := by decide +kernel
theorem dX9_isPrime_55 : decode cX9_isPrime 55 = .ok (.ireturn, 1) := by decide +kernel
theorem dX9_isPrime_56 : decode cX9_isPrime 56 = .ok (.iinc 3 1, 3) := by decide +kernel
theorem dX9_isPrime_59 : decode cX9_isPrime 59 = .ok (.goto (-47), 3) := by decide +kernel
theorem dX9_isPrime_62 : decode cX9_isPrime 62 = .ok (.iconst 1, 1) := by decide +kernel
theorem dX9_isPrime_63 : decode cX9_isPrime 63 = .ok (.ireturn, 1) := by decide +kernel
theorem dX9_span_0 : decode cX9_span 0 = .ok (.iload_n 3, 1) := by decide +kernel
theorem dX9_span_1 : decode cX9_span 1 = .ok (.i2l, 1) := by decide +kernel
theorem dX9_span_2 : decode cX9_span 2 = .ok (.lconst 1, 1) := by decide +kernel
theorem dX9_span_3 : decode cX9_span 3 = .ok (.ldc2_w 59, 3) := by decide +kernel
theorem dX9_span_6 : decode cX9_span 6 = .ok (.invokestatic 61, 3) := by decide +kernel
theorem dX9_span_9 : decode cX9_span 9 = .ok (.ifCond .eq 27, 3) := by decide +kernel
theorem dX9_span_12 : decode cX9_span 12 = .ok (.lload_n 1, 1) := by decide +kernel
theorem dX9_span_13 : decode cX9_span 13 = .ok (.lconst 1, 1) := by decide +kernel
theorem dX9_span_14 : decode cX9_span 14 = .ok (.ldc2_w 65, 3) := by decide +kernel
theorem dX9_span_17 : decode cX9_span 17 = .ok (.invokestatic 61, 3) := by decide +kernel
theorem dX9_span_20 : decode cX9_span 20 = .ok (.ifCond .eq 16, 3) := by decide +kernel
theorem dX9_span_23 : decode cX9_span 23 = .ok (.lload_n 1, 1) := by decide +kernel
theorem dX9_span_24 : decode cX9_span 24 = .ok (.iload_n 3, 1) := by decide +kernel
theorem dX9_span_25 : decode cX9_span 25 = .ok (.i2l, 1) := by decide +kernel
theorem dX9_span_26 : decode cX9_span 26 = .ok (.ladd, 1) := by decide +kernel
theorem dX9_span_27 : decode cX9_span 27 = .ok (.lconst 1, 1) := by decide +kernel
theorem dX9_span_28 : decode cX9_span 28 = .ok (.lsub, 1) := by decide +kernel
theorem dX9_span_29 : decode cX9_span 29 = .ok (.ldc2_w 65, 3) := by decide +kernel
theorem dX9_span_32 : decode cX9_span 32 = .ok (.lcmp, 1) := by decide +kernel
theorem dX9_span_33 : decode cX9_span 33 = .ok (.ifCond .le 5, 3) := by decide +kernel
theorem dX9_span_36 : decode cX9_span 36 = .ok (.iconst (-1), 1) := by decide +kernel
theorem dX9_span_37 : decode cX9_span 37 = .ok (.ireturn, 1) := by decide +kernel
theorem dX9_span_38 : decode cX9_span 38 = .ok (.aload_n 0, 1) := by decide +kernel
theorem dX9_span_39 : decode cX9_span 39 = .ok (.iconst 1, 1) := by decide +kernel
theorem dX9_span_40 : decode cX9_span 40 = .ok (.putfield 67, 3) := by decide +kernel
theorem dX9_span_43 : decode cX9_span 43 = .ok (.aload_n 0, 1) := by decide +kernel
theorem dX9_span_44 : decode cX9_span 44 = .ok (.lload_n 1, 1) := by decide +kernel
theorem dX9_span_45 : decode cX9_span 45 = .ok (.putfield 70, 3) := by decide +kernel
theorem dX9_span_48 : decode cX9_span 48 = .ok (.aload_n 0, 1) := by decide +kernel
theorem dX9_span_49 : decode cX9_span 49 = .ok (.iload_n 3, 1) := by decide +kernel
theorem dX9_span_50 : decode cX9_span 50 = .ok (.putfield 73, 3) := by decide +kernel
theorem dX9_span_53 : decode cX9_span 53 = .ok (.iconst 0, 1) := by decide +kernel
theorem dX9_span_54 : decode cX9_span 54 = .ok (.istore 4, 2) := by decide +kernel
theorem dX9_span_56 : decode cX9_span 56 = .ok (.iload 4, 2) := by decide +kernel
theorem dX9_span_58 : decode cX9_span 58 = .ok (.iload_n 3, 1) := by decide +kernel
theorem dX9_span_59 : decode cX9_span 59 = .ok (.if_icmp .ge 52, 3) := by decide +kernel
theorem dX9_span_62 : decode cX9_span 62 = .ok (.aload_n 0, 1) := by decide +kernel
theorem dX9_span_63 : decode cX9_span 63 = .ok (.lload_n 1, 1) := by decide +kernel
theorem dX9_span_64 : decode cX9_span 64 = .ok (.iload 4, 2) := by decide +kernel
theorem dX9_span_66 : decode cX9_span 66 = .ok (.i2l, 1) := by decide +kernel
theorem dX9_span_67 : decode cX9_span 67 = .ok (.ladd, 1) := by decide +kernel
theorem dX9_span_68 : decode cX9_span 68 = .ok (.iconst 0, 1) := by decide +kernel
theorem dX9_span_69 : decode cX9_span 69 = .ok (.invokevirtual 76, 3) := by decide +kernel
theorem dX9_span_72 : decode cX9_span 72 = .ok (.aload_n 0, 1) := by decide +kernel
theorem dX9_span_73 : decode cX9_span 73 = .ok (.getfield 18, 3) := by decide +kernel
theorem dX9_span_76 : decode cX9_span 76 = .ok (.iload 4, 2) := by decide +kernel
theorem dX9_span_78 : decode cX9_span 78 = .ok (.aload_n 0, 1) := by decide +kernel
theorem dX9_span_79 : decode cX9_span 79 = .ok (.getfield 43, 3) := by decide +kernel
theorem dX9_span_82 : decode cX9_span 82 = .ok (.lastore, 1) := by decide +kernel
theorem dX9_span_83 : decode cX9_span 83 = .ok (.aload_n 0, 1) := by decide +kernel
theorem dX9_span_84 : decode cX9_span 84 = .ok (.getfield 22, 3) := by decide +kernel
theorem dX9_span_87 : decode cX9_span 87 = .ok (.iload 4, 2) := by decide +kernel
theorem dX9_span_89 : decode cX9_span 89 = .ok (.aload_n 0, 1) := by decide +kernel
theorem dX9_span_90 : decode cX9_span 90 = .ok (.getfield 47, 3) := by decide +kernel
theorem dX9_span_93 : decode cX9_span 93 = .ok (.lastore, 1) := by decide +kernel
theorem dX9_span_94 : decode cX9_span 94 = .ok (.aload_n 0, 1) := by decide +kernel
theorem dX9_span_95 : decode cX9_span 95 = .ok (.getfield 25, 3) := by decide +kernel
theorem dX9_span_98 : decode cX9_span 98 = .ok (.iload 4, 2) := by decide +kernel
theorem dX9_span_100 : decode cX9_span 100 = .ok (.aload_n 0, 1) := by decide +kernel
theorem dX9_span_101 : decode cX9_span 101 = .ok (.getfield 50, 3) := by decide +kernel
theorem dX9_span_104 : decode cX9_span 104 = .ok (.bastore, 1) := by decide +kernel
theorem dX9_span_105 : decode cX9_span 105 = .ok (.iinc 4 1, 3) := by decide +kernel
theorem dX9_span_108 : decode cX9_span 108 = .ok (.goto (-52), 3) := by decide +kernel
theorem dX9_span_111 : decode cX9_span 111 = .ok (.aload_n 0, 1) := by decide +kernel
theorem dX9_span_112 : decode cX9_span 112 = .ok (.iconst 0, 1) := by decide +kernel
theorem dX9_span_113 : decode cX9_span 113 = .ok (.invokevirtual 80, 3) := by decide +kernel
theorem dX9_span_116 : decode cX9_span 116 = .ok (.ireturn, 1) := by decide +kernel
theorem dX9_least_0 : decode cX9_least 0 = .ok (.aload_n 0, 1) := by decide +kernel
theorem dX9_least_1 : decode cX9_least 1 = .ok (.getfield 67, 3) := by decide +kernel
theorem dX9_least_4 : decode cX9_least 4 = .ok (.ifCond .eq 28, 3) := by decide +kernel
theorem dX9_least_7 : decode cX9_least 7 = .ok (.iload_n 1, 1) := by decide +kernel
theorem dX9_least_8 : decode cX9_least 8 = .ok (.i2l, 1) := by decide +kernel
theorem dX9_least_9 : decode cX9_least 9 = .ok (.lconst 0, 1) := by decide +kernel
theorem dX9_least_10 : decode cX9_least 10 = .ok (.aload_n 0, 1) := by decide +kernel
theorem dX9_least_11 : decode cX9_least 11 = .ok (.getfield 73, 3) := by decide +kernel
theorem dX9_least_14 : decode cX9_least 14 = .ok (.iconst 1, 1) := by decide +kernel
theorem dX9_least_15 : decode cX9_least 15 = .ok (.isub, 1) := by decide +kernel
theorem dX9_least_16 : decode cX9_least 16 = .ok (.i2l, 1) := by decide +kernel
theorem dX9_least_17 : decode cX9_least 17 = .ok (.invokestatic 61, 3) := by decide +kernel
theorem dX9_least_20 : decode cX9_least 20 = .ok (.ifCond .eq 12, 3) := by decide +kernel
theorem dX9_least_23 : decode cX9_least 23 = .ok (.aload_n 0, 1) := by decide +kernel
theorem dX9_least_24 : decode cX9_least 24 = .ok (.getfield 18, 3) := by decide +kernel
theorem dX9_least_27 : decode cX9_least 27 = .ok (.iload_n 1, 1) := by decide +kernel
theorem dX9_least_28 : decode cX9_least 28 = .ok (.laload, 1) := by decide +kernel
theorem dX9_least_29 : decode cX9_least 29 = .ok (.goto 4, 3) := by decide +kernel
theorem dX9_least_32 : decode cX9_least 32 = .ok (.lconst 0, 1) := by decide +kernel
theorem dX9_least_33 : decode cX9_least 33 = .ok (.lreturn, 1) := by decide +kernel
theorem dX9_isPrimeAt_0 : decode cX9_isPrimeAt 0 = .ok (.iload_n 1, 1) := by decide +kernel
theorem dX9_isPrimeAt_1 : decode cX9_isPrimeAt 1 = .ok (.i2l, 1) := by decide +kernel
theorem dX9_isPrimeAt_2 : decode cX9_isPrimeAt 2 = .ok (.lconst 0, 1) := by decide +kernel
theorem dX9_isPrimeAt_3 : decode cX9_isPrimeAt 3 = .ok (.aload_n 0, 1) := by decide +kernel
theorem dX9_isPrimeAt_4 : decode cX9_isPrimeAt 4 = .ok (.getfield 73, 3) := by decide +kernel
theorem dX9_isPrimeAt_7 : decode cX9_isPrimeAt 7 = .ok (.iconst 1, 1) := by decide +kernel
theorem dX9_isPrimeAt_8 : decode cX9_isPrimeAt 8 = .ok (.isub, 1) := by decide +kernel
theorem dX9_isPrimeAt_9 : decode cX9_isPrimeAt 9 = .ok (.i2l, 1) := by decide +kernel
theorem dX9_isPrimeAt_10 : decode cX9_isPrimeAt 10 = .ok (.invokestatic 61, 3) := by decide +kernel
theorem dX9_isPrimeAt_13 : decode cX9_isPrimeAt 13 = .ok (.ifCond .eq 36, 3) := by decide +kernel
theorem dX9_isPrimeAt_16 : decode cX9_isPrimeAt 16 = .ok (.aload_n 0, 1) := by decide +kernel
theorem dX9_isPrimeAt_17 : decode cX9_isPrimeAt 17 = .ok (.getfield 70, 3) := by decide +kernel
theorem dX9_isPrimeAt_20 : decode cX9_isPrimeAt 20 = .ok (.iload_n 1, 1) := by decide +kernel
theorem dX9_isPrimeAt_21 : decode cX9_isPrimeAt 21 = .ok (.i2l, 1) := by decide +kernel
theorem dX9_isPrimeAt_22 : decode cX9_isPrimeAt 22 = .ok (.ladd, 1) := by decide +kernel
theorem dX9_isPrimeAt_23 : decode cX9_isPrimeAt 23 = .ok (.lconst 1, 1) := by decide +kernel
theorem dX9_isPrimeAt_24 : decode cX9_isPrimeAt 24 = .ok (.lcmp, 1) := by decide +kernel
theorem dX9_isPrimeAt_25 : decode cX9_isPrimeAt 25 = .ok (.ifCond .le 24, 3) := by decide +kernel
theorem dX9_isPrimeAt_28 : decode cX9_isPrimeAt 28 = .ok (.aload_n 0, 1) := by decide +kernel
theorem dX9_isPrimeAt_29 : decode cX9_isPrimeAt 29 = .ok (.getfield 18, 3) := by decide +kernel
theorem dX9_isPrimeAt_32 : decode cX9_isPrimeAt 32 = .ok (.iload_n 1, 1) := by decide +kernel
theorem dX9_isPrimeAt_33 : decode cX9_isPrimeAt 33 = .ok (.laload, 1) := by decide +kernel
theorem dX9_isPrimeAt_34 : decode cX9_isPrimeAt 34 = .ok (.aload_n 0, 1) := by decide +kernel
theorem dX9_isPrimeAt_35 : decode cX9_isPrimeAt 35 = .ok (.getfield 70, 3) := by decide +kernel
theorem dX9_isPrimeAt_38 : decode cX9_isPrimeAt 38 = .ok (.iload_n 1, 1) := by decide +kernel
theorem dX9_isPrimeAt_39 : decode cX9_isPrimeAt 39 = .ok (.i2l, 1) := by decide +kernel
theorem dX9_isPrimeAt_40 : decode cX9_isPrimeAt 40 = .ok (.ladd, 1) := by decide +kernel
theorem dX9_isPrimeAt_41 : decode cX9_isPrimeAt 41 = .ok (.lcmp, 1) := by decide +kernel
theorem dX9_isPrimeAt_42 : decode cX9_isPrimeAt 42 = .ok (.ifCond .ne 7, 3) := by decide +kernel
theorem dX9_isPrimeAt_45 : decode cX9_isPrimeAt 45 = .ok (.iconst 1, 1) := by decide +kernel
theorem dX9_isPrimeAt_46 : decode cX9_isPrimeAt 46 = .ok (.goto 4, 3) := by decide +kernel
theorem dX9_isPrimeAt_49 : decode cX9_isPrimeAt 49 = .ok (.iconst 0, 1) := by decide +kernel
theorem dX9_isPrimeAt_50 : decode cX9_isPrimeAt 50 = .ok (.ireturn, 1) := by decide +kernel
theorem dX9_spanned_0 : decode cX9_spanned 0 = .ok (.aload_n 0, 1) := by decide +kernel
theorem dX9_spanned_1 : decode cX9_spanned 1 = .ok (.getfield 67, 3) := by decide +kernel
theorem dX9_spanned_4 : decode cX9_spanned 4 = .ok (.ifCond .ne 14, 3) := by decide +kernel
theorem dX9_spanned_7 : decode cX9_spanned 7 = .ok (.iload_n 1, 1) := by decide +kernel
theorem dX9_spanned_8 : decode cX9_spanned 8 = .ok (.iconst 4, 1) := by decide +kernel
theorem dX9_spanned_9 : decode cX9_spanned 9 = .ok (.if_icmp .ne 7, 3) := by decide +kernel
theorem dX9_spanned_12 : decode cX9_spanned 12 = .ok (.iconst 0, 1) := by decide +kernel
theorem dX9_spanned_13 : decode cX9_spanned 13 = .ok (.goto 4, 3) := by decide +kernel
theorem dX9_spanned_16 : decode cX9_spanned 16 = .ok (.iconst (-1), 1) := by decide +kernel
theorem dX9_spanned_17 : decode cX9_spanned 17 = .ok (.ireturn, 1) := by decide +kernel
theorem dX9_spanned_18 : decode cX9_spanned 18 = .ok (.iconst 0, 1) := by decide +kernel
theorem dX9_spanned_19 : decode cX9_spanned 19 = .ok (.istore_n 2, 1) := by decide +kernel
theorem dX9_spanned_20 : decode cX9_spanned 20 = .ok (.iconst (-1), 1) := by decide +kernel
theorem dX9_spanned_21 : decode cX9_spanned 21 = .ok (.istore_n 3, 1) := by decide +kernel
theorem dX9_spanned_22 : decode cX9_spanned 22 = .ok (.iconst 0, 1) := by decide +kernel
theorem dX9_spanned_23 : decode cX9_spanned 23 = .ok (.istore 4, 2) := by decide +kernel
theorem dX9_spanned_25 : decode cX9_spanned 25 = .ok (.iconst 0, 1) := by decide +kernel
theorem dX9_spanned_26 : decode cX9_spanned 26 = .ok (.istore 5, 2) := by decide +kernel
theorem dX9_spanned_28 : decode cX9_spanned 28 = .ok (.iconst 0, 1) := by decide +kernel
theorem dX9_spanned_29 : decode cX9_spanned 29 = .ok (.istore 6, 2) := by decide +kernel
theorem dX9_spanned_31 : decode cX9_spanned 31 = .ok (.iconst 0, 1) := by decide +kernel
theorem dX9_spanned_32 : decode cX9_spanned 32 = .ok (.istore 7, 2) := by decide +kernel
theorem dX9_spanned_34 : decode cX9_spanned 34 = .ok (.iload 7, 2) := by decide +kernel
theorem dX9_spanned_36 : decode cX9_spanned 36 = .ok (.aload_n 0, 1) := by decide +kernel
theorem dX9_spanned_37 : decode cX9_spanned 37 = .ok (.getfield 73, 3) := by decide +kernel
theorem dX9_spanned_40 : decode cX9_spanned 40 = .ok (.if_icmp .ge 89, 3) := by decide +kernel
theorem dX9_spanned_43 : decode cX9_spanned 43 = .ok (.iload 6, 2) := by decide +kernel
theorem dX9_spanned_45 : decode cX9_spanned 45 = .ok (.aload_n 0, 1) := by decide +kernel
theorem dX9_spanned_46 : decode cX9_spanned 46 = .ok (.getfield 25, 3) := by decide +kernel
theorem dX9_spanned_49 : decode cX9_spanned 49 = .ok (.iload 7, 2) := by decide +kernel
theorem dX9_spanned_51 : decode cX9_spanned 51 = .ok (.baload, 1) := by decide +kernel
theorem dX9_spanned_52 : decode cX9_spanned 52 = .ok (.ifCond .eq 7, 3) := by decide +kernel
theorem dX9_spanned_55 : decode cX9_spanned 55 = .ok (.iconst 0, 1) := by decide +kernel
theorem dX9_spanned_56 : decode cX9_spanned 56 = .ok (.goto 4, 3) := by decide +kernel
theorem dX9_spanned_59 : decode cX9_spanned 59 = .ok (.iconst 1, 1) := by decide +kernel
theorem dX9_spanned_60 : decode cX9_spanned 60 = .ok (.iadd, 1) := by decide +kernel
theorem dX9_spanned_61 : decode cX9_spanned 61 = .ok (.istore 6, 2) := by decide +kernel
theorem dX9_spanned_63 : decode cX9_spanned 63 = .ok (.aload_n 0, 1) := by decide +kernel
theorem dX9_spanned_64 : decode cX9_spanned 64 = .ok (.iload 7, 2) := by decide +kernel
theorem dX9_spanned_66 : decode cX9_spanned 66 = .ok (.invokevirtual 84, 3) := by decide +kernel
theorem dX9_spanned_69 : decode cX9_spanned 69 = .ok (.ifCond .eq 54, 3) := by decide +kernel
theorem dX9_spanned_72 : decode cX9_spanned 72 = .ok (.iinc 2 1, 3) := by decide +kernel
theorem dX9_spanned_75 : decode cX9_spanned 75 = .ok (.iload_n 3, 1) := by decide +kernel
theorem dX9_spanned_76 : decode cX9_spanned 76 = .ok (.ifCond .lt 19, 3) := by decide +kernel
theorem dX9_spanned_79 : decode cX9_spanned 79 = .ok (.iload 7, 2) := by decide +kernel
theorem dX9_spanned_81 : decode cX9_spanned 81 = .ok (.iload_n 3, 1) := by decide +kernel
theorem dX9_spanned_82 : decode cX9_spanned 82 = .ok (.isub, 1) := by decide +kernel
theorem dX9_spanned_83 : decode cX9_spanned 83 = .ok (.iload 4, 2) := by decide +kernel
theorem dX9_spanned_85 : decode cX9_spanned 85 = .ok (.if_icmp .le 10, 3) := by decide +kernel
theorem dX9_spanned_88 : decode cX9_spanned 88 = .ok (.iload 7, 2) := by decide +kernel
theorem dX9_spanned_90 : decode cX9_spanned 90 = .ok (.iload_n 3, 1) := by decide +kernel
theorem dX9_spanned_91 : decode cX9_spanned 91 = .ok (.isub, 1) := by decide +kernel
theorem dX9_spanned_92 : decode cX9_spanned 92 = .ok (.goto 5, 3) := by decide +kernel
theorem dX9_spanned_95 : decode cX9_spanned 95 = .ok (.iload 4, 2) := by decide +kernel
theorem dX9_spanned_97 : decode cX9_spanned 97 = .ok (.istore 4, 2) := by decide +kernel
theorem dX9_spanned_99 : decode cX9_spanned 99 = .ok (.iload 7, 2) := by decide +kernel
theorem dX9_spanned_101 : decode cX9_spanned 101 = .ok (.istore_n 3, 1) := by decide +kernel
theorem dX9_spanned_102 : decode cX9_spanned 102 = .ok (.iload 5, 2) := by decide +kernel
theorem dX9_spanned_104 : decode cX9_spanned 104 = .ok (.aload_n 0, 1) := by decide +kernel
theorem dX9_spanned_105 : decode cX9_spanned 105 = .ok (.iload 7, 2) := by decide +kernel
theorem dX9_spanned_107 : decode cX9_spanned 107 = .ok (.iconst 2, 1) := by decide +kernel
theorem dX9_spanned_108 : decode cX9_spanned 108 = .ok (.iadd, 1) := by decide +kernel
theorem dX9_spanned_109 : decode cX9_spanned 109 = .ok (.invokevirtual 84, 3) := by decide +kernel
theorem dX9_spanned_112 : decode cX9_spanned 112 = .ok (.ifCond .eq 7, 3) := by decide +kernel
theorem dX9_spanned_115 : decode cX9_spanned 115 = .ok (.iconst 1, 1) := by decide +kernel
theorem dX9_spanned_116 : decode cX9_spanned 116 = .ok (.goto 4, 3) := by decide +kernel
theorem dX9_spanned_119 : decode cX9_spanned 119 = .ok (.iconst 0, 1) := by decide +kernel
theorem dX9_spanned_120 : decode cX9_spanned 120 = .ok (.iadd, 1) := by decide +kernel
theorem dX9_spanned_121 : decode cX9_spanned 121 = .ok (.istore 5, 2) := by decide +kernel
theorem dX9_spanned_123 : decode cX9_spanned 123 = .ok (.iinc 7 1, 3) := by decide +kernel
theorem dX9_spanned_126 : decode cX9_spanned 126 = .ok (.goto (-92), 3) := by decide +kernel
theorem dX9_spanned_129 : decode cX9_spanned 129 = .ok (.iload_n 1, 1) := by decide +kernel
theorem dX9_spanned_130 : decode cX9_spanned 130 = .ok (.tableswitch 50 0 4 #[34, 36, 39, 42, 45], 34) := by decide +kernel
theorem dX9_spanned_164 : decode cX9_spanned 164 = .ok (.iload_n 2, 1) := by decide +kernel
theorem dX9_spanned_165 : decode cX9_spanned 165 = .ok (.ireturn, 1) := by decide +kernel
theorem dX9_spanned_166 : decode cX9_spanned 166 = .ok (.iload 4, 2) := by decide +kernel
theorem dX9_spanned_168 : decode cX9_spanned 168 = .ok (.ireturn, 1) := by decide +kernel
theorem dX9_spanned_169 : decode cX9_spanned 169 = .ok (.iload 5, 2) := by decide +kernel
theorem dX9_spanned_171 : decode cX9_spanned 171 = .ok (.ireturn, 1) := by decide +kernel
theorem dX9_spanned_172 : decode cX9_spanned 172 = .ok (.iload 6, 2) := by decide +kernel
theorem dX9_spanned_174 : decode cX9_spanned 174 = .ok (.ireturn, 1) := by decide +kernel
theorem dX9_spanned_175 : decode cX9_spanned 175 = .ok (.aload_n 0, 1) := by decide +kernel
theorem dX9_spanned_176 : decode cX9_spanned 176 = .ok (.getfield 73, 3) := by decide +kernel
theorem dX9_spanned_179 : decode cX9_spanned 179 = .ok (.ireturn, 1) := by decide +kernel
theorem dX9_spanned_180 : decode cX9_spanned 180 = .ok (.iconst (-1), 1) := by decide +kernel
theorem dX9_spanned_181 : decode cX9_spanned 181 = .ok (.ireturn, 1) := by decide +kernel
theorem dX9_smooth_0 : decode cX9_smooth 0 = .ok (.aload_n 0, 1) := by decide +kernel
theorem dX9_smooth_1 : decode cX9_smooth 1 = .ok (.getfield 67, 3) := by decide +kernel
theorem dX9_smooth_4 : decode cX9_smooth 4 = .ok (.ifCond .eq 14, 3) := by decide +kernel
theorem dX9_smooth_7 : decode cX9_smooth 7 = .ok (.lload_n 1, 1) := by decide +kernel
theorem dX9_smooth_8 : decode cX9_smooth 8 = .ok (.lconst 1, 1) := by decide +kernel
theorem dX9_smooth_9 : decode cX9_smooth 9 = .ok (.ldc2_w 65, 3) := by decide +kernel
theorem dX9_smooth_12 : decode cX9_smooth 12 = .ok (.invokestatic 61, 3) := by decide +kernel
theorem dX9_smooth_15 : decode cX9_smooth 15 = .ok (.ifCond .ne 5, 3) := by decide +kernel
theorem dX9_smooth_18 : decode cX9_smooth 18 = .ok (.iconst (-1), 1) := by decide +kernel
theorem dX9_smooth_19 : decode cX9_smooth 19 = .ok (.ireturn, 1) := by decide +kernel
theorem dX9_smooth_20 : decode cX9_smooth 20 = .ok (.iconst 0, 1) := by decide +kernel
theorem dX9_smooth_21 : decode cX9_smooth 21 = .ok (.istore 4, 2) := by decide +kernel
theorem dX9_smooth_23 : decode cX9_smooth 23 = .ok (.iconst 0, 1) := by decide +kernel
theorem dX9_smooth_24 : decode cX9_smooth 24 = .ok (.istore 5, 2) := by decide +kernel
theorem dX9_smooth_26 : decode cX9_smooth 26 = .ok (.iload 5, 2) := by decide +kernel
theorem dX9_smooth_28 : decode cX9_smooth 28 = .ok (.aload_n 0, 1) := by decide +kernel
theorem dX9_smooth_29 : decode cX9_smooth 29 = .ok (.getfield 73, 3) := by decide +kernel
theorem dX9_smooth_32 : decode cX9_smooth 32 = .ok (.if_icmp .ge 75, 3) := by decide +kernel
theorem dX9_smooth_35 : decode cX9_smooth 35 = .ok (.aload_n 0, 1) := by decide +kernel
theorem dX9_smooth_36 : decode cX9_smooth 36 = .ok (.getfield 70, 3) := by decide +kernel
theorem dX9_smooth_39 : decode cX9_smooth 39 = .ok (.iload 5, 2) := by decide +kernel
theorem dX9_smooth_41 : decode cX9_smooth 41 = .ok (.i2l, 1) := by decide +kernel
theorem dX9_smooth_42 : decode cX9_smooth 42 = .ok (.ladd, 1) := by decide +kernel
theorem dX9_smooth_43 : decode cX9_smooth 43 = .ok (.lconst 1, 1) := by decide +kernel
theorem dX9_smooth_44 : decode cX9_smooth 44 = .ok (.lcmp, 1) := by decide +kernel
theorem dX9_smooth_45 : decode cX9_smooth 45 = .ok (.ifCond .ne 7, 3) := by decide +kernel
theorem dX9_smooth_48 : decode cX9_smooth 48 = .ok (.iconst 1, 1) := by decide +kernel
theorem dX9_smooth_49 : decode cX9_smooth 49 = .ok (.goto 4, 3) := by decide +kernel
theorem dX9_smooth_52 : decode cX9_smooth 52 = .ok (.iconst 0, 1) := by decide +kernel
theorem dX9_smooth_53 : decode cX9_smooth 53 = .ok (.istore 6, 2) := by decide +kernel
theorem dX9_smooth_55 : decode cX9_smooth 55 = .ok (.iload 4, 2) := by decide +kernel
theorem dX9_smooth_57 : decode cX9_smooth 57 = .ok (.iload 6, 2) := by decide +kernel
theorem dX9_smooth_59 : decode cX9_smooth 59 = .ok (.ifCond .ne 34, 3) := by decide +kernel
theorem dX9_smooth_62 : decode cX9_smooth 62 = .ok (.iload_n 3, 1) := by decide +kernel
theorem dX9_smooth_63 : decode cX9_smooth 63 = .ok (.ifCond .eq 18, 3) := by decide +kernel
theorem dX9_smooth_66 : decode cX9_smooth 66 = .ok (.aload_n 0, 1) := by decide +kernel
theorem dX9_smooth_67 : decode cX9_smooth 67 = .ok (.getfield 18, 3) := by decide +kernel
theorem dX9_smooth_70 : decode cX9_smooth 70 = .ok (.iload 5, 2) := by decide +kernel
theorem dX9_smooth_72 : decode cX9_smooth 72 = .ok (.laload, 1) := by decide +kernel
theorem dX9_smooth_73 : decode cX9_smooth 73 = .ok (.lload_n 1, 1) := by decide +kernel
theorem dX9_smooth_74 : decode cX9_smooth 74 = .ok (.lcmp, 1) := by decide +kernel
theorem dX9_smooth_75 : decode cX9_smooth 75 = .ok (.ifCond .le 22, 3) := by decide +kernel
theorem dX9_smooth_78 : decode cX9_smooth 78 = .ok (.goto 15, 3) := by decide +kernel
theorem dX9_smooth_81 : decode cX9_smooth 81 = .ok (.aload_n 0, 1) := by decide +kernel
theorem dX9_smooth_82 : decode cX9_smooth 82 = .ok (.getfield 22, 3) := by decide +kernel
theorem dX9_smooth_85 : decode cX9_smooth 85 = .ok (.iload 5, 2) := by decide +kernel
theorem dX9_smooth_87 : decode cX9_smooth 87 = .ok (.laload, 1) := by decide +kernel
theorem dX9_smooth_88 : decode cX9_smooth 88 = .ok (.lload_n 1, 1) := by decide +kernel
theorem dX9_smooth_89 : decode cX9_smooth 89 = .ok (.lcmp, 1) := by decide +kernel
theorem dX9_smooth_90 : decode cX9_smooth 90 = .ok (.ifCond .gt 7, 3) := by decide +kernel
theorem dX9_smooth_93 : decode cX9_smooth 93 = .ok (.iconst 1, 1) := by decide +kernel
theorem dX9_smooth_94 : decode cX9_smooth 94 = .ok (.goto 4, 3) := by decide +kernel
theorem dX9_smooth_97 : decode cX9_smooth 97 = .ok (.iconst 0, 1) := by decide +kernel
theorem dX9_smooth_98 : decode cX9_smooth 98 = .ok (.iadd, 1) := by decide +kernel
theorem dX9_smooth_99 : decode cX9_smooth 99 = .ok (.istore 4, 2) := by decide +kernel
theorem dX9_smooth_101 : decode cX9_smooth 101 = .ok (.iinc 5 1, 3) := by decide +kernel
theorem dX9_smooth_104 : decode cX9_smooth 104 = .ok (.goto (-78), 3) := by decide +kernel
theorem dX9_smooth_107 : decode cX9_smooth 107 = .ok (.iload 4, 2) := by decide +kernel
theorem dX9_smooth_109 : decode cX9_smooth 109 = .ok (.ireturn, 1) := by decide +kernel
theorem dX9_prime_0 : decode cX9_prime 0 = .ok (.lload_n 1, 1) := by decide +kernel
theorem dX9_prime_1 : decode cX9_prime 1 = .ok (.lconst 1, 1) := by decide +kernel
theorem dX9_prime_2 : decode cX9_prime 2 = .ok (.ldc2_w 65, 3) := by decide +kernel
theorem dX9_prime_5 : decode cX9_prime 5 = .ok (.invokestatic 61, 3) := by decide +kernel
theorem dX9_prime_8 : decode cX9_prime 8 = .ok (.ifCond .ne 7, 3) := by decide +kernel
theorem dX9_prime_11 : decode cX9_prime 11 = .ok (.iconst (-1), 1) := by decide +kernel
theorem dX9_prime_12 : decode cX9_prime 12 = .ok (.goto 16, 3) := by decide +kernel
theorem dX9_prime_15 : decode cX9_prime 15 = .ok (.aload_n 0, 1) := by decide +kernel
theorem dX9_prime_16 : decode cX9_prime 16 = .ok (.lload_n 1, 1) := by decide +kernel
theorem dX9_prime_17 : decode cX9_prime 17 = .ok (.invokevirtual 88, 3) := by decide +kernel
theorem dX9_prime_20 : decode cX9_prime 20 = .ok (.ifCond .eq 7, 3) := by decide +kernel
theorem dX9_prime_23 : decode cX9_prime 23 = .ok (.iconst 1, 1) := by decide +kernel
theorem dX9_prime_24 : decode cX9_prime 24 = .ok (.goto 4, 3) := by decide +kernel
theorem dX9_prime_27 : decode cX9_prime 27 = .ok (.iconst 0, 1) := by decide +kernel
theorem dX9_prime_28 : decode cX9_prime 28 = .ok (.ireturn, 1) := by decide +kernel
theorem dX9_next_0 : decode cX9_next 0 = .ok (.lload_n 1, 1) := by decide +kernel
theorem dX9_next_1 : decode cX9_next 1 = .ok (.lconst 1, 1) := by decide +kernel
theorem dX9_next_2 : decode cX9_next 2 = .ok (.ldc2_w 65, 3) := by decide +kernel
theorem dX9_next_5 : decode cX9_next 5 = .ok (.invokestatic 61, 3) := by decide +kernel
theorem dX9_next_8 : decode cX9_next 8 = .ok (.ifCond .ne 5, 3) := by decide +kernel
theorem dX9_next_11 : decode cX9_next 11 = .ok (.lconst 0, 1) := by decide +kernel
theorem dX9_next_12 : decode cX9_next 12 = .ok (.lreturn, 1) := by decide +kernel
theorem dX9_next_13 : decode cX9_next 13 = .ok (.lload_n 1, 1) := by decide +kernel
theorem dX9_next_14 : decode cX9_next 14 = .ok (.lstore 4, 2) := by decide +kernel
theorem dX9_next_16 : decode cX9_next 16 = .ok (.iconst 0, 1) := by decide +kernel
theorem dX9_next_17 : decode cX9_next 17 = .ok (.istore 6, 2) := by decide +kernel
theorem dX9_next_19 : decode cX9_next 19 = .ok (.iload 6, 2) := by decide +kernel
theorem dX9_next_21 : decode cX9_next 21 = .ok (.ifCond .ne 53, 3) := by decide +kernel
theorem dX9_next_24 : decode cX9_next 24 = .ok (.iload_n 3, 1) := by decide +kernel
theorem dX9_next_25 : decode cX9_next 25 = .ok (.ifCond .eq 13, 3) := by decide +kernel
theorem dX9_next_28 : decode cX9_next 28 = .ok (.lload 4, 2) := by decide +kernel
theorem dX9_next_30 : decode cX9_next 30 = .ok (.lconst 1, 1) := by decide +kernel
theorem dX9_next_31 : decode cX9_next 31 = .ok (.lcmp, 1) := by decide +kernel
theorem dX9_next_32 : decode cX9_next 32 = .ok (.ifCond .le 42, 3) := by decide +kernel
theorem dX9_next_35 : decode cX9_next 35 = .ok (.goto 12, 3) := by decide +kernel
theorem dX9_next_38 : decode cX9_next 38 = .ok (.lload 4, 2) := by decide +kernel
theorem dX9_next_40 : decode cX9_next 40 = .ok (.ldc2_w 65, 3) := by decide +kernel
theorem dX9_next_43 : decode cX9_next 43 = .ok (.lcmp, 1) := by decide +kernel
theorem dX9_next_44 : decode cX9_next 44 = .ok (.ifCond .ge 30, 3) := by decide +kernel
theorem dX9_next_47 : decode cX9_next 47 = .ok (.lload 4, 2) := by decide +kernel
theorem dX9_next_49 : decode cX9_next 49 = .ok (.iload_n 3, 1) := by decide +kernel
theorem dX9_next_50 : decode cX9_next 50 = .ok (.ifCond .eq 9, 3) := by decide +kernel
theorem dX9_next_53 : decode cX9_next 53 = .ok (.ldc2_w 92, 3) := by decide +kernel
theorem dX9_next_56 : decode cX9_next 56 = .ok (.goto 4, 3) := by decide +kernel
theorem dX9_next_59 : decode cX9_next 59 = .ok (.lconst 1, 1) := by decide +kernel
theorem dX9_next_60 : decode cX9_next 60 = .ok (.ladd, 1) := by decide +kernel
theorem dX9_next_61 : decode cX9_next 61 = .ok (.lstore 4, 2) := by decide +kernel
theorem dX9_next_63 : decode cX9_next 63 = .ok (.aload_n 0, 1) := by decide +kernel
theorem dX9_next_64 : decode cX9_next 64 = .ok (.lload 4, 2) := by decide +kernel
theorem dX9_next_66 : decode cX9_next 66 = .ok (.invokevirtual 88, 3) := by decide +kernel
theorem dX9_next_69 : decode cX9_next 69 = .ok (.istore 6, 2) := by decide +kernel
theorem dX9_next_71 : decode cX9_next 71 = .ok (.goto (-52), 3) := by decide +kernel
theorem dX9_next_74 : decode cX9_next 74 = .ok (.iload 6, 2) := by decide +kernel
theorem dX9_next_76 : decode cX9_next 76 = .ok (.ifCond .eq 8, 3) := by decide +kernel
theorem dX9_next_79 : decode cX9_next 79 = .ok (.lload 4, 2) := by decide +kernel
theorem dX9_next_81 : decode cX9_next 81 = .ok (.goto 4, 3) := by decide +kernel
theorem dX9_next_84 : decode cX9_next 84 = .ok (.lconst 0, 1) := by decide +kernel
theorem dX9_next_85 : decode cX9_next 85 = .ok (.lreturn, 1) := by decide +kernel
theorem dX9_part_0 : decode cX9_part 0 = .ok (.lload_n 1, 1) := by decide +kernel
theorem dX9_part_1 : decode cX9_part 1 = .ok (.lconst 1, 1) := by decide +kernel
theorem dX9_part_2 : decode cX9_part 2 = .ok (.ldc2_w 65, 3) := by decide +kernel
theorem dX9_part_5 : decode cX9_part 5 = .ok (.invokestatic 61, 3) := by decide +kernel
theorem dX9_part_8 : decode cX9_part 8 = .ok (.ifCond .ne 5, 3) := by decide +kernel
theorem dX9_part_11 : decode cX9_part 11 = .ok (.iconst (-1), 1) := by decide +kernel
theorem dX9_part_12 : decode cX9_part 12 = .ok (.ireturn, 1) := by decide +kernel
theorem dX9_part_13 : decode cX9_part 13 = .ok (.aload_n 0, 1) := by decide +kernel
theorem dX9_part_14 : decode cX9_part 14 = .ok (.iconst 1, 1) := by decide +kernel
theorem dX9_part_15 : decode cX9_part 15 = .ok (.putfield 94, 3) := by decide +kernel
theorem dX9_part_18 : decode cX9_part 18 = .ok (.aload_n 0, 1) := by decide +kernel
theorem dX9_part_19 : decode cX9_part 19 = .ok (.lload_n 1, 1) := by decide +kernel
theorem dX9_part_20 : decode cX9_part 20 = .ok (.putfield 97, 3) := by decide +kernel
theorem dX9_part_23 : decode cX9_part 23 = .ok (.aload_n 0, 1) := by decide +kernel
theorem dX9_part_24 : decode cX9_part 24 = .ok (.lload_n 1, 1) := by decide +kernel
theorem dX9_part_25 : decode cX9_part 25 = .ok (.iconst 1, 1) := by decide +kernel
theorem dX9_part_26 : decode cX9_part 26 = .ok (.invokevirtual 76, 3) := by decide +kernel
theorem dX9_part_29 : decode cX9_part 29 = .ok (.aload_n 0, 1) := by decide +kernel
theorem dX9_part_30 : decode cX9_part 30 = .ok (.getfield 54, 3) := by decide +kernel
theorem dX9_part_33 : decode cX9_part 33 = .ok (.ireturn, 1) := by decide +kernel
theorem dX9_parts__0 : decode cX9_parts_ 0 = .ok (.aload_n 0, 1) := by decide +kernel
theorem dX9_parts__1 : decode cX9_parts_ 1 = .ok (.getfield 94, 3) := by decide +kernel
theorem dX9_parts__4 : decode cX9_parts_ 4 = .ok (.ifCond .eq 19, 3) := by decide +kernel
theorem dX9_parts__7 : decode cX9_parts_ 7 = .ok (.iload_n 1, 1) := by decide +kernel
theorem dX9_parts__8 : decode cX9_parts_ 8 = .ok (.i2l, 1) := by decide +kernel
theorem dX9_parts__9 : decode cX9_parts_ 9 = .ok (.lconst 0, 1) := by decide +kernel
theorem dX9_parts__10 : decode cX9_parts_ 10 = .ok (.aload_n 0, 1) := by decide +kernel
theorem dX9_parts__11 : decode cX9_parts_ 11 = .ok (.getfield 54, 3) := by decide +kernel
theorem dX9_parts__14 : decode cX9_parts_ 14 = .ok (.iconst 1, 1) := by decide +kernel
theorem dX9_parts__15 : decode cX9_parts_ 15 = .ok (.isub, 1) := by decide +kernel
theorem dX9_parts__16 : decode cX9_parts_ 16 = .ok (.i2l, 1) := by decide +kernel
theorem dX9_parts__17 : decode cX9_parts_ 17 = .ok (.invokestatic 61, 3) := by decide +kernel
theorem dX9_parts__20 : decode cX9_parts_ 20 = .ok (.ifCond .ne 5, 3) := by decide +kernel
theorem dX9_parts__23 : decode cX9_parts_ 23 = .ok (.lconst 0, 1) := by decide +kernel
theorem dX9_parts__24 : decode cX9_parts_ 24 = .ok (.lreturn, 1) := by decide +kernel
theorem dX9_parts__25 : decode cX9_parts_ 25 = .ok (.iload_n 2, 1) := by decide +kernel
theorem dX9_parts__26 : decode cX9_parts_ 26 = .ok (.ifCond .ne 12, 3) := by decide +kernel
theorem dX9_parts__29 : decode cX9_parts_ 29 = .ok (.aload_n 0, 1) := by decide +kernel
theorem dX9_parts__30 : decode cX9_parts_ 30 = .ok (.getfield 28, 3) := by decide +kernel
theorem dX9_parts__33 : decode cX9_parts_ 33 = .ok (.iload_n 1, 1) := by decide +kernel
theorem dX9_parts__34 : decode cX9_parts_ 34 = .ok (.laload, 1) := by decide +kernel
theorem dX9_parts__35 : decode cX9_parts_ 35 = .ok (.goto 19, 3) := by decide +kernel
theorem dX9_parts__38 : decode cX9_parts_ 38 = .ok (.iload_n 2, 1) := by decide +kernel
theorem dX9_parts__39 : decode cX9_parts_ 39 = .ok (.iconst 1, 1) := by decide +kernel
theorem dX9_parts__40 : decode cX9_parts_ 40 = .ok (.if_icmp .ne 13, 3) := by decide +kernel
theorem dX9_parts__43 : decode cX9_parts_ 43 = .ok (.aload_n 0, 1) := by decide +kernel
theorem dX9_parts__44 : decode cX9_parts_ 44 = .ok (.getfield 31, 3) := by decide +kernel
theorem dX9_parts__47 : decode cX9_parts_ 47 = .ok (.iload_n 1, 1) := by decide +kernel
theorem dX9_parts__48 : decode cX9_parts_ 48 = .ok (.iaload, 1) := by decide +kernel
theorem dX9_parts__49 : decode cX9_parts_ 49 = .ok (.i2l, 1) := by decide +kernel
theorem dX9_parts__50 : decode cX9_parts_ 50 = .ok (.goto 4, 3) := by decide +kernel
theorem dX9_parts__53 : decode cX9_parts_ 53 = .ok (.lconst 0, 1) := by decide +kernel
theorem dX9_parts__54 : decode cX9_parts_ 54 = .ok (.lreturn, 1) := by decide +kernel
theorem dX9_parted_0 : decode cX9_parted 0 = .ok (.aload_n 0, 1) := by decide +kernel
theorem dX9_parted_1 : decode cX9_parted 1 = .ok (.getfield 94, 3) := by decide +kernel
theorem dX9_parted_4 : decode cX9_parted 4 = .ok (.ifCond .ne 5, 3) := by decide +kernel
theorem dX9_parted_7 : decode cX9_parted 7 = .ok (.lconst 0, 1) := by decide +kernel
theorem dX9_parted_8 : decode cX9_parted 8 = .ok (.lreturn, 1) := by decide +kernel
theorem dX9_parted_9 : decode cX9_parted 9 = .ok (.lconst 1, 1) := by decide +kernel
theorem dX9_parted_10 : decode cX9_parted 10 = .ok (.lstore_n 2, 1) := by decide +kernel
theorem dX9_parted_11 : decode cX9_parted 11 = .ok (.lconst 1, 1) := by decide +kernel
theorem dX9_parted_12 : decode cX9_parted 12 = .ok (.lstore 4, 2) := by decide +kernel
theorem dX9_parted_14 : decode cX9_parted 14 = .ok (.aload_n 0, 1) := by decide +kernel
theorem dX9_parted_15 : decode cX9_parted 15 = .ok (.getfield 97, 3) := by decide +kernel
theorem dX9_parted_18 : decode cX9_parted 18 = .ok (.lstore 6, 2) := by decide +kernel
theorem dX9_parted_20 : decode cX9_parted 20 = .ok (.lconst 1, 1) := by decide +kernel
theorem dX9_parted_21 : decode cX9_parted 21 = .ok (.lstore 8, 2) := by decide +kernel
theorem dX9_parted_23 : decode cX9_parted 23 = .ok (.lconst 1, 1) := by decide +kernel
theorem dX9_parted_24 : decode cX9_parted 24 = .ok (.lstore 10, 2) := by decide +kernel
theorem dX9_parted_26 : decode cX9_parted 26 = .ok (.iconst 0, 1) := by decide +kernel
theorem dX9_parted_27 : decode cX9_parted 27 = .ok (.istore 12, 2) := by decide +kernel
theorem dX9_parted_29 : decode cX9_parted 29 = .ok (.iload 12, 2) := by decide +kernel
theorem dX9_parted_31 : decode cX9_parted 31 = .ok (.aload_n 0, 1) := by decide +kernel
theorem dX9_parted_32 : decode cX9_parted 32 = .ok (.getfield 54, 3) := by decide +kernel
theorem dX9_parted_35 : decode cX9_parted 35 = .ok (.if_icmp .ge 110, 3) := by decide +kernel
theorem dX9_parted_38 : decode cX9_parted 38 = .ok (.aload_n 0, 1) := by decide +kernel
theorem dX9_parted_39 : decode cX9_parted 39 = .ok (.getfield 28, 3) := by decide +kernel
theorem dX9_parted_42 : decode cX9_parted 42 = .ok (.iload 12, 2) := by decide +kernel
theorem dX9_parted_44 : decode cX9_parted 44 = .ok (.laload, 1) := by decide +kernel
theorem dX9_parted_45 : decode cX9_parted 45 = .ok (.lstore 13, 2) := by decide +kernel
theorem dX9_parted_47 : decode cX9_parted 47 = .ok (.lload_n 2, 1) := by decide +kernel
theorem dX9_parted_48 : decode cX9_parted 48 = .ok (.aload_n 0, 1) := by decide +kernel
theorem dX9_parted_49 : decode cX9_parted 49 = .ok (.getfield 31, 3) := by decide +kernel
theorem dX9_parted_52 : decode cX9_parted 52 = .ok (.iload 12, 2) := by decide +kernel
theorem dX9_parted_54 : decode cX9_parted 54 = .ok (.iaload, 1) := by decide +kernel
theorem dX9_parted_55 : decode cX9_parted 55 = .ok (.i2l, 1) := by decide +kernel
theorem dX9_parted_56 : decode cX9_parted 56 = .ok (.lconst 1, 1) := by decide +kernel
theorem dX9_parted_57 : decode cX9_parted 57 = .ok (.ladd, 1) := by decide +kernel
theorem dX9_parted_58 : decode cX9_parted 58 = .ok (.lmul, 1) := by decide +kernel
theorem dX9_parted_59 : decode cX9_parted 59 = .ok (.lstore_n 2, 1) := by decide +kernel
theorem dX9_parted_60 : decode cX9_parted 60 = .ok (.lconst 1, 1) := by decide +kernel
theorem dX9_parted_61 : decode cX9_parted 61 = .ok (.lstore 15, 2) := by decide +kernel
theorem dX9_parted_63 : decode cX9_parted 63 = .ok (.iconst 0, 1) := by decide +kernel
theorem dX9_parted_64 : decode cX9_parted 64 = .ok (.istore 17, 2) := by decide +kernel
theorem dX9_parted_66 : decode cX9_parted 66 = .ok (.iload 17, 2) := by decide +kernel
theorem dX9_parted_68 : decode cX9_parted 68 = .ok (.aload_n 0, 1) := by decide +kernel
theorem dX9_parted_69 : decode cX9_parted 69 = .ok (.getfield 31, 3) := by decide +kernel
theorem dX9_parted_72 : decode cX9_parted 72 = .ok (.iload 12, 2) := by decide +kernel
theorem dX9_parted_74 : decode cX9_parted 74 = .ok (.iaload, 1) := by decide +kernel
theorem dX9_parted_75 : decode cX9_parted 75 = .ok (.if_icmp .ge 18, 3) := by decide +kernel
theorem dX9_parted_78 : decode cX9_parted 78 = .ok (.lload 15, 2) := by decide +kernel
theorem dX9_parted_80 : decode cX9_parted 80 = .ok (.lload 13, 2) := by decide +kernel
theorem dX9_parted_82 : decode cX9_parted 82 = .ok (.lmul, 1) := by decide +kernel
theorem dX9_parted_83 : decode cX9_parted 83 = .ok (.lconst 1, 1) := by decide +kernel
theorem dX9_parted_84 : decode cX9_parted 84 = .ok (.ladd, 1) := by decide +kernel
theorem dX9_parted_85 : decode cX9_parted 85 = .ok (.lstore 15, 2) := by decide +kernel
theorem dX9_parted_87 : decode cX9_parted 87 = .ok (.iinc 17 1, 3) := by decide +kernel
theorem dX9_parted_90 : decode cX9_parted 90 = .ok (.goto (-24), 3) := by decide +kernel
theorem dX9_parted_93 : decode cX9_parted 93 = .ok (.lload 4, 2) := by decide +kernel
theorem dX9_parted_95 : decode cX9_parted 95 = .ok (.lload 15, 2) := by decide +kernel
theorem dX9_parted_97 : decode cX9_parted 97 = .ok (.lmul, 1) := by decide +kernel
theorem dX9_parted_98 : decode cX9_parted 98 = .ok (.lstore 4, 2) := by decide +kernel
theorem dX9_parted_100 : decode cX9_parted 100 = .ok (.lload 6, 2) := by decide +kernel
theorem dX9_parted_102 : decode cX9_parted 102 = .ok (.lload 13, 2) := by decide +kernel
theorem dX9_parted_104 : decode cX9_parted 104 = .ok (.ldiv, 1) := by decide +kernel
theorem dX9_parted_105 : decode cX9_parted 105 = .ok (.lload 13, 2) := by decide +kernel
theorem dX9_parted_107 : decode cX9_parted 107 = .ok (.lconst 1, 1) := by decide +kernel
theorem dX9_parted_108 : decode cX9_parted 108 = .ok (.lsub, 1) := by decide +kernel
theorem dX9_parted_109 : decode cX9_parted 109 = .ok (.lmul, 1) := by decide +kernel
theorem dX9_parted_110 : decode cX9_parted 110 = .ok (.lstore 6, 2) := by decide +kernel
theorem dX9_parted_112 : decode cX9_parted 112 = .ok (.aload_n 0, 1) := by decide +kernel
theorem dX9_parted_113 : decode cX9_parted 113 = .ok (.getfield 31, 3) := by decide +kernel
theorem dX9_parted_116 : decode cX9_parted 116 = .ok (.iload 12, 2) := by decide +kernel
theorem dX9_parted_118 : decode cX9_parted 118 = .ok (.iaload, 1) := by decide +kernel
theorem dX9_parted_119 : decode cX9_parted 119 = .ok (.iconst 1, 1) := by decide +kernel
theorem dX9_parted_120 : decode cX9_parted 120 = .ok (.if_icmp .le 7, 3) := by decide +kernel
theorem dX9_parted_123 : decode cX9_parted 123 = .ok (.lconst 0, 1) := by decide +kernel
theorem dX9_parted_124 : decode cX9_parted 124 = .ok (.goto 6, 3) := by decide +kernel
theorem dX9_parted_127 : decode cX9_parted 127 = .ok (.lload 8, 2) := by decide +kernel
theorem dX9_parted_129 : decode cX9_parted 129 = .ok (.lneg, 1) := by decide +kernel
theorem dX9_parted_130 : decode cX9_parted 130 = .ok (.lstore 8, 2) := by decide +kernel
theorem dX9_parted_132 : decode cX9_parted 132 = .ok (.lload 10, 2) := by decide +kernel
theorem dX9_parted_134 : decode cX9_parted 134 = .ok (.lload 13, 2) := by decide +kernel
theorem dX9_parted_136 : decode cX9_parted 136 = .ok (.lmul, 1) := by decide +kernel
theorem dX9_parted_137 : decode cX9_parted 137 = .ok (.lstore 10, 2) := by decide +kernel
theorem dX9_parted_139 : decode cX9_parted 139 = .ok (.iinc 12 1, 3) := by decide +kernel
theorem dX9_parted_142 : decode cX9_parted 142 = .ok (.goto (-113), 3) := by decide +kernel
theorem dX9_parted_145 : decode cX9_parted 145 = .ok (.iload_n 1, 1) := by decide +kernel
theorem dX9_parted_146 : decode cX9_parted 146 = .ok (.tableswitch 57 0 5 #[38, 43, 45, 48, 51, 54], 38) := by decide +kernel
theorem dX9_parted_184 : decode cX9_parted 184 = .ok (.aload_n 0, 1) := by decide +kernel
theorem dX9_parted_185 : decode cX9_parted 185 = .ok (.getfield 97, 3) := by decide +kernel
theorem dX9_parted_188 : decode cX9_parted 188 = .ok (.lreturn, 1) := by decide +kernel
theorem dX9_parted_189 : decode cX9_parted 189 = .ok (.lload_n 2, 1) := by decide +kernel
theorem dX9_parted_190 : decode cX9_parted 190 = .ok (.lreturn, 1) := by decide +kernel
theorem dX9_parted_191 : decode cX9_parted 191 = .ok (.lload 4, 2) := by decide +kernel
theorem dX9_parted_193 : decode cX9_parted 193 = .ok (.lreturn, 1) := by decide +kernel
theorem dX9_parted_194 : decode cX9_parted 194 = .ok (.lload 6, 2) := by decide +kernel
theorem dX9_parted_196 : decode cX9_parted 196 = .ok (.lreturn, 1) := by decide +kernel
theorem dX9_parted_197 : decode cX9_parted 197 = .ok (.lload 8, 2) := by decide +kernel
theorem dX9_parted_199 : decode cX9_parted 199 = .ok (.lreturn, 1) := by decide +kernel
theorem dX9_parted_200 : decode cX9_parted 200 = .ok (.lload 10, 2) := by decide +kernel
theorem dX9_parted_202 : decode cX9_parted 202 = .ok (.lreturn, 1) := by decide +kernel
theorem dX9_parted_203 : decode cX9_parted 203 = .ok (.lconst 0, 1) := by decide +kernel
theorem dX9_parted_204 : decode cX9_parted 204 = .ok (.lreturn, 1) := by decide +kernel
theorem dX9_without_0 : decode cX9_without 0 = .ok (.aload_n 0, 1) := by decide +kernel
theorem dX9_without_1 : decode cX9_without 1 = .ok (.getfield 94, 3) := by decide +kernel
theorem dX9_without_4 : decode cX9_without 4 = .ok (.ifCond .eq 14, 3) := by decide +kernel
theorem dX9_without_7 : decode cX9_without 7 = .ok (.lload_n 1, 1) := by decide +kernel
theorem dX9_without_8 : decode cX9_without 8 = .ok (.lconst 0, 1) := by decide +kernel
theorem dX9_without_9 : decode cX9_without 9 = .ok (.ldc2_w 65, 3) := by decide +kernel
theorem dX9_without_12 : decode cX9_without 12 = .ok (.invokestatic 61, 3) := by decide +kernel
theorem dX9_without_15 : decode cX9_without 15 = .ok (.ifCond .ne 7, 3) := by decide +kernel
theorem dX9_without_18 : decode cX9_without 18 = .ok (.ldc2_w 92, 3) := by decide +kernel
theorem dX9_without_21 : decode cX9_without 21 = .ok (.lreturn, 1) := by decide +kernel
theorem dX9_without_22 : decode cX9_without 22 = .ok (.lconst 0, 1) := by decide +kernel
theorem dX9_without_23 : decode cX9_without 23 = .ok (.lstore_n 3, 1) := by decide +kernel
theorem dX9_without_24 : decode cX9_without 24 = .ok (.iconst 0, 1) := by decide +kernel
theorem dX9_without_25 : decode cX9_without 25 = .ok (.istore 5, 2) := by decide +kernel
theorem dX9_without_27 : decode cX9_without 27 = .ok (.iload 5, 2) := by decide +kernel
theorem dX9_without_29 : decode cX9_without 29 = .ok (.iconst 1, 1) := by decide +kernel
theorem dX9_without_30 : decode cX9_without 30 = .ok (.aload_n 0, 1) := by decide +kernel
theorem dX9_without_31 : decode cX9_without 31 = .ok (.getfield 54, 3) := by decide +kernel
theorem dX9_without_34 : decode cX9_without 34 = .ok (.ishl, 1) := by decide +kernel
theorem dX9_without_35 : decode cX9_without 35 = .ok (.if_icmp .ge 72, 3) := by decide +kernel
theorem dX9_without_38 : decode cX9_without 38 = .ok (.lconst 1, 1) := by decide +kernel
theorem dX9_without_39 : decode cX9_without 39 = .ok (.lstore 6, 2) := by decide +kernel
theorem dX9_without_41 : decode cX9_without 41 = .ok (.iconst 1, 1) := by decide +kernel
theorem dX9_without_42 : decode cX9_without 42 = .ok (.istore 8, 2) := by decide +kernel
theorem dX9_without_44 : decode cX9_without 44 = .ok (.iconst 0, 1) := by decide +kernel
theorem dX9_without_45 : decode cX9_without 45 = .ok (.istore 9, 2) := by decide +kernel
theorem dX9_without_47 : decode cX9_without 47 = .ok (.iload 9, 2) := by decide +kernel
theorem dX9_without_49 : decode cX9_without 49 = .ok (.aload_n 0, 1) := by decide +kernel
theorem dX9_without_50 : decode cX9_without 50 = .ok (.getfield 54, 3) := by decide +kernel
theorem dX9_without_53 : decode cX9_without 53 = .ok (.if_icmp .ge 37, 3) := by decide +kernel
theorem dX9_without_56 : decode cX9_without 56 = .ok (.iload 5, 2) := by decide +kernel
theorem dX9_without_58 : decode cX9_without 58 = .ok (.iload 9, 2) := by decide +kernel
theorem dX9_without_60 : decode cX9_without 60 = .ok (.ishr, 1) := by decide +kernel
theorem dX9_without_61 : decode cX9_without 61 = .ok (.iconst 1, 1) := by decide +kernel
theorem dX9_without_62 : decode cX9_without 62 = .ok (.iand, 1) := by decide +kernel
theorem dX9_without_63 : decode cX9_without 63 = .ok (.iconst 1, 1) := by decide +kernel
theorem dX9_without_64 : decode cX9_without 64 = .ok (.if_icmp .ne 20, 3) := by decide +kernel
theorem dX9_without_67 : decode cX9_without 67 = .ok (.lload 6, 2) := by decide +kernel
theorem dX9_without_69 : decode cX9_without 69 = .ok (.aload_n 0, 1) := by decide +kernel
theorem dX9_without_70 : decode cX9_without 70 = .ok (.getfield 28, 3) := by decide +kernel
theorem dX9_without_73 : decode cX9_without 73 = .ok (.iload 9, 2) := by decide +kernel
theorem dX9_without_75 : decode cX9_without 75 = .ok (.laload, 1) := by decide +kernel
theorem dX9_without_76 : decode cX9_without 76 = .ok (.lmul, 1) := by decide +kernel
theorem dX9_without_77 : decode cX9_without 77 = .ok (.lstore 6, 2) := by decide +kernel
theorem dX9_without_79 : decode cX9_without 79 = .ok (.iload 8, 2) := by decide +kernel
theorem dX9_without_81 : decode cX9_without 81 = .ok (.ineg, 1) := by decide +kernel
theorem dX9_without_82 : decode cX9_without 82 = .ok (.istore 8, 2) := by decide +kernel
theorem dX9_without_84 : decode cX9_without 84 = .ok (.iinc 9 1, 3) := by decide +kernel
theorem dX9_without_87 : decode cX9_without 87 = .ok (.goto (-40), 3) := by decide +kernel
theorem dX9_without_90 : decode cX9_without 90 = .ok (.lload_n 3, 1) := by decide +kernel
theorem dX9_without_91 : decode cX9_without 91 = .ok (.iload 8, 2) := by decide +kernel
theorem dX9_without_93 : decode cX9_without 93 = .ok (.i2l, 1) := by decide +kernel
theorem dX9_without_94 : decode cX9_without 94 = .ok (.lload_n 1, 1) := by decide +kernel
theorem dX9_without_95 : decode cX9_without 95 = .ok (.lload 6, 2) := by decide +kernel
theorem dX9_without_97 : decode cX9_without 97 = .ok (.ldiv, 1) := by decide +kernel
theorem dX9_without_98 : decode cX9_without 98 = .ok (.lmul, 1) := by decide +kernel
theorem dX9_without_99 : decode cX9_without 99 = .ok (.ladd, 1) := by decide +kernel
theorem dX9_without_100 : decode cX9_without 100 = .ok (.lstore_n 3, 1) := by decide +kernel
theorem dX9_without_101 : decode cX9_without 101 = .ok (.iinc 5 1, 3) := by decide +kernel
theorem dX9_without_104 : decode cX9_without 104 = .ok (.goto (-77), 3) := by decide +kernel
theorem dX9_without_107 : decode cX9_without 107 = .ok (.lload_n 3, 1) := by decide +kernel
theorem dX9_without_108 : decode cX9_without 108 = .ok (.lreturn, 1) := by decide +kernel
theorem dX9_count_0 : decode cX9_count 0 = .ok (.iload_n 1, 1) := by decide +kernel
theorem dX9_count_1 : decode cX9_count 1 = .ok (.i2l, 1) := by decide +kernel
theorem dX9_count_2 : decode cX9_count 2 = .ok (.lconst 0, 1) := by decide +kernel
theorem dX9_count_3 : decode cX9_count 3 = .ok (.ldc2_w 100, 3) := by decide +kernel
theorem dX9_count_6 : decode cX9_count 6 = .ok (.invokestatic 61, 3) := by decide +kernel
theorem dX9_count_9 : decode cX9_count 9 = .ok (.ifCond .ne 5, 3) := by decide +kernel
theorem dX9_count_12 : decode cX9_count 12 = .ok (.iconst (-1), 1) := by decide +kernel
theorem dX9_count_13 : decode cX9_count 13 = .ok (.ireturn, 1) := by decide +kernel
theorem dX9_count_14 : decode cX9_count 14 = .ok (.iconst 0, 1) := by decide +kernel
theorem dX9_count_15 : decode cX9_count 15 = .ok (.istore_n 2, 1) := by decide +kernel
theorem dX9_count_16 : decode cX9_count 16 = .ok (.iconst 2, 1) := by decide +kernel
theorem dX9_count_17 : decode cX9_count 17 = .ok (.istore_n 3, 1) := by decide +kernel
theorem dX9_count_18 : decode cX9_count 18 = .ok (.iload_n 3, 1) := by decide +kernel
theorem dX9_count_19 : decode cX9_count 19 = .ok (.iload_n 1, 1) := by decide +kernel
theorem dX9_count_20 : decode cX9_count 20 = .ok (.if_icmp .gt 26, 3) := by decide +kernel
theorem dX9_count_23 : decode cX9_count 23 = .ok (.iload_n 2, 1) := by decide +kernel
theorem dX9_count_24 : decode cX9_count 24 = .ok (.aload_n 0, 1) := by decide +kernel
theorem dX9_count_25 : decode cX9_count 25 = .ok (.getfield 14, 3) := by decide +kernel
theorem dX9_count_28 : decode cX9_count 28 = .ok (.iload_n 3, 1) := by decide +kernel
theorem dX9_count_29 : decode cX9_count 29 = .ok (.baload, 1) := by decide +kernel
theorem dX9_count_30 : decode cX9_count 30 = .ok (.ifCond .eq 7, 3) := by decide +kernel
theorem dX9_count_33 : decode cX9_count 33 = .ok (.iconst 0, 1) := by decide +kernel
theorem dX9_count_34 : decode cX9_count 34 = .ok (.goto 4, 3) := by decide +kernel
theorem dX9_count_37 : decode cX9_count 37 = .ok (.iconst 1, 1) := by decide +kernel
theorem dX9_count_38 : decode cX9_count 38 = .ok (.iadd, 1) := by decide +kernel
theorem dX9_count_39 : decode cX9_count 39 = .ok (.istore_n 2, 1) := by decide +kernel
theorem dX9_count_40 : decode cX9_count 40 = .ok (.iinc 3 1, 3) := by decide +kernel
theorem dX9_count_43 : decode cX9_count 43 = .ok (.goto (-25), 3) := by decide +kernel
theorem dX9_count_46 : decode cX9_count 46 = .ok (.iload_n 2, 1) := by decide +kernel
theorem dX9_count_47 : decode cX9_count 47 = .ok (.ireturn, 1) := by decide +kernel
theorem dX9_sum_0 : decode cX9_sum 0 = .ok (.iload_n 1, 1) := by decide +kernel
theorem dX9_sum_1 : decode cX9_sum 1 = .ok (.i2l, 1) := by decide +kernel
theorem dX9_sum_2 : decode cX9_sum 2 = .ok (.lconst 0, 1) := by decide +kernel
theorem dX9_sum_3 : decode cX9_sum 3 = .ok (.ldc2_w 100, 3) := by decide +kernel
theorem dX9_sum_6 : decode cX9_sum 6 = .ok (.invokestatic 61, 3) := by decide +kernel
theorem dX9_sum_9 : decode cX9_sum 9 = .ok (.ifCond .ne 7, 3) := by decide +kernel
theorem dX9_sum_12 : decode cX9_sum 12 = .ok (.ldc2_w 92, 3) := by decide +kernel
theorem dX9_sum_15 : decode cX9_sum 15 = .ok (.lreturn, 1) := by decide +kernel
theorem dX9_sum_16 : decode cX9_sum 16 = .ok (.lconst 0, 1) := by decide +kernel
