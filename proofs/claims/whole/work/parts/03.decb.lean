theorem dX7_goDay_52 : decode cX7_goDay 52 = .ok (.getfield 49, 3) := by decide +kernel
theorem dX7_goDay_55 : decode cX7_goDay 55 = .ok (.if_icmp .ge 127, 3) := by decide +kernel
theorem dX7_goDay_58 : decode cX7_goDay 58 = .ok (.iload 5, 2) := by decide +kernel
theorem dX7_goDay_60 : decode cX7_goDay 60 = .ok (.iload 8, 2) := by decide +kernel
theorem dX7_goDay_62 : decode cX7_goDay 62 = .ok (.invokestatic 39, 3) := by decide +kernel
theorem dX7_goDay_65 : decode cX7_goDay 65 = .ok (.ifCond .eq 111, 3) := by decide +kernel
theorem dX7_goDay_68 : decode cX7_goDay 68 = .ok (.aload_n 0, 1) := by decide +kernel
theorem dX7_goDay_69 : decode cX7_goDay 69 = .ok (.aload_n 1, 1) := by decide +kernel
theorem dX7_goDay_70 : decode cX7_goDay 70 = .ok (.iload 8, 2) := by decide +kernel
theorem dX7_goDay_72 : decode cX7_goDay 72 = .ok (.invokevirtual 78, 3) := by decide +kernel
theorem dX7_goDay_75 : decode cX7_goDay 75 = .ok (.istore 9, 2) := by decide +kernel
theorem dX7_goDay_77 : decode cX7_goDay 77 = .ok (.iload 8, 2) := by decide +kernel
theorem dX7_goDay_79 : decode cX7_goDay 79 = .ok (.iload_n 2, 1) := by decide +kernel
theorem dX7_goDay_80 : decode cX7_goDay 80 = .ok (.if_icmp .ne 7, 3) := by decide +kernel
theorem dX7_goDay_83 : decode cX7_goDay 83 = .ok (.iload_n 3, 1) := by decide +kernel
theorem dX7_goDay_84 : decode cX7_goDay 84 = .ok (.goto 24, 3) := by decide +kernel
theorem dX7_goDay_87 : decode cX7_goDay 87 = .ok (.aload_n 0, 1) := by decide +kernel
theorem dX7_goDay_88 : decode cX7_goDay 88 = .ok (.getfield 12, 3) := by decide +kernel
theorem dX7_goDay_91 : decode cX7_goDay 91 = .ok (.getfield 24, 3) := by decide +kernel
theorem dX7_goDay_94 : decode cX7_goDay 94 = .ok (.iload 8, 2) := by decide +kernel
theorem dX7_goDay_96 : decode cX7_goDay 96 = .ok (.aload_n 0, 1) := by decide +kernel
theorem dX7_goDay_97 : decode cX7_goDay 97 = .ok (.aload_n 1, 1) := by decide +kernel
theorem dX7_goDay_98 : decode cX7_goDay 98 = .ok (.iload 8, 2) := by decide +kernel
theorem dX7_goDay_100 : decode cX7_goDay 100 = .ok (.invokevirtual 82, 3) := by decide +kernel
theorem dX7_goDay_103 : decode cX7_goDay 103 = .ok (.iload 9, 2) := by decide +kernel
theorem dX7_goDay_105 : decode cX7_goDay 105 = .ok (.invokevirtual 85, 3) := by decide +kernel
theorem dX7_goDay_108 : decode cX7_goDay 108 = .ok (.istore 10, 2) := by decide +kernel
theorem dX7_goDay_110 : decode cX7_goDay 110 = .ok (.iload 9, 2) := by decide +kernel
theorem dX7_goDay_112 : decode cX7_goDay 112 = .ok (.iload 10, 2) := by decide +kernel
theorem dX7_goDay_114 : decode cX7_goDay 114 = .ok (.invokestatic 89, 3) := by decide +kernel
theorem dX7_goDay_117 : decode cX7_goDay 117 = .ok (.isub, 1) := by decide +kernel
theorem dX7_goDay_118 : decode cX7_goDay 118 = .ok (.istore 11, 2) := by decide +kernel
theorem dX7_goDay_120 : decode cX7_goDay 120 = .ok (.aload_n 1, 1) := by decide +kernel
theorem dX7_goDay_121 : decode cX7_goDay 121 = .ok (.dup, 1) := by decide +kernel
theorem dX7_goDay_122 : decode cX7_goDay 122 = .ok (.getfield 94, 3) := by decide +kernel
theorem dX7_goDay_125 : decode cX7_goDay 125 = .ok (.iload 11, 2) := by decide +kernel
theorem dX7_goDay_127 : decode cX7_goDay 127 = .ok (.ifCond .le 16, 3) := by decide +kernel
theorem dX7_goDay_130 : decode cX7_goDay 130 = .ok (.iload 11, 2) := by decide +kernel
theorem dX7_goDay_132 : decode cX7_goDay 132 = .ok (.aload_n 0, 1) := by decide +kernel
theorem dX7_goDay_133 : decode cX7_goDay 133 = .ok (.aload_n 1, 1) := by decide +kernel
theorem dX7_goDay_134 : decode cX7_goDay 134 = .ok (.iload 8, 2) := by decide +kernel
theorem dX7_goDay_136 : decode cX7_goDay 136 = .ok (.invokevirtual 97, 3) := by decide +kernel
theorem dX7_goDay_139 : decode cX7_goDay 139 = .ok (.imul, 1) := by decide +kernel
theorem dX7_goDay_140 : decode cX7_goDay 140 = .ok (.goto 4, 3) := by decide +kernel
theorem dX7_goDay_143 : decode cX7_goDay 143 = .ok (.iconst 0, 1) := by decide +kernel
theorem dX7_goDay_144 : decode cX7_goDay 144 = .ok (.iadd, 1) := by decide +kernel
theorem dX7_goDay_145 : decode cX7_goDay 145 = .ok (.putfield 94, 3) := by decide +kernel
theorem dX7_goDay_148 : decode cX7_goDay 148 = .ok (.aload_n 0, 1) := by decide +kernel
theorem dX7_goDay_149 : decode cX7_goDay 149 = .ok (.aload_n 1, 1) := by decide +kernel
theorem dX7_goDay_150 : decode cX7_goDay 150 = .ok (.iload 8, 2) := by decide +kernel
theorem dX7_goDay_152 : decode cX7_goDay 152 = .ok (.iload 10, 2) := by decide +kernel
theorem dX7_goDay_154 : decode cX7_goDay 154 = .ok (.iload 6, 2) := by decide +kernel
theorem dX7_goDay_156 : decode cX7_goDay 156 = .ok (.iconst (-1), 1) := by decide +kernel
theorem dX7_goDay_157 : decode cX7_goDay 157 = .ok (.ixor, 1) := by decide +kernel
theorem dX7_goDay_158 : decode cX7_goDay 158 = .ok (.iand, 1) := by decide +kernel
theorem dX7_goDay_159 : decode cX7_goDay 159 = .ok (.iload 7, 2) := by decide +kernel
theorem dX7_goDay_161 : decode cX7_goDay 161 = .ok (.invokevirtual 100, 3) := by decide +kernel
theorem dX7_goDay_164 : decode cX7_goDay 164 = .ok (.iload 7, 2) := by decide +kernel
theorem dX7_goDay_166 : decode cX7_goDay 166 = .ok (.iload 10, 2) := by decide +kernel
theorem dX7_goDay_168 : decode cX7_goDay 168 = .ok (.iload 6, 2) := by decide +kernel
theorem dX7_goDay_170 : decode cX7_goDay 170 = .ok (.iconst (-1), 1) := by decide +kernel
theorem dX7_goDay_171 : decode cX7_goDay 171 = .ok (.ixor, 1) := by decide +kernel
theorem dX7_goDay_172 : decode cX7_goDay 172 = .ok (.iand, 1) := by decide +kernel
theorem dX7_goDay_173 : decode cX7_goDay 173 = .ok (.ior, 1) := by decide +kernel
theorem dX7_goDay_174 : decode cX7_goDay 174 = .ok (.istore 7, 2) := by decide +kernel
theorem dX7_goDay_176 : decode cX7_goDay 176 = .ok (.iinc 8 1, 3) := by decide +kernel
theorem dX7_goDay_179 : decode cX7_goDay 179 = .ok (.goto (-136), 3) := by decide +kernel
theorem dX7_goDay_182 : decode cX7_goDay 182 = .ok (.aload_n 1, 1) := by decide +kernel
theorem dX7_goDay_183 : decode cX7_goDay 183 = .ok (.dup, 1) := by decide +kernel
theorem dX7_goDay_184 : decode cX7_goDay 184 = .ok (.getfield 104, 3) := by decide +kernel
theorem dX7_goDay_187 : decode cX7_goDay 187 = .ok (.iload 5, 2) := by decide +kernel
theorem dX7_goDay_189 : decode cX7_goDay 189 = .ok (.ior, 1) := by decide +kernel
theorem dX7_goDay_190 : decode cX7_goDay 190 = .ok (.putfield 104, 3) := by decide +kernel
theorem dX7_goDay_193 : decode cX7_goDay 193 = .ok (.aload_n 1, 1) := by decide +kernel
theorem dX7_goDay_194 : decode cX7_goDay 194 = .ok (.dup, 1) := by decide +kernel
theorem dX7_goDay_195 : decode cX7_goDay 195 = .ok (.getfield 33, 3) := by decide +kernel
theorem dX7_goDay_198 : decode cX7_goDay 198 = .ok (.iload 7, 2) := by decide +kernel
theorem dX7_goDay_200 : decode cX7_goDay 200 = .ok (.ior, 1) := by decide +kernel
theorem dX7_goDay_201 : decode cX7_goDay 201 = .ok (.putfield 33, 3) := by decide +kernel
theorem dX7_goDay_204 : decode cX7_goDay 204 = .ok (.aload_n 1, 1) := by decide +kernel
theorem dX7_goDay_205 : decode cX7_goDay 205 = .ok (.dup, 1) := by decide +kernel
theorem dX7_goDay_206 : decode cX7_goDay 206 = .ok (.getfield 46, 3) := by decide +kernel
theorem dX7_goDay_209 : decode cX7_goDay 209 = .ok (.iconst 1, 1) := by decide +kernel
theorem dX7_goDay_210 : decode cX7_goDay 210 = .ok (.iadd, 1) := by decide +kernel
theorem dX7_goDay_211 : decode cX7_goDay 211 = .ok (.putfield 46, 3) := by decide +kernel
theorem dX7_goDay_214 : decode cX7_goDay 214 = .ok (.iload 7, 2) := by decide +kernel
theorem dX7_goDay_216 : decode cX7_goDay 216 = .ok (.invokestatic 89, 3) := by decide +kernel
theorem dX7_goDay_219 : decode cX7_goDay 219 = .ok (.ireturn, 1) := by decide +kernel
theorem dX7_hand_0 : decode cX7_hand 0 = .ok (.iconst 0, 1) := by decide +kernel
theorem dX7_hand_1 : decode cX7_hand 1 = .ok (.aload_n 1, 1) := by decide +kernel
theorem dX7_hand_2 : decode cX7_hand 2 = .ok (.getfield 43, 3) := by decide +kernel
theorem dX7_hand_5 : decode cX7_hand 5 = .ok (.iload_n 2, 1) := by decide +kernel
theorem dX7_hand_6 : decode cX7_hand 6 = .ok (.iaload, 1) := by decide +kernel
theorem dX7_hand_7 : decode cX7_hand 7 = .ok (.aload_n 0, 1) := by decide +kernel
theorem dX7_hand_8 : decode cX7_hand 8 = .ok (.getfield 12, 3) := by decide +kernel
theorem dX7_hand_11 : decode cX7_hand 11 = .ok (.getfield 59, 3) := by decide +kernel
theorem dX7_hand_14 : decode cX7_hand 14 = .ok (.getfield 107, 3) := by decide +kernel
theorem dX7_hand_17 : decode cX7_hand 17 = .ok (.isub, 1) := by decide +kernel
theorem dX7_hand_18 : decode cX7_hand 18 = .ok (.invokestatic 110, 3) := by decide +kernel
theorem dX7_hand_21 : decode cX7_hand 21 = .ok (.istore 5, 2) := by decide +kernel
theorem dX7_hand_23 : decode cX7_hand 23 = .ok (.iconst 0, 1) := by decide +kernel
theorem dX7_hand_24 : decode cX7_hand 24 = .ok (.istore 6, 2) := by decide +kernel
theorem dX7_hand_26 : decode cX7_hand 26 = .ok (.iload 6, 2) := by decide +kernel
theorem dX7_hand_28 : decode cX7_hand 28 = .ok (.aload_n 0, 1) := by decide +kernel
theorem dX7_hand_29 : decode cX7_hand 29 = .ok (.getfield 12, 3) := by decide +kernel
theorem dX7_hand_32 : decode cX7_hand 32 = .ok (.getfield 24, 3) := by decide +kernel
theorem dX7_hand_35 : decode cX7_hand 35 = .ok (.getfield 49, 3) := by decide +kernel
theorem dX7_hand_38 : decode cX7_hand 38 = .ok (.if_icmp .ge 105, 3) := by decide +kernel
theorem dX7_hand_41 : decode cX7_hand 41 = .ok (.iload_n 3, 1) := by decide +kernel
theorem dX7_hand_42 : decode cX7_hand 42 = .ok (.iload 6, 2) := by decide +kernel
theorem dX7_hand_44 : decode cX7_hand 44 = .ok (.invokestatic 39, 3) := by decide +kernel
theorem dX7_hand_47 : decode cX7_hand 47 = .ok (.ifCond .eq 90, 3) := by decide +kernel
theorem dX7_hand_50 : decode cX7_hand 50 = .ok (.aload_n 1, 1) := by decide +kernel
theorem dX7_hand_51 : decode cX7_hand 51 = .ok (.getfield 116, 3) := by decide +kernel
theorem dX7_hand_54 : decode cX7_hand 54 = .ok (.iload 6, 2) := by decide +kernel
theorem dX7_hand_56 : decode cX7_hand 56 = .ok (.aload_n 1, 1) := by decide +kernel
theorem dX7_hand_57 : decode cX7_hand 57 = .ok (.getfield 46, 3) := by decide +kernel
theorem dX7_hand_60 : decode cX7_hand 60 = .ok (.iastore, 1) := by decide +kernel
theorem dX7_hand_61 : decode cX7_hand 61 = .ok (.iload 4, 2) := by decide +kernel
theorem dX7_hand_63 : decode cX7_hand 63 = .ok (.iload 6, 2) := by decide +kernel
theorem dX7_hand_65 : decode cX7_hand 65 = .ok (.invokestatic 39, 3) := by decide +kernel
theorem dX7_hand_68 : decode cX7_hand 68 = .ok (.ifCond .ne 15, 3) := by decide +kernel
theorem dX7_hand_71 : decode cX7_hand 71 = .ok (.aload_n 1, 1) := by decide +kernel
theorem dX7_hand_72 : decode cX7_hand 72 = .ok (.getfield 43, 3) := by decide +kernel
theorem dX7_hand_75 : decode cX7_hand 75 = .ok (.iload 6, 2) := by decide +kernel
theorem dX7_hand_77 : decode cX7_hand 77 = .ok (.iload 5, 2) := by decide +kernel
theorem dX7_hand_79 : decode cX7_hand 79 = .ok (.iastore, 1) := by decide +kernel
theorem dX7_hand_80 : decode cX7_hand 80 = .ok (.goto 57, 3) := by decide +kernel
theorem dX7_hand_83 : decode cX7_hand 83 = .ok (.aload_n 0, 1) := by decide +kernel
theorem dX7_hand_84 : decode cX7_hand 84 = .ok (.getfield 12, 3) := by decide +kernel
theorem dX7_hand_87 : decode cX7_hand 87 = .ok (.getfield 59, 3) := by decide +kernel
theorem dX7_hand_90 : decode cX7_hand 90 = .ok (.getfield 119, 3) := by decide +kernel
theorem dX7_hand_93 : decode cX7_hand 93 = .ok (.ifCond .ne 25, 3) := by decide +kernel
theorem dX7_hand_96 : decode cX7_hand 96 = .ok (.aload_n 1, 1) := by decide +kernel
theorem dX7_hand_97 : decode cX7_hand 97 = .ok (.getfield 43, 3) := by decide +kernel
theorem dX7_hand_100 : decode cX7_hand 100 = .ok (.iload 6, 2) := by decide +kernel
theorem dX7_hand_102 : decode cX7_hand 102 = .ok (.aload_n 1, 1) := by decide +kernel
theorem dX7_hand_103 : decode cX7_hand 103 = .ok (.getfield 43, 3) := by decide +kernel
theorem dX7_hand_106 : decode cX7_hand 106 = .ok (.iload 6, 2) := by decide +kernel
theorem dX7_hand_108 : decode cX7_hand 108 = .ok (.iaload, 1) := by decide +kernel
theorem dX7_hand_109 : decode cX7_hand 109 = .ok (.iload 5, 2) := by decide +kernel
theorem dX7_hand_111 : decode cX7_hand 111 = .ok (.invokestatic 122, 3) := by decide +kernel
theorem dX7_hand_114 : decode cX7_hand 114 = .ok (.iastore, 1) := by decide +kernel
theorem dX7_hand_115 : decode cX7_hand 115 = .ok (.goto 22, 3) := by decide +kernel
theorem dX7_hand_118 : decode cX7_hand 118 = .ok (.aload_n 1, 1) := by decide +kernel
theorem dX7_hand_119 : decode cX7_hand 119 = .ok (.getfield 43, 3) := by decide +kernel
theorem dX7_hand_122 : decode cX7_hand 122 = .ok (.iload 6, 2) := by decide +kernel
theorem dX7_hand_124 : decode cX7_hand 124 = .ok (.aload_n 1, 1) := by decide +kernel
theorem dX7_hand_125 : decode cX7_hand 125 = .ok (.getfield 43, 3) := by decide +kernel
theorem dX7_hand_128 : decode cX7_hand 128 = .ok (.iload 6, 2) := by decide +kernel
theorem dX7_hand_130 : decode cX7_hand 130 = .ok (.iaload, 1) := by decide +kernel
theorem dX7_hand_131 : decode cX7_hand 131 = .ok (.iload 5, 2) := by decide +kernel
theorem dX7_hand_133 : decode cX7_hand 133 = .ok (.invokestatic 110, 3) := by decide +kernel
theorem dX7_hand_136 : decode cX7_hand 136 = .ok (.iastore, 1) := by decide +kernel
theorem dX7_hand_137 : decode cX7_hand 137 = .ok (.iinc 6 1, 3) := by decide +kernel
theorem dX7_hand_140 : decode cX7_hand 140 = .ok (.goto (-114), 3) := by decide +kernel
theorem dX7_hand_143 : decode cX7_hand 143 = .ok (.return_, 1) := by decide +kernel
theorem dX7_goOn_0 : decode cX7_goOn 0 = .ok (.iconst 0, 1) := by decide +kernel
theorem dX7_goOn_1 : decode cX7_goOn 1 = .ok (.istore 5, 2) := by decide +kernel
theorem dX7_goOn_3 : decode cX7_goOn 3 = .ok (.iload 5, 2) := by decide +kernel
theorem dX7_goOn_5 : decode cX7_goOn 5 = .ok (.bipush 7, 2) := by decide +kernel
theorem dX7_goOn_7 : decode cX7_goOn 7 = .ok (.if_icmp .gt 29, 3) := by decide +kernel
theorem dX7_goOn_10 : decode cX7_goOn 10 = .ok (.aload_n 1, 1) := by decide +kernel
theorem dX7_goOn_11 : decode cX7_goOn 11 = .ok (.invokevirtual 70, 3) := by decide +kernel
theorem dX7_goOn_14 : decode cX7_goOn 14 = .ok (.ifCond .ne 6, 3) := by decide +kernel
theorem dX7_goOn_17 : decode cX7_goOn 17 = .ok (.iload 5, 2) := by decide +kernel
theorem dX7_goOn_19 : decode cX7_goOn 19 = .ok (.ireturn, 1) := by decide +kernel
theorem dX7_goOn_20 : decode cX7_goOn 20 = .ok (.aload_n 0, 1) := by decide +kernel
theorem dX7_goOn_21 : decode cX7_goOn 21 = .ok (.aload_n 1, 1) := by decide +kernel
theorem dX7_goOn_22 : decode cX7_goOn 22 = .ok (.iload_n 2, 1) := by decide +kernel
theorem dX7_goOn_23 : decode cX7_goOn 23 = .ok (.iload_n 3, 1) := by decide +kernel
theorem dX7_goOn_24 : decode cX7_goOn 24 = .ok (.iload 4, 2) := by decide +kernel
theorem dX7_goOn_26 : decode cX7_goOn 26 = .ok (.invokevirtual 125, 3) := by decide +kernel
theorem dX7_goOn_29 : decode cX7_goOn 29 = .ok (.pop, 1) := by decide +kernel
theorem dX7_goOn_30 : decode cX7_goOn 30 = .ok (.iinc 5 1, 3) := by decide +kernel
theorem dX7_goOn_33 : decode cX7_goOn 33 = .ok (.goto (-30), 3) := by decide +kernel
theorem dX7_goOn_36 : decode cX7_goOn 36 = .ok (.bipush 7, 2) := by decide +kernel
theorem dX7_goOn_38 : decode cX7_goOn 38 = .ok (.ireturn, 1) := by decide +kernel
theorem dX8_init_0 : decode cX8_init 0 = .ok (.aload_n 0, 1) := by decide +kernel
theorem dX8_init_1 : decode cX8_init 1 = .ok (.invokespecial 3, 3) := by decide +kernel
theorem dX8_init_4 : decode cX8_init 4 = .ok (.aload_n 0, 1) := by decide +kernel
theorem dX8_init_5 : decode cX8_init 5 = .ok (.iconst 1, 1) := by decide +kernel
theorem dX8_init_6 : decode cX8_init 6 = .ok (.putfield 9, 3) := by decide +kernel
theorem dX8_init_9 : decode cX8_init 9 = .ok (.aload_n 0, 1) := by decide +kernel
theorem dX8_init_10 : decode cX8_init 10 = .ok (.iconst 0, 1) := by decide +kernel
theorem dX8_init_11 : decode cX8_init 11 = .ok (.putfield 15, 3) := by decide +kernel
theorem dX8_init_14 : decode cX8_init 14 = .ok (.aload_n 0, 1) := by decide +kernel
theorem dX8_init_15 : decode cX8_init 15 = .ok (.iconst 0, 1) := by decide +kernel
theorem dX8_init_16 : decode cX8_init 16 = .ok (.putfield 18, 3) := by decide +kernel
theorem dX8_init_19 : decode cX8_init 19 = .ok (.aload_n 0, 1) := by decide +kernel
theorem dX8_init_20 : decode cX8_init 20 = .ok (.iconst 0, 1) := by decide +kernel
theorem dX8_init_21 : decode cX8_init 21 = .ok (.putfield 21, 3) := by decide +kernel
theorem dX8_init_24 : decode cX8_init 24 = .ok (.aload_n 0, 1) := by decide +kernel
theorem dX8_init_25 : decode cX8_init 25 = .ok (.bipush 10, 2) := by decide +kernel
theorem dX8_init_27 : decode cX8_init 27 = .ok (.newarray .int, 2) := by decide +kernel
theorem dX8_init_29 : decode cX8_init 29 = .ok (.putfield 24, 3) := by decide +kernel
theorem dX8_init_32 : decode cX8_init 32 = .ok (.aload_n 0, 1) := by decide +kernel
theorem dX8_init_33 : decode cX8_init 33 = .ok (.bipush 10, 2) := by decide +kernel
theorem dX8_init_35 : decode cX8_init 35 = .ok (.newarray .int, 2) := by decide +kernel
theorem dX8_init_37 : decode cX8_init 37 = .ok (.putfield 28, 3) := by decide +kernel
theorem dX8_init_40 : decode cX8_init 40 = .ok (.aload_n 0, 1) := by decide +kernel
theorem dX8_init_41 : decode cX8_init 41 = .ok (.bipush 10, 2) := by decide +kernel
theorem dX8_init_43 : decode cX8_init 43 = .ok (.newarray .int, 2) := by decide +kernel
theorem dX8_init_45 : decode cX8_init 45 = .ok (.putfield 31, 3) := by decide +kernel
theorem dX8_init_48 : decode cX8_init 48 = .ok (.aload_n 0, 1) := by decide +kernel
theorem dX8_init_49 : decode cX8_init 49 = .ok (.bipush 10, 2) := by decide +kernel
theorem dX8_init_51 : decode cX8_init 51 = .ok (.newarray .int, 2) := by decide +kernel
theorem dX8_init_53 : decode cX8_init 53 = .ok (.putfield 34, 3) := by decide +kernel
theorem dX8_init_56 : decode cX8_init 56 = .ok (.aload_n 0, 1) := by decide +kernel
theorem dX8_init_57 : decode cX8_init 57 = .ok (.bipush 100, 2) := by decide +kernel
theorem dX8_init_59 : decode cX8_init 59 = .ok (.newarray .int, 2) := by decide +kernel
theorem dX8_init_61 : decode cX8_init 61 = .ok (.putfield 37, 3) := by decide +kernel
theorem dX8_init_64 : decode cX8_init 64 = .ok (.aload_n 0, 1) := by decide +kernel
theorem dX8_init_65 : decode cX8_init 65 = .ok (.bipush 100, 2) := by decide +kernel
theorem dX8_init_67 : decode cX8_init 67 = .ok (.newarray .int, 2) := by decide +kernel
theorem dX8_init_69 : decode cX8_init 69 = .ok (.putfield 40, 3) := by decide +kernel
theorem dX8_init_72 : decode cX8_init 72 = .ok (.aload_n 0, 1) := by decide +kernel
theorem dX8_init_73 : decode cX8_init 73 = .ok (.bipush 100, 2) := by decide +kernel
theorem dX8_init_75 : decode cX8_init 75 = .ok (.newarray .int, 2) := by decide +kernel
theorem dX8_init_77 : decode cX8_init 77 = .ok (.putfield 43, 3) := by decide +kernel
theorem dX8_init_80 : decode cX8_init 80 = .ok (.return_, 1) := by decide +kernel
theorem dX8_clear_0 : decode cX8_clear 0 = .ok (.aload_n 0, 1) := by decide +kernel
theorem dX8_clear_1 : decode cX8_clear 1 = .ok (.iconst 1, 1) := by decide +kernel
theorem dX8_clear_2 : decode cX8_clear 2 = .ok (.putfield 9, 3) := by decide +kernel
theorem dX8_clear_5 : decode cX8_clear 5 = .ok (.aload_n 0, 1) := by decide +kernel
theorem dX8_clear_6 : decode cX8_clear 6 = .ok (.iconst 0, 1) := by decide +kernel
theorem dX8_clear_7 : decode cX8_clear 7 = .ok (.putfield 15, 3) := by decide +kernel
theorem dX8_clear_10 : decode cX8_clear 10 = .ok (.aload_n 0, 1) := by decide +kernel
theorem dX8_clear_11 : decode cX8_clear 11 = .ok (.iconst 0, 1) := by decide +kernel
theorem dX8_clear_12 : decode cX8_clear 12 = .ok (.putfield 18, 3) := by decide +kernel
theorem dX8_clear_15 : decode cX8_clear 15 = .ok (.aload_n 0, 1) := by decide +kernel
theorem dX8_clear_16 : decode cX8_clear 16 = .ok (.iconst 0, 1) := by decide +kernel
theorem dX8_clear_17 : decode cX8_clear 17 = .ok (.putfield 21, 3) := by decide +kernel
theorem dX8_clear_20 : decode cX8_clear 20 = .ok (.return_, 1) := by decide +kernel
theorem dX8_addClause_0 : decode cX8_addClause 0 = .ok (.aload_n 0, 1) := by decide +kernel
theorem dX8_addClause_1 : decode cX8_addClause 1 = .ok (.getfield 18, 3) := by decide +kernel
theorem dX8_addClause_4 : decode cX8_addClause 4 = .ok (.bipush 10, 2) := by decide +kernel
theorem dX8_addClause_6 : decode cX8_addClause 6 = .ok (.if_icmp .ge 59, 3) := by decide +kernel
theorem dX8_addClause_9 : decode cX8_addClause 9 = .ok (.aload_n 0, 1) := by decide +kernel
theorem dX8_addClause_10 : decode cX8_addClause 10 = .ok (.getfield 24, 3) := by decide +kernel
theorem dX8_addClause_13 : decode cX8_addClause 13 = .ok (.aload_n 0, 1) := by decide +kernel
theorem dX8_addClause_14 : decode cX8_addClause 14 = .ok (.getfield 18, 3) := by decide +kernel
theorem dX8_addClause_17 : decode cX8_addClause 17 = .ok (.iload_n 1, 1) := by decide +kernel
theorem dX8_addClause_18 : decode cX8_addClause 18 = .ok (.iastore, 1) := by decide +kernel
theorem dX8_addClause_19 : decode cX8_addClause 19 = .ok (.aload_n 0, 1) := by decide +kernel
theorem dX8_addClause_20 : decode cX8_addClause 20 = .ok (.getfield 28, 3) := by decide +kernel
theorem dX8_addClause_23 : decode cX8_addClause 23 = .ok (.aload_n 0, 1) := by decide +kernel
theorem dX8_addClause_24 : decode cX8_addClause 24 = .ok (.getfield 18, 3) := by decide +kernel
theorem dX8_addClause_27 : decode cX8_addClause 27 = .ok (.iload_n 2, 1) := by decide +kernel
theorem dX8_addClause_28 : decode cX8_addClause 28 = .ok (.iastore, 1) := by decide +kernel
theorem dX8_addClause_29 : decode cX8_addClause 29 = .ok (.aload_n 0, 1) := by decide +kernel
theorem dX8_addClause_30 : decode cX8_addClause 30 = .ok (.getfield 31, 3) := by decide +kernel
theorem dX8_addClause_33 : decode cX8_addClause 33 = .ok (.aload_n 0, 1) := by decide +kernel
theorem dX8_addClause_34 : decode cX8_addClause 34 = .ok (.getfield 18, 3) := by decide +kernel
theorem dX8_addClause_37 : decode cX8_addClause 37 = .ok (.aload_n 0, 1) := by decide +kernel
theorem dX8_addClause_38 : decode cX8_addClause 38 = .ok (.getfield 21, 3) := by decide +kernel
theorem dX8_addClause_41 : decode cX8_addClause 41 = .ok (.iastore, 1) := by decide +kernel
theorem dX8_addClause_42 : decode cX8_addClause 42 = .ok (.aload_n 0, 1) := by decide +kernel
theorem dX8_addClause_43 : decode cX8_addClause 43 = .ok (.getfield 34, 3) := by decide +kernel
theorem dX8_addClause_46 : decode cX8_addClause 46 = .ok (.aload_n 0, 1) := by decide +kernel
theorem dX8_addClause_47 : decode cX8_addClause 47 = .ok (.getfield 18, 3) := by decide +kernel
theorem dX8_addClause_50 : decode cX8_addClause 50 = .ok (.aload_n 0, 1) := by decide +kernel
theorem dX8_addClause_51 : decode cX8_addClause 51 = .ok (.getfield 21, 3) := by decide +kernel
theorem dX8_addClause_54 : decode cX8_addClause 54 = .ok (.iastore, 1) := by decide +kernel
theorem dX8_addClause_55 : decode cX8_addClause 55 = .ok (.aload_n 0, 1) := by decide +kernel
theorem dX8_addClause_56 : decode cX8_addClause 56 = .ok (.dup, 1) := by decide +kernel
theorem dX8_addClause_57 : decode cX8_addClause 57 = .ok (.getfield 18, 3) := by decide +kernel
theorem dX8_addClause_60 : decode cX8_addClause 60 = .ok (.iconst 1, 1) := by decide +kernel
theorem dX8_addClause_61 : decode cX8_addClause 61 = .ok (.iadd, 1) := by decide +kernel
theorem dX8_addClause_62 : decode cX8_addClause 62 = .ok (.putfield 18, 3) := by decide +kernel
theorem dX8_addClause_65 : decode cX8_addClause 65 = .ok (.return_, 1) := by decide +kernel
theorem dX8_addStep_0 : decode cX8_addStep 0 = .ok (.aload_n 0, 1) := by decide +kernel
theorem dX8_addStep_1 : decode cX8_addStep 1 = .ok (.getfield 21, 3) := by decide +kernel
theorem dX8_addStep_4 : decode cX8_addStep 4 = .ok (.bipush 100, 2) := by decide +kernel
theorem dX8_addStep_6 : decode cX8_addStep 6 = .ok (.if_icmp .ge 65, 3) := by decide +kernel
theorem dX8_addStep_9 : decode cX8_addStep 9 = .ok (.aload_n 0, 1) := by decide +kernel
theorem dX8_addStep_10 : decode cX8_addStep 10 = .ok (.getfield 18, 3) := by decide +kernel
theorem dX8_addStep_13 : decode cX8_addStep 13 = .ok (.ifCond .le 58, 3) := by decide +kernel
theorem dX8_addStep_16 : decode cX8_addStep 16 = .ok (.aload_n 0, 1) := by decide +kernel
theorem dX8_addStep_17 : decode cX8_addStep 17 = .ok (.getfield 37, 3) := by decide +kernel
theorem dX8_addStep_20 : decode cX8_addStep 20 = .ok (.aload_n 0, 1) := by decide +kernel
theorem dX8_addStep_21 : decode cX8_addStep 21 = .ok (.getfield 21, 3) := by decide +kernel
theorem dX8_addStep_24 : decode cX8_addStep 24 = .ok (.iload_n 1, 1) := by decide +kernel
theorem dX8_addStep_25 : decode cX8_addStep 25 = .ok (.iastore, 1) := by decide +kernel
theorem dX8_addStep_26 : decode cX8_addStep 26 = .ok (.aload_n 0, 1) := by decide +kernel
theorem dX8_addStep_27 : decode cX8_addStep 27 = .ok (.getfield 40, 3) := by decide +kernel
theorem dX8_addStep_30 : decode cX8_addStep 30 = .ok (.aload_n 0, 1) := by decide +kernel
theorem dX8_addStep_31 : decode cX8_addStep 31 = .ok (.getfield 21, 3) := by decide +kernel
theorem dX8_addStep_34 : decode cX8_addStep 34 = .ok (.iload_n 2, 1) := by decide +kernel
theorem dX8_addStep_35 : decode cX8_addStep 35 = .ok (.iastore, 1) := by decide +kernel
theorem dX8_addStep_36 : decode cX8_addStep 36 = .ok (.aload_n 0, 1) := by decide +kernel
theorem dX8_addStep_37 : decode cX8_addStep 37 = .ok (.getfield 43, 3) := by decide +kernel
theorem dX8_addStep_40 : decode cX8_addStep 40 = .ok (.aload_n 0, 1) := by decide +kernel
theorem dX8_addStep_41 : decode cX8_addStep 41 = .ok (.getfield 21, 3) := by decide +kernel
theorem dX8_addStep_44 : decode cX8_addStep 44 = .ok (.iload_n 3, 1) := by decide +kernel
theorem dX8_addStep_45 : decode cX8_addStep 45 = .ok (.iastore, 1) := by decide +kernel
theorem dX8_addStep_46 : decode cX8_addStep 46 = .ok (.aload_n 0, 1) := by decide +kernel
theorem dX8_addStep_47 : decode cX8_addStep 47 = .ok (.dup, 1) := by decide +kernel
theorem dX8_addStep_48 : decode cX8_addStep 48 = .ok (.getfield 21, 3) := by decide +kernel
theorem dX8_addStep_51 : decode cX8_addStep 51 = .ok (.iconst 1, 1) := by decide +kernel
theorem dX8_addStep_52 : decode cX8_addStep 52 = .ok (.iadd, 1) := by decide +kernel
theorem dX8_addStep_53 : decode cX8_addStep 53 = .ok (.putfield 21, 3) := by decide +kernel
theorem dX8_addStep_56 : decode cX8_addStep 56 = .ok (.aload_n 0, 1) := by decide +kernel
theorem dX8_addStep_57 : decode cX8_addStep 57 = .ok (.getfield 34, 3) := by decide +kernel
theorem dX8_addStep_60 : decode cX8_addStep 60 = .ok (.aload_n 0, 1) := by decide +kernel
theorem dX8_addStep_61 : decode cX8_addStep 61 = .ok (.getfield 18, 3) := by decide +kernel
theorem dX8_addStep_64 : decode cX8_addStep 64 = .ok (.iconst 1, 1) := by decide +kernel
theorem dX8_addStep_65 : decode cX8_addStep 65 = .ok (.isub, 1) := by decide +kernel
theorem dX8_addStep_66 : decode cX8_addStep 66 = .ok (.aload_n 0, 1) := by decide +kernel
theorem dX8_addStep_67 : decode cX8_addStep 67 = .ok (.getfield 21, 3) := by decide +kernel
theorem dX8_addStep_70 : decode cX8_addStep 70 = .ok (.iastore, 1) := by decide +kernel
theorem dX8_addStep_71 : decode cX8_addStep 71 = .ok (.return_, 1) := by decide +kernel
theorem dX8_weigh_0 : decode cX8_weigh 0 = .ok (.iconst 0, 1) := by decide +kernel
theorem dX8_weigh_1 : decode cX8_weigh 1 = .ok (.istore_n 3, 1) := by decide +kernel
theorem dX8_weigh_2 : decode cX8_weigh 2 = .ok (.iconst 0, 1) := by decide +kernel
theorem dX8_weigh_3 : decode cX8_weigh 3 = .ok (.istore 4, 2) := by decide +kernel
theorem dX8_weigh_5 : decode cX8_weigh 5 = .ok (.iload 4, 2) := by decide +kernel
theorem dX8_weigh_7 : decode cX8_weigh 7 = .ok (.aload_n 0, 1) := by decide +kernel
theorem dX8_weigh_8 : decode cX8_weigh 8 = .ok (.getfield 18, 3) := by decide +kernel
theorem dX8_weigh_11 : decode cX8_weigh 11 = .ok (.if_icmp .ge 40, 3) := by decide +kernel
theorem dX8_weigh_14 : decode cX8_weigh 14 = .ok (.aload_n 0, 1) := by decide +kernel
theorem dX8_weigh_15 : decode cX8_weigh 15 = .ok (.getfield 24, 3) := by decide +kernel
theorem dX8_weigh_18 : decode cX8_weigh 18 = .ok (.iload 4, 2) := by decide +kernel
theorem dX8_weigh_20 : decode cX8_weigh 20 = .ok (.iaload, 1) := by decide +kernel
theorem dX8_weigh_21 : decode cX8_weigh 21 = .ok (.iload_n 1, 1) := by decide +kernel
theorem dX8_weigh_22 : decode cX8_weigh 22 = .ok (.if_icmp .ne 23, 3) := by decide +kernel
theorem dX8_weigh_25 : decode cX8_weigh 25 = .ok (.aload_n 0, 1) := by decide +kernel
theorem dX8_weigh_26 : decode cX8_weigh 26 = .ok (.iload 4, 2) := by decide +kernel
theorem dX8_weigh_28 : decode cX8_weigh 28 = .ok (.aload_n 2, 1) := by decide +kernel
theorem dX8_weigh_29 : decode cX8_weigh 29 = .ok (.invokevirtual 46, 3) := by decide +kernel
theorem dX8_weigh_32 : decode cX8_weigh 32 = .ok (.ifCond .eq 13, 3) := by decide +kernel
theorem dX8_weigh_35 : decode cX8_weigh 35 = .ok (.iload_n 3, 1) := by decide +kernel
theorem dX8_weigh_36 : decode cX8_weigh 36 = .ok (.aload_n 0, 1) := by decide +kernel
theorem dX8_weigh_37 : decode cX8_weigh 37 = .ok (.getfield 28, 3) := by decide +kernel
theorem dX8_weigh_40 : decode cX8_weigh 40 = .ok (.iload 4, 2) := by decide +kernel
theorem dX8_weigh_42 : decode cX8_weigh 42 = .ok (.iaload, 1) := by decide +kernel
theorem dX8_weigh_43 : decode cX8_weigh 43 = .ok (.iadd, 1) := by decide +kernel
theorem dX8_weigh_44 : decode cX8_weigh 44 = .ok (.istore_n 3, 1) := by decide +kernel
theorem dX8_weigh_45 : decode cX8_weigh 45 = .ok (.iinc 4 1, 3) := by decide +kernel
theorem dX8_weigh_48 : decode cX8_weigh 48 = .ok (.goto (-43), 3) := by decide +kernel
theorem dX8_weigh_51 : decode cX8_weigh 51 = .ok (.iload_n 3, 1) := by decide +kernel
theorem dX8_weigh_52 : decode cX8_weigh 52 = .ok (.ireturn, 1) := by decide +kernel
theorem dX8_holds_0 : decode cX8_holds 0 = .ok (.iconst 0, 1) := by decide +kernel
theorem dX8_holds_1 : decode cX8_holds 1 = .ok (.istore_n 3, 1) := by decide +kernel
theorem dX8_holds_2 : decode cX8_holds 2 = .ok (.aload_n 0, 1) := by decide +kernel
theorem dX8_holds_3 : decode cX8_holds 3 = .ok (.getfield 31, 3) := by decide +kernel
theorem dX8_holds_6 : decode cX8_holds 6 = .ok (.iload_n 1, 1) := by decide +kernel
theorem dX8_holds_7 : decode cX8_holds 7 = .ok (.iaload, 1) := by decide +kernel
theorem dX8_holds_8 : decode cX8_holds 8 = .ok (.istore 4, 2) := by decide +kernel
theorem dX8_holds_10 : decode cX8_holds 10 = .ok (.iload 4, 2) := by decide +kernel
theorem dX8_holds_12 : decode cX8_holds 12 = .ok (.aload_n 0, 1) := by decide +kernel
theorem dX8_holds_13 : decode cX8_holds 13 = .ok (.getfield 34, 3) := by decide +kernel
theorem dX8_holds_16 : decode cX8_holds 16 = .ok (.iload_n 1, 1) := by decide +kernel
theorem dX8_holds_17 : decode cX8_holds 17 = .ok (.iaload, 1) := by decide +kernel
theorem dX8_holds_18 : decode cX8_holds 18 = .ok (.if_icmp .ge 130, 3) := by decide +kernel
theorem dX8_holds_21 : decode cX8_holds 21 = .ok (.aload_n 0, 1) := by decide +kernel
theorem dX8_holds_22 : decode cX8_holds 22 = .ok (.getfield 37, 3) := by decide +kernel
theorem dX8_holds_25 : decode cX8_holds 25 = .ok (.iload 4, 2) := by decide +kernel
theorem dX8_holds_27 : decode cX8_holds 27 = .ok (.iaload, 1) := by decide +kernel
theorem dX8_holds_28 : decode cX8_holds 28 = .ok (.istore 5, 2) := by decide +kernel
theorem dX8_holds_30 : decode cX8_holds 30 = .ok (.iload 5, 2) := by decide +kernel
theorem dX8_holds_32 : decode cX8_holds 32 = .ok (.iconst (-1), 1) := by decide +kernel
theorem dX8_holds_33 : decode cX8_holds 33 = .ok (.if_icmp .ne 10, 3) := by decide +kernel
theorem dX8_holds_36 : decode cX8_holds 36 = .ok (.iload_n 3, 1) := by decide +kernel
theorem dX8_holds_37 : decode cX8_holds 37 = .ok (.iconst 1, 1) := by decide +kernel
theorem dX8_holds_38 : decode cX8_holds 38 = .ok (.ixor, 1) := by decide +kernel
theorem dX8_holds_39 : decode cX8_holds 39 = .ok (.istore_n 3, 1) := by decide +kernel
theorem dX8_holds_40 : decode cX8_holds 40 = .ok (.goto 102, 3) := by decide +kernel
theorem dX8_holds_43 : decode cX8_holds 43 = .ok (.iload 5, 2) := by decide +kernel
theorem dX8_holds_45 : decode cX8_holds 45 = .ok (.bipush (-2), 2) := by decide +kernel
theorem dX8_holds_47 : decode cX8_holds 47 = .ok (.if_icmp .ne 15, 3) := by decide +kernel
theorem dX8_holds_50 : decode cX8_holds 50 = .ok (.iload_n 3, 1) := by decide +kernel
theorem dX8_holds_51 : decode cX8_holds 51 = .ok (.iconst 1, 1) := by decide +kernel
theorem dX8_holds_52 : decode cX8_holds 52 = .ok (.ishr, 1) := by decide +kernel
theorem dX8_holds_53 : decode cX8_holds 53 = .ok (.iload_n 3, 1) := by decide +kernel
theorem dX8_holds_54 : decode cX8_holds 54 = .ok (.bipush (-2), 2) := by decide +kernel
theorem dX8_holds_56 : decode cX8_holds 56 = .ok (.ior, 1) := by decide +kernel
theorem dX8_holds_57 : decode cX8_holds 57 = .ok (.iand, 1) := by decide +kernel
theorem dX8_holds_58 : decode cX8_holds 58 = .ok (.istore_n 3, 1) := by decide +kernel
theorem dX8_holds_59 : decode cX8_holds 59 = .ok (.goto 83, 3) := by decide +kernel
theorem dX8_holds_62 : decode cX8_holds 62 = .ok (.iload 5, 2) := by decide +kernel
theorem dX8_holds_64 : decode cX8_holds 64 = .ok (.bipush (-3), 2) := by decide +kernel
theorem dX8_holds_66 : decode cX8_holds 66 = .ok (.if_icmp .ne 14, 3) := by decide +kernel
theorem dX8_holds_69 : decode cX8_holds 69 = .ok (.iload_n 3, 1) := by decide +kernel
theorem dX8_holds_70 : decode cX8_holds 70 = .ok (.iconst 1, 1) := by decide +kernel
theorem dX8_holds_71 : decode cX8_holds 71 = .ok (.ishr, 1) := by decide +kernel
theorem dX8_holds_72 : decode cX8_holds 72 = .ok (.iload_n 3, 1) := by decide +kernel
theorem dX8_holds_73 : decode cX8_holds 73 = .ok (.iconst 1, 1) := by decide +kernel
theorem dX8_holds_74 : decode cX8_holds 74 = .ok (.iand, 1) := by decide +kernel
theorem dX8_holds_75 : decode cX8_holds 75 = .ok (.ior, 1) := by decide +kernel
theorem dX8_holds_76 : decode cX8_holds 76 = .ok (.istore_n 3, 1) := by decide +kernel
theorem dX8_holds_77 : decode cX8_holds 77 = .ok (.goto 65, 3) := by decide +kernel
theorem dX8_holds_80 : decode cX8_holds 80 = .ok (.iload 5, 2) := by decide +kernel
theorem dX8_holds_82 : decode cX8_holds 82 = .ok (.ifCond .lt 60, 3) := by decide +kernel
theorem dX8_holds_85 : decode cX8_holds 85 = .ok (.iload 5, 2) := by decide +kernel
theorem dX8_holds_87 : decode cX8_holds 87 = .ok (.aload_n 2, 1) := by decide +kernel
theorem dX8_holds_88 : decode cX8_holds 88 = .ok (.arraylength, 1) := by decide +kernel
theorem dX8_holds_89 : decode cX8_holds 89 = .ok (.if_icmp .ge 53, 3) := by decide +kernel
theorem dX8_holds_92 : decode cX8_holds 92 = .ok (.aload_n 2, 1) := by decide +kernel
theorem dX8_holds_93 : decode cX8_holds 93 = .ok (.iload 5, 2) := by decide +kernel
theorem dX8_holds_95 : decode cX8_holds 95 = .ok (.iaload, 1) := by decide +kernel
theorem dX8_holds_96 : decode cX8_holds 96 = .ok (.aload_n 0, 1) := by decide +kernel
theorem dX8_holds_97 : decode cX8_holds 97 = .ok (.getfield 40, 3) := by decide +kernel
theorem dX8_holds_100 : decode cX8_holds 100 = .ok (.iload 4, 2) := by decide +kernel
theorem dX8_holds_102 : decode cX8_holds 102 = .ok (.iaload, 1) := by decide +kernel
theorem dX8_holds_103 : decode cX8_holds 103 = .ok (.if_icmp .lt 21, 3) := by decide +kernel
theorem dX8_holds_106 : decode cX8_holds 106 = .ok (.aload_n 2, 1) := by decide +kernel
theorem dX8_holds_107 : decode cX8_holds 107 = .ok (.iload 5, 2) := by decide +kernel
theorem dX8_holds_109 : decode cX8_holds 109 = .ok (.iaload, 1) := by decide +kernel
theorem dX8_holds_110 : decode cX8_holds 110 = .ok (.aload_n 0, 1) := by decide +kernel
theorem dX8_holds_111 : decode cX8_holds 111 = .ok (.getfield 43, 3) := by decide +kernel
theorem dX8_holds_114 : decode cX8_holds 114 = .ok (.iload 4, 2) := by decide +kernel
theorem dX8_holds_116 : decode cX8_holds 116 = .ok (.iaload, 1) := by decide +kernel
theorem dX8_holds_117 : decode cX8_holds 117 = .ok (.if_icmp .gt 7, 3) := by decide +kernel
theorem dX8_holds_120 : decode cX8_holds 120 = .ok (.iconst 1, 1) := by decide +kernel
theorem dX8_holds_121 : decode cX8_holds 121 = .ok (.goto 4, 3) := by decide +kernel
theorem dX8_holds_124 : decode cX8_holds 124 = .ok (.iconst 0, 1) := by decide +kernel
theorem dX8_holds_125 : decode cX8_holds 125 = .ok (.istore 6, 2) := by decide +kernel
theorem dX8_holds_127 : decode cX8_holds 127 = .ok (.iload_n 3, 1) := by decide +kernel
theorem dX8_holds_128 : decode cX8_holds 128 = .ok (.iconst 1, 1) := by decide +kernel
theorem dX8_holds_129 : decode cX8_holds 129 = .ok (.ishl, 1) := by decide +kernel
theorem dX8_holds_130 : decode cX8_holds 130 = .ok (.iload 6, 2) := by decide +kernel
theorem dX8_holds_132 : decode cX8_holds 132 = .ok (.ifCond .eq 7, 3) := by decide +kernel
theorem dX8_holds_135 : decode cX8_holds 135 = .ok (.iconst 1, 1) := by decide +kernel
theorem dX8_holds_136 : decode cX8_holds 136 = .ok (.goto 4, 3) := by decide +kernel
theorem dX8_holds_139 : decode cX8_holds 139 = .ok (.iconst 0, 1) := by decide +kernel
theorem dX8_holds_140 : decode cX8_holds 140 = .ok (.ior, 1) := by decide +kernel
theorem dX8_holds_141 : decode cX8_holds 141 = .ok (.istore_n 3, 1) := by decide +kernel
theorem dX8_holds_142 : decode cX8_holds 142 = .ok (.iinc 4 1, 3) := by decide +kernel
theorem dX8_holds_145 : decode cX8_holds 145 = .ok (.goto (-135), 3) := by decide +kernel
theorem dX8_holds_148 : decode cX8_holds 148 = .ok (.iload_n 3, 1) := by decide +kernel
theorem dX8_holds_149 : decode cX8_holds 149 = .ok (.iconst 1, 1) := by decide +kernel
theorem dX8_holds_150 : decode cX8_holds 150 = .ok (.iand, 1) := by decide +kernel
theorem dX8_holds_151 : decode cX8_holds 151 = .ok (.iconst 1, 1) := by decide +kernel
theorem dX8_holds_152 : decode cX8_holds 152 = .ok (.if_icmp .ne 7, 3) := by decide +kernel
theorem dX8_holds_155 : decode cX8_holds 155 = .ok (.iconst 1, 1) := by decide +kernel
theorem dX8_holds_156 : decode cX8_holds 156 = .ok (.goto 4, 3) := by decide +kernel
theorem dX8_holds_159 : decode cX8_holds 159 = .ok (.iconst 0, 1) := by decide +kernel
theorem dX8_holds_160 : decode cX8_holds 160 = .ok (.ireturn, 1) := by decide +kernel
theorem dX8_sumOf_0 : decode cX8_sumOf 0 = .ok (.aload_n 0, 1) := by decide +kernel
theorem dX8_sumOf_1 : decode cX8_sumOf 1 = .ok (.getfield 9, 3) := by decide +kernel
theorem dX8_sumOf_4 : decode cX8_sumOf 4 = .ok (.ifCond .gt 6, 3) := by decide +kernel
theorem dX8_sumOf_7 : decode cX8_sumOf 7 = .ok (.iload_n 1, 1) := by decide +kernel
theorem dX8_sumOf_8 : decode cX8_sumOf 8 = .ok (.i2l, 1) := by decide +kernel
theorem dX8_sumOf_9 : decode cX8_sumOf 9 = .ok (.lreturn, 1) := by decide +kernel
theorem dX8_sumOf_10 : decode cX8_sumOf 10 = .ok (.lconst 0, 1) := by decide +kernel
theorem dX8_sumOf_11 : decode cX8_sumOf 11 = .ok (.lstore_n 2, 1) := by decide +kernel
theorem dX8_sumOf_12 : decode cX8_sumOf 12 = .ok (.iconst 1, 1) := by decide +kernel
theorem dX8_sumOf_13 : decode cX8_sumOf 13 = .ok (.istore 4, 2) := by decide +kernel
theorem dX8_sumOf_15 : decode cX8_sumOf 15 = .ok (.iload 4, 2) := by decide +kernel
theorem dX8_sumOf_17 : decode cX8_sumOf 17 = .ok (.iload_n 1, 1) := by decide +kernel
theorem dX8_sumOf_18 : decode cX8_sumOf 18 = .ok (.if_icmp .gt 31, 3) := by decide +kernel
theorem dX8_sumOf_21 : decode cX8_sumOf 21 = .ok (.iload_n 1, 1) := by decide +kernel
theorem dX8_sumOf_22 : decode cX8_sumOf 22 = .ok (.iload 4, 2) := by decide +kernel
theorem dX8_sumOf_24 : decode cX8_sumOf 24 = .ok (.isub, 1) := by decide +kernel
theorem dX8_sumOf_25 : decode cX8_sumOf 25 = .ok (.aload_n 0, 1) := by decide +kernel
theorem dX8_sumOf_26 : decode cX8_sumOf 26 = .ok (.getfield 9, 3) := by decide +kernel
theorem dX8_sumOf_29 : decode cX8_sumOf 29 = .ok (.irem, 1) := by decide +kernel
theorem dX8_sumOf_30 : decode cX8_sumOf 30 = .ok (.ifCond .ne 13, 3) := by decide +kernel
theorem dX8_sumOf_33 : decode cX8_sumOf 33 = .ok (.iload 4, 2) := by decide +kernel
theorem dX8_sumOf_35 : decode cX8_sumOf 35 = .ok (.i2l, 1) := by decide +kernel
theorem dX8_sumOf_36 : decode cX8_sumOf 36 = .ok (.iload 4, 2) := by decide +kernel
theorem dX8_sumOf_38 : decode cX8_sumOf 38 = .ok (.i2l, 1) := by decide +kernel
theorem dX8_sumOf_39 : decode cX8_sumOf 39 = .ok (.lload_n 2, 1) := by decide +kernel
theorem dX8_sumOf_40 : decode cX8_sumOf 40 = .ok (.lmul, 1) := by decide +kernel
theorem dX8_sumOf_41 : decode cX8_sumOf 41 = .ok (.ladd, 1) := by decide +kernel
theorem dX8_sumOf_42 : decode cX8_sumOf 42 = .ok (.lstore_n 2, 1) := by decide +kernel
theorem dX8_sumOf_43 : decode cX8_sumOf 43 = .ok (.iinc 4 1, 3) := by decide +kernel
theorem dX8_sumOf_46 : decode cX8_sumOf 46 = .ok (.goto (-31), 3) := by decide +kernel
theorem dX8_sumOf_49 : decode cX8_sumOf 49 = .ok (.lload_n 2, 1) := by decide +kernel
theorem dX8_sumOf_50 : decode cX8_sumOf 50 = .ok (.lreturn, 1) := by decide +kernel
theorem dX8_copyFrom_0 : decode cX8_copyFrom 0 = .ok (.aload_n 0, 1) := by decide +kernel
theorem dX8_copyFrom_1 : decode cX8_copyFrom 1 = .ok (.aload_n 1, 1) := by decide +kernel
theorem dX8_copyFrom_2 : decode cX8_copyFrom 2 = .ok (.getfield 9, 3) := by decide +kernel
theorem dX8_copyFrom_5 : decode cX8_copyFrom 5 = .ok (.putfield 9, 3) := by decide +kernel
theorem dX8_copyFrom_8 : decode cX8_copyFrom 8 = .ok (.aload_n 0, 1) := by decide +kernel
theorem dX8_copyFrom_9 : decode cX8_copyFrom 9 = .ok (.aload_n 1, 1) := by decide +kernel
theorem dX8_copyFrom_10 : decode cX8_copyFrom 10 = .ok (.getfield 15, 3) := by decide +kernel
theorem dX8_copyFrom_13 : decode cX8_copyFrom 13 = .ok (.putfield 15, 3) := by decide +kernel
theorem dX8_copyFrom_16 : decode cX8_copyFrom 16 = .ok (.aload_n 0, 1) := by decide +kernel
theorem dX8_copyFrom_17 : decode cX8_copyFrom 17 = .ok (.aload_n 1, 1) := by decide +kernel
theorem dX8_copyFrom_18 : decode cX8_copyFrom 18 = .ok (.getfield 18, 3) := by decide +kernel
theorem dX8_copyFrom_21 : decode cX8_copyFrom 21 = .ok (.putfield 18, 3) := by decide +kernel
theorem dX8_copyFrom_24 : decode cX8_copyFrom 24 = .ok (.aload_n 0, 1) := by decide +kernel
theorem dX8_copyFrom_25 : decode cX8_copyFrom 25 = .ok (.aload_n 1, 1) := by decide +kernel
theorem dX8_copyFrom_26 : decode cX8_copyFrom 26 = .ok (.getfield 21, 3) := by decide +kernel
theorem dX8_copyFrom_29 : decode cX8_copyFrom 29 = .ok (.putfield 21, 3) := by decide +kernel
theorem dX8_copyFrom_32 : decode cX8_copyFrom 32 = .ok (.aload_n 1, 1) := by decide +kernel
theorem dX8_copyFrom_33 : decode cX8_copyFrom 33 = .ok (.getfield 24, 3) := by decide +kernel
theorem dX8_copyFrom_36 : decode cX8_copyFrom 36 = .ok (.iconst 0, 1) := by decide +kernel
theorem dX8_copyFrom_37 : decode cX8_copyFrom 37 = .ok (.aload_n 0, 1) := by decide +kernel
theorem dX8_copyFrom_38 : decode cX8_copyFrom 38 = .ok (.getfield 24, 3) := by decide +kernel
theorem dX8_copyFrom_41 : decode cX8_copyFrom 41 = .ok (.iconst 0, 1) := by decide +kernel
theorem dX8_copyFrom_42 : decode cX8_copyFrom 42 = .ok (.bipush 10, 2) := by decide +kernel
theorem dX8_copyFrom_44 : decode cX8_copyFrom 44 = .ok (.invokestatic 50, 3) := by decide +kernel
theorem dX8_copyFrom_47 : decode cX8_copyFrom 47 = .ok (.aload_n 1, 1) := by decide +kernel
theorem dX8_copyFrom_48 : decode cX8_copyFrom 48 = .ok (.getfield 28, 3) := by decide +kernel
theorem dX8_copyFrom_51 : decode cX8_copyFrom 51 = .ok (.iconst 0, 1) := by decide +kernel
theorem dX8_copyFrom_52 : decode cX8_copyFrom 52 = .ok (.aload_n 0, 1) := by decide +kernel
theorem dX8_copyFrom_53 : decode cX8_copyFrom 53 = .ok (.getfield 28, 3) := by decide +kernel
theorem dX8_copyFrom_56 : decode cX8_copyFrom 56 = .ok (.iconst 0, 1) := by decide +kernel
theorem dX8_copyFrom_57 : decode cX8_copyFrom 57 = .ok (.bipush 10, 2) := by decide +kernel
theorem dX8_copyFrom_59 : decode cX8_copyFrom 59 = .ok (.invokestatic 50, 3) := by decide +kernel
theorem dX8_copyFrom_62 : decode cX8_copyFrom 62 = .ok (.aload_n 1, 1) := by decide +kernel
theorem dX8_copyFrom_63 : decode cX8_copyFrom 63 = .ok (.getfield 31, 3) := by decide +kernel
theorem dX8_copyFrom_66 : decode cX8_copyFrom 66 = .ok (.iconst 0, 1) := by decide +kernel
theorem dX8_copyFrom_67 : decode cX8_copyFrom 67 = .ok (.aload_n 0, 1) := by decide +kernel
theorem dX8_copyFrom_68 : decode cX8_copyFrom 68 = .ok (.getfield 31, 3) := by decide +kernel
theorem dX8_copyFrom_71 : decode cX8_copyFrom 71 = .ok (.iconst 0, 1) := by decide +kernel
theorem dX8_copyFrom_72 : decode cX8_copyFrom 72 = .ok (.bipush 10, 2) := by decide +kernel
theorem dX8_copyFrom_74 : decode cX8_copyFrom 74 = .ok (.invokestatic 50, 3) := by decide +kernel
theorem dX8_copyFrom_77 : decode cX8_copyFrom 77 = .ok (.aload_n 1, 1) := by decide +kernel
theorem dX8_copyFrom_78 : decode cX8_copyFrom 78 = .ok (.getfield 34, 3) := by decide +kernel
theorem dX8_copyFrom_81 : decode cX8_copyFrom 81 = .ok (.iconst 0, 1) := by decide +kernel
theorem dX8_copyFrom_82 : decode cX8_copyFrom 82 = .ok (.aload_n 0, 1) := by decide +kernel
theorem dX8_copyFrom_83 : decode cX8_copyFrom 83 = .ok (.getfield 34, 3) := by decide +kernel
theorem dX8_copyFrom_86 : decode cX8_copyFrom 86 = .ok (.iconst 0, 1) := by decide +kernel
theorem dX8_copyFrom_87 : decode cX8_copyFrom 87 = .ok (.bipush 10, 2) := by decide +kernel
theorem dX8_copyFrom_89 : decode cX8_copyFrom 89 = .ok (.invokestatic 50, 3) := by decide +kernel
theorem dX8_copyFrom_92 : decode cX8_copyFrom 92 = .ok (.aload_n 1, 1) := by decide +kernel
theorem dX8_copyFrom_93 : decode cX8_copyFrom 93 = .ok (.getfield 37, 3) := by decide +kernel
theorem dX8_copyFrom_96 : decode cX8_copyFrom 96 = .ok (.iconst 0, 1) := by decide +kernel
theorem dX8_copyFrom_97 : decode cX8_copyFrom 97 = .ok (.aload_n 0, 1) := by decide +kernel
theorem dX8_copyFrom_98 : decode cX8_copyFrom 98 = .ok (.getfield 37, 3) := by decide +kernel
theorem dX8_copyFrom_101 : decode cX8_copyFrom 101 = .ok (.iconst 0, 1) := by decide +kernel
theorem dX8_copyFrom_102 : decode cX8_copyFrom 102 = .ok (.bipush 100, 2) := by decide +kernel
theorem dX8_copyFrom_104 : decode cX8_copyFrom 104 = .ok (.invokestatic 50, 3) := by decide +kernel
theorem dX8_copyFrom_107 : decode cX8_copyFrom 107 = .ok (.aload_n 1, 1) := by decide +kernel
theorem dX8_copyFrom_108 : decode cX8_copyFrom 108 = .ok (.getfield 40, 3) := by decide +kernel
theorem dX8_copyFrom_111 : decode cX8_copyFrom 111 = .ok (.iconst 0, 1) := by decide +kernel
theorem dX8_copyFrom_112 : decode cX8_copyFrom 112 = .ok (.aload_n 0, 1) := by decide +kernel
theorem dX8_copyFrom_113 : decode cX8_copyFrom 113 = .ok (.getfield 40, 3) := by decide +kernel
theorem dX8_copyFrom_116 : decode cX8_copyFrom 116 = .ok (.iconst 0, 1) := by decide +kernel
theorem dX8_copyFrom_117 : decode cX8_copyFrom 117 = .ok (.bipush 100, 2) := by decide +kernel
theorem dX8_copyFrom_119 : decode cX8_copyFrom 119 = .ok (.invokestatic 50, 3) := by decide +kernel
theorem dX8_copyFrom_122 : decode cX8_copyFrom 122 = .ok (.aload_n 1, 1) := by decide +kernel
theorem dX8_copyFrom_123 : decode cX8_copyFrom 123 = .ok (.getfield 43, 3) := by decide +kernel
theorem dX8_copyFrom_126 : decode cX8_copyFrom 126 = .ok (.iconst 0, 1) := by decide +kernel
theorem dX8_copyFrom_127 : decode cX8_copyFrom 127 = .ok (.aload_n 0, 1) := by decide +kernel
theorem dX8_copyFrom_128 : decode cX8_copyFrom 128 = .ok (.getfield 43, 3) := by decide +kernel
theorem dX8_copyFrom_131 : decode cX8_copyFrom 131 = .ok (.iconst 0, 1) := by decide +kernel
theorem dX8_copyFrom_132 : decode cX8_copyFrom 132 = .ok (.bipush 100, 2) := by decide +kernel
theorem dX8_copyFrom_134 : decode cX8_copyFrom 134 = .ok (.invokestatic 50, 3) := by decide +kernel
theorem dX8_copyFrom_137 : decode cX8_copyFrom 137 = .ok (.return_, 1) := by decide +kernel
theorem dX9_init_0 : decode cX9_init 0 = .ok (.aload_n 0, 1) := by decide +kernel
theorem dX9_init_1 : decode cX9_init 1 = .ok (.invokespecial 3, 3) := by decide +kernel
theorem dX9_init_4 : decode cX9_init 4 = .ok (.aload_n 0, 1) := by decide +kernel
theorem dX9_init_5 : decode cX9_init 5 = .ok (.iconst 0, 1) := by decide +kernel
theorem dX9_init_6 : decode cX9_init 6 = .ok (.putfield 9, 3) := by decide +kernel
theorem dX9_init_9 : decode cX9_init 9 = .ok (.aload_n 0, 1) := by decide +kernel
theorem dX9_init_10 : decode cX9_init 10 = .ok (.iconst 0, 1) := by decide +kernel
theorem dX9_init_11 : decode cX9_init 11 = .ok (.putfield 15, 3) := by decide +kernel
theorem dX9_init_14 : decode cX9_init 14 = .ok (.aload_n 0, 1) := by decide +kernel
theorem dX9_init_15 : decode cX9_init 15 = .ok (.iconst 0, 1) := by decide +kernel
theorem dX9_init_16 : decode cX9_init 16 = .ok (.putfield 18, 3) := by decide +kernel
theorem dX9_init_19 : decode cX9_init 19 = .ok (.aload_n 0, 1) := by decide +kernel
theorem dX9_init_20 : decode cX9_init 20 = .ok (.iconst 0, 1) := by decide +kernel
theorem dX9_init_21 : decode cX9_init 21 = .ok (.putfield 21, 3) := by decide +kernel
theorem dX9_init_24 : decode cX9_init 24 = .ok (.aload_n 0, 1) := by decide +kernel
theorem dX9_init_25 : decode cX9_init 25 = .ok (.bipush 7, 2) := by decide +kernel
theorem dX9_init_27 : decode cX9_init 27 = .ok (.newarray .int, 2) := by decide +kernel
theorem dX9_init_29 : decode cX9_init 29 = .ok (.putfield 24, 3) := by decide +kernel
theorem dX9_init_32 : decode cX9_init 32 = .ok (.aload_n 0, 1) := by decide +kernel
theorem dX9_init_33 : decode cX9_init 33 = .ok (.bipush 7, 2) := by decide +kernel
theorem dX9_init_35 : decode cX9_init 35 = .ok (.newarray .int, 2) := by decide +kernel
theorem dX9_init_37 : decode cX9_init 37 = .ok (.putfield 28, 3) := by decide +kernel
theorem dX9_init_40 : decode cX9_init 40 = .ok (.return_, 1) := by decide +kernel
theorem dX9_startWith_0 : decode cX9_startWith 0 = .ok (.aload_n 0, 1) := by decide +kernel
theorem dX9_startWith_1 : decode cX9_startWith 1 = .ok (.iload_n 3, 1) := by decide +kernel
theorem dX9_startWith_2 : decode cX9_startWith 2 = .ok (.putfield 9, 3) := by decide +kernel
theorem dX9_startWith_5 : decode cX9_startWith 5 = .ok (.aload_n 0, 1) := by decide +kernel
theorem dX9_startWith_6 : decode cX9_startWith 6 = .ok (.iconst 0, 1) := by decide +kernel
theorem dX9_startWith_7 : decode cX9_startWith 7 = .ok (.putfield 15, 3) := by decide +kernel
theorem dX9_startWith_10 : decode cX9_startWith 10 = .ok (.aload_n 0, 1) := by decide +kernel
theorem dX9_startWith_11 : decode cX9_startWith 11 = .ok (.iconst 1, 1) := by decide +kernel
theorem dX9_startWith_12 : decode cX9_startWith 12 = .ok (.iload_n 1, 1) := by decide +kernel
theorem dX9_startWith_13 : decode cX9_startWith 13 = .ok (.ishl, 1) := by decide +kernel
theorem dX9_startWith_14 : decode cX9_startWith 14 = .ok (.putfield 18, 3) := by decide +kernel
theorem dX9_startWith_17 : decode cX9_startWith 17 = .ok (.aload_n 0, 1) := by decide +kernel
theorem dX9_startWith_18 : decode cX9_startWith 18 = .ok (.iconst 0, 1) := by decide +kernel
theorem dX9_startWith_19 : decode cX9_startWith 19 = .ok (.putfield 21, 3) := by decide +kernel
theorem dX9_startWith_22 : decode cX9_startWith 22 = .ok (.aload_n 0, 1) := by decide +kernel
theorem dX9_startWith_23 : decode cX9_startWith 23 = .ok (.getfield 24, 3) := by decide +kernel
theorem dX9_startWith_26 : decode cX9_startWith 26 = .ok (.iload_n 1, 1) := by decide +kernel
theorem dX9_startWith_27 : decode cX9_startWith 27 = .ok (.iload_n 2, 1) := by decide +kernel
theorem dX9_startWith_28 : decode cX9_startWith 28 = .ok (.iastore, 1) := by decide +kernel
theorem dX9_startWith_29 : decode cX9_startWith 29 = .ok (.aload_n 0, 1) := by decide +kernel
theorem dX9_startWith_30 : decode cX9_startWith 30 = .ok (.getfield 28, 3) := by decide +kernel
theorem dX9_startWith_33 : decode cX9_startWith 33 = .ok (.iload_n 1, 1) := by decide +kernel
theorem dX9_startWith_34 : decode cX9_startWith 34 = .ok (.iload_n 3, 1) := by decide +kernel
theorem dX9_startWith_35 : decode cX9_startWith 35 = .ok (.iastore, 1) := by decide +kernel
theorem dX9_startWith_36 : decode cX9_startWith 36 = .ok (.return_, 1) := by decide +kernel
theorem dX9_yetToTell_0 : decode cX9_yetToTell 0 = .ok (.aload_n 0, 1) := by decide +kernel
theorem dX9_yetToTell_1 : decode cX9_yetToTell 1 = .ok (.getfield 18, 3) := by decide +kernel
theorem dX9_yetToTell_4 : decode cX9_yetToTell 4 = .ok (.aload_n 0, 1) := by decide +kernel
theorem dX9_yetToTell_5 : decode cX9_yetToTell 5 = .ok (.getfield 21, 3) := by decide +kernel
theorem dX9_yetToTell_8 : decode cX9_yetToTell 8 = .ok (.iconst (-1), 1) := by decide +kernel
theorem dX9_yetToTell_9 : decode cX9_yetToTell 9 = .ok (.ixor, 1) := by decide +kernel
theorem dX9_yetToTell_10 : decode cX9_yetToTell 10 = .ok (.iand, 1) := by decide +kernel
theorem dX9_yetToTell_11 : decode cX9_yetToTell 11 = .ok (.ireturn, 1) := by decide +kernel
theorem dX9_copyFrom_0 : decode cX9_copyFrom 0 = .ok (.aload_n 0, 1) := by decide +kernel
theorem dX9_copyFrom_1 : decode cX9_copyFrom 1 = .ok (.aload_n 1, 1) := by decide +kernel
theorem dX9_copyFrom_2 : decode cX9_copyFrom 2 = .ok (.getfield 9, 3) := by decide +kernel
theorem dX9_copyFrom_5 : decode cX9_copyFrom 5 = .ok (.putfield 9, 3) := by decide +kernel
theorem dX9_copyFrom_8 : decode cX9_copyFrom 8 = .ok (.aload_n 0, 1) := by decide +kernel
theorem dX9_copyFrom_9 : decode cX9_copyFrom 9 = .ok (.aload_n 1, 1) := by decide +kernel
theorem dX9_copyFrom_10 : decode cX9_copyFrom 10 = .ok (.getfield 15, 3) := by decide +kernel
theorem dX9_copyFrom_13 : decode cX9_copyFrom 13 = .ok (.putfield 15, 3) := by decide +kernel
theorem dX9_copyFrom_16 : decode cX9_copyFrom 16 = .ok (.aload_n 0, 1) := by decide +kernel
theorem dX9_copyFrom_17 : decode cX9_copyFrom 17 = .ok (.aload_n 1, 1) := by decide +kernel
theorem dX9_copyFrom_18 : decode cX9_copyFrom 18 = .ok (.getfield 18, 3) := by decide +kernel
theorem dX9_copyFrom_21 : decode cX9_copyFrom 21 = .ok (.putfield 18, 3) := by decide +kernel
theorem dX9_copyFrom_24 : decode cX9_copyFrom 24 = .ok (.aload_n 0, 1) := by decide +kernel
theorem dX9_copyFrom_25 : decode cX9_copyFrom 25 = .ok (.aload_n 1, 1) := by decide +kernel
theorem dX9_copyFrom_26 : decode cX9_copyFrom 26 = .ok (.getfield 21, 3) := by decide +kernel
theorem dX9_copyFrom_29 : decode cX9_copyFrom 29 = .ok (.putfield 21, 3) := by decide +kernel
theorem dX9_copyFrom_32 : decode cX9_copyFrom 32 = .ok (.aload_n 1, 1) := by decide +kernel
theorem dX9_copyFrom_33 : decode cX9_copyFrom 33 = .ok (.getfield 24, 3) := by decide +kernel
theorem dX9_copyFrom_36 : decode cX9_copyFrom 36 = .ok (.iconst 0, 1) := by decide +kernel
theorem dX9_copyFrom_37 : decode cX9_copyFrom 37 = .ok (.aload_n 0, 1) := by decide +kernel
theorem dX9_copyFrom_38 : decode cX9_copyFrom 38 = .ok (.getfield 24, 3) := by decide +kernel
theorem dX9_copyFrom_41 : decode cX9_copyFrom 41 = .ok (.iconst 0, 1) := by decide +kernel
theorem dX9_copyFrom_42 : decode cX9_copyFrom 42 = .ok (.bipush 7, 2) := by decide +kernel
theorem dX9_copyFrom_44 : decode cX9_copyFrom 44 = .ok (.invokestatic 31, 3) := by decide +kernel
theorem dX9_copyFrom_47 : decode cX9_copyFrom 47 = .ok (.aload_n 1, 1) := by decide +kernel
theorem dX9_copyFrom_48 : decode cX9_copyFrom 48 = .ok (.getfield 28, 3) := by decide +kernel
theorem dX9_copyFrom_51 : decode cX9_copyFrom 51 = .ok (.iconst 0, 1) := by decide +kernel
theorem dX9_copyFrom_52 : decode cX9_copyFrom 52 = .ok (.aload_n 0, 1) := by decide +kernel
theorem dX9_copyFrom_53 : decode cX9_copyFrom 53 = .ok (.getfield 28, 3) := by decide +kernel
theorem dX9_copyFrom_56 : decode cX9_copyFrom 56 = .ok (.iconst 0, 1) := by decide +kernel
theorem dX9_copyFrom_57 : decode cX9_copyFrom 57 = .ok (.bipush 7, 2) := by decide +kernel
theorem dX9_copyFrom_59 : decode cX9_copyFrom 59 = .ok (.invokestatic 31, 3) := by decide +kernel
theorem dX9_copyFrom_62 : decode cX9_copyFrom 62 = .ok (.return_, 1) := by decide +kernel
theorem dX10_init_0 : decode cX10_init 0 = .ok (.aload_n 0, 1) := by decide +kernel
theorem dX10_init_1 : decode cX10_init 1 = .ok (.invokespecial 3, 3) := by decide +kernel
theorem dX10_init_4 : decode cX10_init 4 = .ok (.aload_n 0, 1) := by decide +kernel
theorem dX10_init_5 : decode cX10_init 5 = .ok (.new 9, 3) := by decide +kernel
theorem dX10_init_8 : decode cX10_init 8 = .ok (.dup, 1) := by decide +kernel
theorem dX10_init_9 : decode cX10_init 9 = .ok (.invokespecial 11, 3) := by decide +kernel
theorem dX10_init_12 : decode cX10_init 12 = .ok (.putfield 12, 3) := by decide +kernel
theorem dX10_init_15 : decode cX10_init 15 = .ok (.aload_n 0, 1) := by decide +kernel
theorem dX10_init_16 : decode cX10_init 16 = .ok (.aload_n 0, 1) := by decide +kernel
theorem dX10_init_17 : decode cX10_init 17 = .ok (.getfield 12, 3) := by decide +kernel
theorem dX10_init_20 : decode cX10_init 20 = .ok (.getfield 18, 3) := by decide +kernel
theorem dX10_init_23 : decode cX10_init 23 = .ok (.putfield 22, 3) := by decide +kernel
theorem dX10_init_26 : decode cX10_init 26 = .ok (.aload_n 0, 1) := by decide +kernel
theorem dX10_init_27 : decode cX10_init 27 = .ok (.aload_n 0, 1) := by decide +kernel
theorem dX10_init_28 : decode cX10_init 28 = .ok (.getfield 22, 3) := by decide +kernel
theorem dX10_init_31 : decode cX10_init 31 = .ok (.getfield 23, 3) := by decide +kernel
theorem dX10_init_34 : decode cX10_init 34 = .ok (.putfield 29, 3) := by decide +kernel
theorem dX10_init_37 : decode cX10_init 37 = .ok (.aload_n 0, 1) := by decide +kernel
theorem dX10_init_38 : decode cX10_init 38 = .ok (.new 32, 3) := by decide +kernel
theorem dX10_init_41 : decode cX10_init 41 = .ok (.dup, 1) := by decide +kernel
theorem dX10_init_42 : decode cX10_init 42 = .ok (.invokespecial 34, 3) := by decide +kernel
theorem dX10_init_45 : decode cX10_init 45 = .ok (.putfield 35, 3) := by decide +kernel
theorem dX10_init_48 : decode cX10_init 48 = .ok (.aload_n 0, 1) := by decide +kernel
theorem dX10_init_49 : decode cX10_init 49 = .ok (.new 38, 3) := by decide +kernel
theorem dX10_init_52 : decode cX10_init 52 = .ok (.dup, 1) := by decide +kernel
theorem dX10_init_53 : decode cX10_init 53 = .ok (.invokespecial 40, 3) := by decide +kernel
theorem dX10_init_56 : decode cX10_init 56 = .ok (.putfield 41, 3) := by decide +kernel
theorem dX10_init_59 : decode cX10_init 59 = .ok (.aload_n 0, 1) := by decide +kernel
theorem dX10_init_60 : decode cX10_init 60 = .ok (.new 45, 3) := by decide +kernel
theorem dX10_init_63 : decode cX10_init 63 = .ok (.dup, 1) := by decide +kernel
theorem dX10_init_64 : decode cX10_init 64 = .ok (.invokespecial 47, 3) := by decide +kernel
theorem dX10_init_67 : decode cX10_init 67 = .ok (.putfield 48, 3) := by decide +kernel
theorem dX10_init_70 : decode cX10_init 70 = .ok (.aload_n 0, 1) := by decide +kernel
theorem dX10_init_71 : decode cX10_init 71 = .ok (.iconst 0, 1) := by decide +kernel
theorem dX10_init_72 : decode cX10_init 72 = .ok (.putfield 52, 3) := by decide +kernel
theorem dX10_init_75 : decode cX10_init 75 = .ok (.return_, 1) := by decide +kernel
theorem dX10_feed_0 : decode cX10_feed 0 = .ok (.iload_n 1, 1) := by decide +kernel
theorem dX10_feed_1 : decode cX10_feed 1 = .ok (.ifCond .lt 9, 3) := by decide +kernel
theorem dX10_feed_4 : decode cX10_feed 4 = .ok (.iload_n 1, 1) := by decide +kernel
theorem dX10_feed_5 : decode cX10_feed 5 = .ok (.bipush 127, 2) := by decide +kernel
theorem dX10_feed_7 : decode cX10_feed 7 = .ok (.if_icmp .le 6, 3) := by decide +kernel
theorem dX10_feed_10 : decode cX10_feed 10 = .ok (.bipush (-2), 2) := by decide +kernel
theorem dX10_feed_12 : decode cX10_feed 12 = .ok (.ireturn, 1) := by decide +kernel
theorem dX10_feed_13 : decode cX10_feed 13 = .ok (.aload_n 0, 1) := by decide +kernel
theorem dX10_feed_14 : decode cX10_feed 14 = .ok (.getfield 29, 3) := by decide +kernel
theorem dX10_feed_17 : decode cX10_feed 17 = .ok (.getfield 56, 3) := by decide +kernel
theorem dX10_feed_20 : decode cX10_feed 20 = .ok (.iload_n 1, 1) := by decide +kernel
theorem dX10_feed_21 : decode cX10_feed 21 = .ok (.invokevirtual 60, 3) := by decide +kernel
theorem dX10_feed_24 : decode cX10_feed 24 = .ok (.ifCond .eq 16, 3) := by decide +kernel
theorem dX10_feed_27 : decode cX10_feed 27 = .ok (.aload_n 0, 1) := by decide +kernel
theorem dX10_feed_28 : decode cX10_feed 28 = .ok (.getfield 29, 3) := by decide +kernel
theorem dX10_feed_31 : decode cX10_feed 31 = .ok (.getfield 56, 3) := by decide +kernel
theorem dX10_feed_34 : decode cX10_feed 34 = .ok (.getfield 66, 3) := by decide +kernel
theorem dX10_feed_37 : decode cX10_feed 37 = .ok (.goto 5, 3) := by decide +kernel
theorem dX10_feed_40 : decode cX10_feed 40 = .ok (.bipush (-4), 2) := by decide +kernel
theorem dX10_feed_42 : decode cX10_feed 42 = .ok (.ireturn, 1) := by decide +kernel
theorem dX10_town_0 : decode cX10_town 0 = .ok (.aload_n 0, 1) := by decide +kernel
theorem dX10_town_1 : decode cX10_town 1 = .ok (.getfield 29, 3) := by decide +kernel
theorem dX10_town_4 : decode cX10_town 4 = .ok (.getfield 70, 3) := by decide +kernel
theorem dX10_town_7 : decode cX10_town 7 = .ok (.iconst 5, 1) := by decide +kernel
theorem dX10_town_8 : decode cX10_town 8 = .ok (.if_icmp .lt 6, 3) := by decide +kernel
theorem dX10_town_11 : decode cX10_town 11 = .ok (.bipush (-4), 2) := by decide +kernel
theorem dX10_town_13 : decode cX10_town 13 = .ok (.ireturn, 1) := by decide +kernel
theorem dX10_town_14 : decode cX10_town 14 = .ok (.aload_n 0, 1) := by decide +kernel
theorem dX10_town_15 : decode cX10_town 15 = .ok (.getfield 41, 3) := by decide +kernel
theorem dX10_town_18 : decode cX10_town 18 = .ok (.aload_n 0, 1) := by decide +kernel
theorem dX10_town_19 : decode cX10_town 19 = .ok (.getfield 29, 3) := by decide +kernel
theorem dX10_town_22 : decode cX10_town 22 = .ok (.getfield 56, 3) := by decide +kernel
theorem dX10_town_25 : decode cX10_town 25 = .ok (.invokevirtual 73, 3) := by decide +kernel
theorem dX10_town_28 : decode cX10_town 28 = .ok (.istore_n 1, 1) := by decide +kernel
theorem dX10_town_29 : decode cX10_town 29 = .ok (.aload_n 0, 1) := by decide +kernel
theorem dX10_town_30 : decode cX10_town 30 = .ok (.getfield 29, 3) := by decide +kernel
theorem dX10_town_33 : decode cX10_town 33 = .ok (.getfield 56, 3) := by decide +kernel
theorem dX10_town_36 : decode cX10_town 36 = .ok (.iconst 0, 1) := by decide +kernel
theorem dX10_town_37 : decode cX10_town 37 = .ok (.putfield 66, 3) := by decide +kernel
theorem dX10_town_40 : decode cX10_town 40 = .ok (.iload_n 1, 1) := by decide +kernel
theorem dX10_town_41 : decode cX10_town 41 = .ok (.ifCond .ne 14, 3) := by decide +kernel
theorem dX10_town_44 : decode cX10_town 44 = .ok (.bipush (-10), 2) := by decide +kernel
theorem dX10_town_46 : decode cX10_town 46 = .ok (.aload_n 0, 1) := by decide +kernel
theorem dX10_town_47 : decode cX10_town 47 = .ok (.getfield 41, 3) := by decide +kernel
theorem dX10_town_50 : decode cX10_town 50 = .ok (.getfield 77, 3) := by decide +kernel
theorem dX10_town_53 : decode cX10_town 53 = .ok (.isub, 1) := by decide +kernel
theorem dX10_town_54 : decode cX10_town 54 = .ok (.ireturn, 1) := by decide +kernel
theorem dX10_town_55 : decode cX10_town 55 = .ok (.aload_n 0, 1) := by decide +kernel
theorem dX10_town_56 : decode cX10_town 56 = .ok (.getfield 29, 3) := by decide +kernel
theorem dX10_town_59 : decode cX10_town 59 = .ok (.getfield 80, 3) := by decide +kernel
theorem dX10_town_62 : decode cX10_town 62 = .ok (.aload_n 0, 1) := by decide +kernel
theorem dX10_town_63 : decode cX10_town 63 = .ok (.getfield 41, 3) := by decide +kernel
theorem dX10_town_66 : decode cX10_town 66 = .ok (.getfield 84, 3) := by decide +kernel
theorem dX10_town_69 : decode cX10_town 69 = .ok (.invokevirtual 85, 3) := by decide +kernel
theorem dX10_town_72 : decode cX10_town 72 = .ok (.aload_n 0, 1) := by decide +kernel
theorem dX10_town_73 : decode cX10_town 73 = .ok (.getfield 29, 3) := by decide +kernel
theorem dX10_town_76 : decode cX10_town 76 = .ok (.dup, 1) := by decide +kernel
theorem dX10_town_77 : decode cX10_town 77 = .ok (.getfield 70, 3) := by decide +kernel
theorem dX10_town_80 : decode cX10_town 80 = .ok (.iconst 1, 1) := by decide +kernel
theorem dX10_town_81 : decode cX10_town 81 = .ok (.iadd, 1) := by decide +kernel
theorem dX10_town_82 : decode cX10_town 82 = .ok (.putfield 70, 3) := by decide +kernel
theorem dX10_town_85 : decode cX10_town 85 = .ok (.aload_n 0, 1) := by decide +kernel
theorem dX10_town_86 : decode cX10_town 86 = .ok (.getfield 29, 3) := by decide +kernel
theorem dX10_town_89 : decode cX10_town 89 = .ok (.getfield 70, 3) := by decide +kernel
theorem dX10_town_92 : decode cX10_town 92 = .ok (.iconst 1, 1) := by decide +kernel
theorem dX10_town_93 : decode cX10_town 93 = .ok (.isub, 1) := by decide +kernel
theorem dX10_town_94 : decode cX10_town 94 = .ok (.ireturn, 1) := by decide +kernel
theorem dX10_person_0 : decode cX10_person 0 = .ok (.iload_n 1, 1) := by decide +kernel
theorem dX10_person_1 : decode cX10_person 1 = .ok (.bipush 7, 2) := by decide +kernel
theorem dX10_person_3 : decode cX10_person 3 = .ok (.invokestatic 91, 3) := by decide +kernel
theorem dX10_person_6 : decode cX10_person 6 = .ok (.ifCond .ne 5, 3) := by decide +kernel
theorem dX10_person_9 : decode cX10_person 9 = .ok (.iconst (-1), 1) := by decide +kernel
theorem dX10_person_10 : decode cX10_person 10 = .ok (.ireturn, 1) := by decide +kernel
theorem dX10_person_11 : decode cX10_person 11 = .ok (.iload_n 2, 1) := by decide +kernel
theorem dX10_person_12 : decode cX10_person 12 = .ok (.invokestatic 95, 3) := by decide +kernel
theorem dX10_person_15 : decode cX10_person 15 = .ok (.ifCond .ne 6, 3) := by decide +kernel
theorem dX10_person_18 : decode cX10_person 18 = .ok (.bipush (-2), 2) := by decide +kernel
theorem dX10_person_20 : decode cX10_person 20 = .ok (.ireturn, 1) := by decide +kernel
theorem dX10_person_21 : decode cX10_person 21 = .ok (.aload_n 0, 1) := by decide +kernel
theorem dX10_person_22 : decode cX10_person 22 = .ok (.getfield 29, 3) := by decide +kernel
theorem dX10_person_25 : decode cX10_person 25 = .ok (.getfield 98, 3) := by decide +kernel
theorem dX10_person_28 : decode cX10_person 28 = .ok (.iload_n 1, 1) := by decide +kernel
theorem dX10_person_29 : decode cX10_person 29 = .ok (.iload_n 2, 1) := by decide +kernel
theorem dX10_person_30 : decode cX10_person 30 = .ok (.invokevirtual 102, 3) := by decide +kernel
theorem dX10_person_33 : decode cX10_person 33 = .ok (.ifCond .eq 18, 3) := by decide +kernel
theorem dX10_person_36 : decode cX10_person 36 = .ok (.aload_n 0, 1) := by decide +kernel
theorem dX10_person_37 : decode cX10_person 37 = .ok (.getfield 29, 3) := by decide +kernel
theorem dX10_person_40 : decode cX10_person 40 = .ok (.getfield 98, 3) := by decide +kernel
theorem dX10_person_43 : decode cX10_person 43 = .ok (.getfield 106, 3) := by decide +kernel
theorem dX10_person_46 : decode cX10_person 46 = .ok (.iconst 1, 1) := by decide +kernel
theorem dX10_person_47 : decode cX10_person 47 = .ok (.isub, 1) := by decide +kernel
theorem dX10_person_48 : decode cX10_person 48 = .ok (.goto 5, 3) := by decide +kernel
theorem dX10_person_51 : decode cX10_person 51 = .ok (.bipush (-4), 2) := by decide +kernel
theorem dX10_person_53 : decode cX10_person 53 = .ok (.ireturn, 1) := by decide +kernel
theorem dX10_of_0 : decode cX10_of 0 = .ok (.aload_n 0, 1) := by decide +kernel
theorem dX10_of_1 : decode cX10_of 1 = .ok (.getfield 29, 3) := by decide +kernel
theorem dX10_of_4 : decode cX10_of 4 = .ok (.getfield 98, 3) := by decide +kernel
theorem dX10_of_7 : decode cX10_of 7 = .ok (.iload_n 1, 1) := by decide +kernel
theorem dX10_of_8 : decode cX10_of 8 = .ok (.invokevirtual 107, 3) := by decide +kernel
theorem dX10_of_11 : decode cX10_of 11 = .ok (.ifCond .ne 5, 3) := by decide +kernel
theorem dX10_of_14 : decode cX10_of 14 = .ok (.iconst (-1), 1) := by decide +kernel
theorem dX10_of_15 : decode cX10_of 15 = .ok (.ireturn, 1) := by decide +kernel
theorem dX10_of_16 : decode cX10_of 16 = .ok (.aload_n 0, 1) := by decide +kernel
theorem dX10_of_17 : decode cX10_of 17 = .ok (.getfield 29, 3) := by decide +kernel
theorem dX10_of_20 : decode cX10_of 20 = .ok (.getfield 110, 3) := by decide +kernel
theorem dX10_of_23 : decode cX10_of 23 = .ok (.astore_n 3, 1) := by decide +kernel
theorem dX10_of_24 : decode cX10_of 24 = .ok (.iload_n 2, 1) := by decide +kernel
theorem dX10_of_25 : decode cX10_of 25 = .ok (.tableswitch 183 0 11 #[63, 76, 89, 159, 106, 159, 123, 159, 159, 159, 136, 146], 63) := by decide +kernel
theorem dX10_of_88 : decode cX10_of 88 = .ok (.aload_n 0, 1) := by decide +kernel
theorem dX10_of_89 : decode cX10_of 89 = .ok (.getfield 29, 3) := by decide +kernel
theorem dX10_of_92 : decode cX10_of 92 = .ok (.getfield 98, 3) := by decide +kernel
theorem dX10_of_95 : decode cX10_of 95 = .ok (.getfield 114, 3) := by decide +kernel
theorem dX10_of_98 : decode cX10_of 98 = .ok (.iload_n 1, 1) := by decide +kernel
theorem dX10_of_99 : decode cX10_of 99 = .ok (.iaload, 1) := by decide +kernel
theorem dX10_of_100 : decode cX10_of 100 = .ok (.ireturn, 1) := by decide +kernel
theorem dX10_of_101 : decode cX10_of 101 = .ok (.aload_n 0, 1) := by decide +kernel
theorem dX10_of_102 : decode cX10_of 102 = .ok (.getfield 29, 3) := by decide +kernel
theorem dX10_of_105 : decode cX10_of 105 = .ok (.getfield 98, 3) := by decide +kernel
theorem dX10_of_108 : decode cX10_of 108 = .ok (.getfield 118, 3) := by decide +kernel
theorem dX10_of_111 : decode cX10_of 111 = .ok (.iload_n 1, 1) := by decide +kernel
theorem dX10_of_112 : decode cX10_of 112 = .ok (.iaload, 1) := by decide +kernel
theorem dX10_of_113 : decode cX10_of 113 = .ok (.ireturn, 1) := by decide +kernel
theorem dX10_of_114 : decode cX10_of 114 = .ok (.aload_n 3, 1) := by decide +kernel
theorem dX10_of_115 : decode cX10_of 115 = .ok (.getfield 121, 3) := by decide +kernel
theorem dX10_of_118 : decode cX10_of 118 = .ok (.iload_n 1, 1) := by decide +kernel
theorem dX10_of_119 : decode cX10_of 119 = .ok (.invokestatic 126, 3) := by decide +kernel
theorem dX10_of_122 : decode cX10_of 122 = .ok (.ifCond .eq 7, 3) := by decide +kernel
theorem dX10_of_125 : decode cX10_of 125 = .ok (.iconst 1, 1) := by decide +kernel
theorem dX10_of_126 : decode cX10_of 126 = .ok (.goto 4, 3) := by decide +kernel
theorem dX10_of_129 : decode cX10_of 129 = .ok (.iconst 0, 1) := by decide +kernel
theorem dX10_of_130 : decode cX10_of 130 = .ok (.ireturn, 1) := by decide +kernel
theorem dX10_of_131 : decode cX10_of 131 = .ok (.aload_n 3, 1) := by decide +kernel
theorem dX10_of_132 : decode cX10_of 132 = .ok (.getfield 129, 3) := by decide +kernel
theorem dX10_of_135 : decode cX10_of 135 = .ok (.iload_n 1, 1) := by decide +kernel
theorem dX10_of_136 : decode cX10_of 136 = .ok (.invokestatic 126, 3) := by decide +kernel
theorem dX10_of_139 : decode cX10_of 139 = .ok (.ifCond .eq 7, 3) := by decide +kernel
theorem dX10_of_142 : decode cX10_of 142 = .ok (.iconst 1, 1) := by decide +kernel
theorem dX10_of_143 : decode cX10_of 143 = .ok (.goto 4, 3) := by decide +kernel
theorem dX10_of_146 : decode cX10_of 146 = .ok (.iconst 0, 1) := by decide +kernel
theorem dX10_of_147 : decode cX10_of 147 = .ok (.ireturn, 1) := by decide +kernel
theorem dX10_of_148 : decode cX10_of 148 = .ok (.aload_n 0, 1) := by decide +kernel
theorem dX10_of_149 : decode cX10_of 149 = .ok (.getfield 29, 3) := by decide +kernel
theorem dX10_of_152 : decode cX10_of 152 = .ok (.getfield 98, 3) := by decide +kernel
theorem dX10_of_155 : decode cX10_of 155 = .ok (.getfield 132, 3) := by decide +kernel
theorem dX10_of_158 : decode cX10_of 158 = .ok (.iload_n 1, 1) := by decide +kernel
theorem dX10_of_159 : decode cX10_of 159 = .ok (.iaload, 1) := by decide +kernel
theorem dX10_of_160 : decode cX10_of 160 = .ok (.ireturn, 1) := by decide +kernel
theorem dX10_of_161 : decode cX10_of 161 = .ok (.aload_n 0, 1) := by decide +kernel
theorem dX10_of_162 : decode cX10_of 162 = .ok (.getfield 22, 3) := by decide +kernel
theorem dX10_of_165 : decode cX10_of 165 = .ok (.aload_n 3, 1) := by decide +kernel
theorem dX10_of_166 : decode cX10_of 166 = .ok (.iload_n 1, 1) := by decide +kernel
theorem dX10_of_167 : decode cX10_of 167 = .ok (.invokevirtual 135, 3) := by decide +kernel
theorem dX10_of_170 : decode cX10_of 170 = .ok (.ireturn, 1) := by decide +kernel
theorem dX10_of_171 : decode cX10_of 171 = .ok (.aload_n 0, 1) := by decide +kernel
theorem dX10_of_172 : decode cX10_of 172 = .ok (.getfield 29, 3) := by decide +kernel
theorem dX10_of_175 : decode cX10_of 175 = .ok (.getfield 98, 3) := by decide +kernel
theorem dX10_of_178 : decode cX10_of 178 = .ok (.getfield 139, 3) := by decide +kernel
theorem dX10_of_181 : decode cX10_of 181 = .ok (.iload_n 1, 1) := by decide +kernel
theorem dX10_of_182 : decode cX10_of 182 = .ok (.iaload, 1) := by decide +kernel
theorem dX10_of_183 : decode cX10_of 183 = .ok (.ireturn, 1) := by decide +kernel
theorem dX10_of_184 : decode cX10_of 184 = .ok (.aload_n 3, 1) := by decide +kernel
theorem dX10_of_185 : decode cX10_of 185 = .ok (.getfield 121, 3) := by decide +kernel
theorem dX10_of_188 : decode cX10_of 188 = .ok (.iload_n 1, 1) := by decide +kernel
theorem dX10_of_189 : decode cX10_of 189 = .ok (.invokestatic 126, 3) := by decide +kernel
theorem dX10_of_192 : decode cX10_of 192 = .ok (.ifCond .eq 13, 3) := by decide +kernel
theorem dX10_of_195 : decode cX10_of 195 = .ok (.aload_n 0, 1) := by decide +kernel
theorem dX10_of_196 : decode cX10_of 196 = .ok (.aload_n 3, 1) := by decide +kernel
theorem dX10_of_197 : decode cX10_of 197 = .ok (.iload_n 1, 1) := by decide +kernel
theorem dX10_of_198 : decode cX10_of 198 = .ok (.iload_n 2, 1) := by decide +kernel
theorem dX10_of_199 : decode cX10_of 199 = .ok (.invokevirtual 142, 3) := by decide +kernel
theorem dX10_of_202 : decode cX10_of 202 = .ok (.goto 5, 3) := by decide +kernel
theorem dX10_of_205 : decode cX10_of 205 = .ok (.bipush (-5), 2) := by decide +kernel
theorem dX10_of_207 : decode cX10_of 207 = .ok (.ireturn, 1) := by decide +kernel
theorem dX10_of_208 : decode cX10_of 208 = .ok (.iconst (-1), 1) := by decide +kernel
theorem dX10_of_209 : decode cX10_of 209 = .ok (.ireturn, 1) := by decide +kernel
theorem dX10_ofTeller_0 : decode cX10_ofTeller 0 = .ok (.iload_n 3, 1) := by decide +kernel
theorem dX10_ofTeller_1 : decode cX10_ofTeller 1 = .ok (.tableswitch 73 3 8 #[39, 73, 46, 73, 53, 63], 39) := by decide +kernel
theorem dX10_ofTeller_40 : decode cX10_ofTeller 40 = .ok (.aload_n 1, 1) := by decide +kernel
theorem dX10_ofTeller_41 : decode cX10_ofTeller 41 = .ok (.getfield 146, 3) := by decide +kernel
theorem dX10_ofTeller_44 : decode cX10_ofTeller 44 = .ok (.iload_n 2, 1) := by decide +kernel
theorem dX10_ofTeller_45 : decode cX10_ofTeller 45 = .ok (.iaload, 1) := by decide +kernel
theorem dX10_ofTeller_46 : decode cX10_ofTeller 46 = .ok (.ireturn, 1) := by decide +kernel
theorem dX10_ofTeller_47 : decode cX10_ofTeller 47 = .ok (.aload_n 1, 1) := by decide +kernel
theorem dX10_ofTeller_48 : decode cX10_ofTeller 48 = .ok (.getfield 149, 3) := by decide +kernel
theorem dX10_ofTeller_51 : decode cX10_ofTeller 51 = .ok (.iload_n 2, 1) := by decide +kernel
theorem dX10_ofTeller_52 : decode cX10_ofTeller 52 = .ok (.iaload, 1) := by decide +kernel
theorem dX10_ofTeller_53 : decode cX10_ofTeller 53 = .ok (.ireturn, 1) := by decide +kernel
theorem dX10_ofTeller_54 : decode cX10_ofTeller 54 = .ok (.aload_n 0, 1) := by decide +kernel
theorem dX10_ofTeller_55 : decode cX10_ofTeller 55 = .ok (.getfield 22, 3) := by decide +kernel
theorem dX10_ofTeller_58 : decode cX10_ofTeller 58 = .ok (.aload_n 1, 1) := by decide +kernel
theorem dX10_ofTeller_59 : decode cX10_ofTeller 59 = .ok (.iload_n 2, 1) := by decide +kernel
theorem dX10_ofTeller_60 : decode cX10_ofTeller 60 = .ok (.invokevirtual 152, 3) := by decide +kernel
theorem dX10_ofTeller_63 : decode cX10_ofTeller 63 = .ok (.ireturn, 1) := by decide +kernel
theorem dX10_ofTeller_64 : decode cX10_ofTeller 64 = .ok (.aload_n 0, 1) := by decide +kernel
theorem dX10_ofTeller_65 : decode cX10_ofTeller 65 = .ok (.getfield 22, 3) := by decide +kernel
theorem dX10_ofTeller_68 : decode cX10_ofTeller 68 = .ok (.aload_n 1, 1) := by decide +kernel
theorem dX10_ofTeller_69 : decode cX10_ofTeller 69 = .ok (.iload_n 2, 1) := by decide +kernel
theorem dX10_ofTeller_70 : decode cX10_ofTeller 70 = .ok (.invokevirtual 155, 3) := by decide +kernel
theorem dX10_ofTeller_73 : decode cX10_ofTeller 73 = .ok (.ireturn, 1) := by decide +kernel
theorem dX10_ofTeller_74 : decode cX10_ofTeller 74 = .ok (.aload_n 0, 1) := by decide +kernel
theorem dX10_ofTeller_75 : decode cX10_ofTeller 75 = .ok (.getfield 22, 3) := by decide +kernel
theorem dX10_ofTeller_78 : decode cX10_ofTeller 78 = .ok (.aload_n 1, 1) := by decide +kernel
theorem dX10_ofTeller_79 : decode cX10_ofTeller 79 = .ok (.iload_n 2, 1) := by decide +kernel
theorem dX10_ofTeller_80 : decode cX10_ofTeller 80 = .ok (.invokevirtual 152, 3) := by decide +kernel
theorem dX10_ofTeller_83 : decode cX10_ofTeller 83 = .ok (.istore 4, 2) := by decide +kernel
theorem dX10_ofTeller_85 : decode cX10_ofTeller 85 = .ok (.aload_n 0, 1) := by decide +kernel
theorem dX10_ofTeller_86 : decode cX10_ofTeller 86 = .ok (.getfield 29, 3) := by decide +kernel
theorem dX10_ofTeller_89 : decode cX10_ofTeller 89 = .ok (.getfield 98, 3) := by decide +kernel
theorem dX10_ofTeller_92 : decode cX10_ofTeller 92 = .ok (.iload_n 2, 1) := by decide +kernel
theorem dX10_ofTeller_93 : decode cX10_ofTeller 93 = .ok (.iload 4, 2) := by decide +kernel
theorem dX10_ofTeller_95 : decode cX10_ofTeller 95 = .ok (.aload_n 0, 1) := by decide +kernel
theorem dX10_ofTeller_96 : decode cX10_ofTeller 96 = .ok (.getfield 22, 3) := by decide +kernel
theorem dX10_ofTeller_99 : decode cX10_ofTeller 99 = .ok (.aload_n 1, 1) := by decide +kernel
theorem dX10_ofTeller_100 : decode cX10_ofTeller 100 = .ok (.iload_n 2, 1) := by decide +kernel
theorem dX10_ofTeller_101 : decode cX10_ofTeller 101 = .ok (.invokevirtual 155, 3) := by decide +kernel
theorem dX10_ofTeller_104 : decode cX10_ofTeller 104 = .ok (.invokevirtual 158, 3) := by decide +kernel
theorem dX10_ofTeller_107 : decode cX10_ofTeller 107 = .ok (.ireturn, 1) := by decide +kernel
theorem dX10_know_0 : decode cX10_know 0 = .ok (.aload_n 0, 1) := by decide +kernel
theorem dX10_know_1 : decode cX10_know 1 = .ok (.getfield 29, 3) := by decide +kernel
theorem dX10_know_4 : decode cX10_know 4 = .ok (.getfield 98, 3) := by decide +kernel
theorem dX10_know_7 : decode cX10_know 7 = .ok (.iload_n 1, 1) := by decide +kernel
theorem dX10_know_8 : decode cX10_know 8 = .ok (.invokevirtual 107, 3) := by decide +kernel
theorem dX10_know_11 : decode cX10_know 11 = .ok (.ifCond .eq 17, 3) := by decide +kernel
theorem dX10_know_14 : decode cX10_know 14 = .ok (.aload_n 0, 1) := by decide +kernel
theorem dX10_know_15 : decode cX10_know 15 = .ok (.getfield 29, 3) := by decide +kernel
theorem dX10_know_18 : decode cX10_know 18 = .ok (.getfield 98, 3) := by decide +kernel
theorem dX10_know_21 : decode cX10_know 21 = .ok (.iload_n 2, 1) := by decide +kernel
theorem dX10_know_22 : decode cX10_know 22 = .ok (.invokevirtual 107, 3) := by decide +kernel
theorem dX10_know_25 : decode cX10_know 25 = .ok (.ifCond .ne 5, 3) := by decide +kernel
theorem dX10_know_28 : decode cX10_know 28 = .ok (.iconst (-1), 1) := by decide +kernel
theorem dX10_know_29 : decode cX10_know 29 = .ok (.ireturn, 1) := by decide +kernel
theorem dX10_know_30 : decode cX10_know 30 = .ok (.iload_n 1, 1) := by decide +kernel
theorem dX10_know_31 : decode cX10_know 31 = .ok (.iload_n 2, 1) := by decide +kernel
theorem dX10_know_32 : decode cX10_know 32 = .ok (.if_icmp .ne 6, 3) := by decide +kernel
theorem dX10_know_35 : decode cX10_know 35 = .ok (.bipush (-2), 2) := by decide +kernel
theorem dX10_know_37 : decode cX10_know 37 = .ok (.ireturn, 1) := by decide +kernel
theorem dX10_know_38 : decode cX10_know 38 = .ok (.aload_n 0, 1) := by decide +kernel
theorem dX10_know_39 : decode cX10_know 39 = .ok (.getfield 29, 3) := by decide +kernel
theorem dX10_know_42 : decode cX10_know 42 = .ok (.getfield 98, 3) := by decide +kernel
theorem dX10_know_45 : decode cX10_know 45 = .ok (.getfield 132, 3) := by decide +kernel
theorem dX10_know_48 : decode cX10_know 48 = .ok (.iload_n 1, 1) := by decide +kernel
theorem dX10_know_49 : decode cX10_know 49 = .ok (.iaload, 1) := by decide +kernel
theorem dX10_know_50 : decode cX10_know 50 = .ok (.iload_n 2, 1) := by decide +kernel
theorem dX10_know_51 : decode cX10_know 51 = .ok (.invokestatic 126, 3) := by decide +kernel
theorem dX10_know_54 : decode cX10_know 54 = .ok (.istore 4, 2) := by decide +kernel
theorem dX10_know_56 : decode cX10_know 56 = .ok (.aload_n 0, 1) := by decide +kernel
theorem dX10_know_57 : decode cX10_know 57 = .ok (.getfield 29, 3) := by decide +kernel
theorem dX10_know_60 : decode cX10_know 60 = .ok (.getfield 98, 3) := by decide +kernel
theorem dX10_know_63 : decode cX10_know 63 = .ok (.iload_n 1, 1) := by decide +kernel
theorem dX10_know_64 : decode cX10_know 64 = .ok (.iload_n 2, 1) := by decide +kernel
theorem dX10_know_65 : decode cX10_know 65 = .ok (.iload_n 3, 1) := by decide +kernel
theorem dX10_know_66 : decode cX10_know 66 = .ok (.invokevirtual 162, 3) := by decide +kernel
theorem dX10_know_69 : decode cX10_know 69 = .ok (.iload 4, 2) := by decide +kernel
theorem dX10_know_71 : decode cX10_know 71 = .ok (.ifCond .eq 7, 3) := by decide +kernel
theorem dX10_know_74 : decode cX10_know 74 = .ok (.iconst 1, 1) := by decide +kernel
theorem dX10_know_75 : decode cX10_know 75 = .ok (.goto 4, 3) := by decide +kernel
theorem dX10_know_78 : decode cX10_know 78 = .ok (.iconst 0, 1) := by decide +kernel
theorem dX10_know_79 : decode cX10_know 79 = .ok (.ireturn, 1) := by decide +kernel
theorem dX10_row_0 : decode cX10_row 0 = .ok (.aload_n 0, 1) := by decide +kernel
theorem dX10_row_1 : decode cX10_row 1 = .ok (.getfield 29, 3) := by decide +kernel
theorem dX10_row_4 : decode cX10_row 4 = .ok (.getfield 98, 3) := by decide +kernel
theorem dX10_row_7 : decode cX10_row 7 = .ok (.astore_n 3, 1) := by decide +kernel
theorem dX10_row_8 : decode cX10_row 8 = .ok (.aload_n 3, 1) := by decide +kernel
theorem dX10_row_9 : decode cX10_row 9 = .ok (.iload_n 1, 1) := by decide +kernel
theorem dX10_row_10 : decode cX10_row 10 = .ok (.invokevirtual 107, 3) := by decide +kernel
theorem dX10_row_13 : decode cX10_row 13 = .ok (.ifCond .eq 16, 3) := by decide +kernel
theorem dX10_row_16 : decode cX10_row 16 = .ok (.iload_n 2, 1) := by decide +kernel
theorem dX10_row_17 : decode cX10_row 17 = .ok (.iconst (-1), 1) := by decide +kernel
theorem dX10_row_18 : decode cX10_row 18 = .ok (.if_icmp .eq 13, 3) := by decide +kernel
theorem dX10_row_21 : decode cX10_row 21 = .ok (.aload_n 3, 1) := by decide +kernel
theorem dX10_row_22 : decode cX10_row 22 = .ok (.iload_n 2, 1) := by decide +kernel
theorem dX10_row_23 : decode cX10_row 23 = .ok (.invokevirtual 107, 3) := by decide +kernel
theorem dX10_row_26 : decode cX10_row 26 = .ok (.ifCond .ne 5, 3) := by decide +kernel
theorem dX10_row_29 : decode cX10_row 29 = .ok (.iconst (-1), 1) := by decide +kernel
theorem dX10_row_30 : decode cX10_row 30 = .ok (.ireturn, 1) := by decide +kernel
theorem dX10_row_31 : decode cX10_row 31 = .ok (.aload_n 3, 1) := by decide +kernel
theorem dX10_row_32 : decode cX10_row 32 = .ok (.getfield 114, 3) := by decide +kernel
theorem dX10_row_35 : decode cX10_row 35 = .ok (.iload_n 1, 1) := by decide +kernel
theorem dX10_row_36 : decode cX10_row 36 = .ok (.iaload, 1) := by decide +kernel
theorem dX10_row_37 : decode cX10_row 37 = .ok (.bipush 6, 2) := by decide +kernel
theorem dX10_row_39 : decode cX10_row 39 = .ok (.if_icmp .eq 6, 3) := by decide +kernel
theorem dX10_row_42 : decode cX10_row 42 = .ok (.bipush (-3), 2) := by decide +kernel
theorem dX10_row_44 : decode cX10_row 44 = .ok (.ireturn, 1) := by decide +kernel
theorem dX10_row_45 : decode cX10_row 45 = .ok (.iload_n 2, 1) := by decide +kernel
theorem dX10_row_46 : decode cX10_row 46 = .ok (.iconst (-1), 1) := by decide +kernel
theorem dX10_row_47 : decode cX10_row 47 = .ok (.if_icmp .ne 12, 3) := by decide +kernel
theorem dX10_row_50 : decode cX10_row 50 = .ok (.aload_n 3, 1) := by decide +kernel
theorem dX10_row_51 : decode cX10_row 51 = .ok (.getfield 139, 3) := by decide +kernel
theorem dX10_row_54 : decode cX10_row 54 = .ok (.iload_n 1, 1) := by decide +kernel
theorem dX10_row_55 : decode cX10_row 55 = .ok (.iconst 0, 1) := by decide +kernel
theorem dX10_row_56 : decode cX10_row 56 = .ok (.iastore, 1) := by decide +kernel
theorem dX10_row_57 : decode cX10_row 57 = .ok (.iconst 0, 1) := by decide +kernel
theorem dX10_row_58 : decode cX10_row 58 = .ok (.ireturn, 1) := by decide +kernel
theorem dX10_row_59 : decode cX10_row 59 = .ok (.aload_n 3, 1) := by decide +kernel
theorem dX10_row_60 : decode cX10_row 60 = .ok (.iload_n 1, 1) := by decide +kernel
theorem dX10_row_61 : decode cX10_row 61 = .ok (.iload_n 2, 1) := by decide +kernel
theorem dX10_row_62 : decode cX10_row 62 = .ok (.invokevirtual 166, 3) := by decide +kernel
theorem dX10_row_65 : decode cX10_row 65 = .ok (.ifCond .eq 12, 3) := by decide +kernel
theorem dX10_row_68 : decode cX10_row 68 = .ok (.aload_n 3, 1) := by decide +kernel
theorem dX10_row_69 : decode cX10_row 69 = .ok (.getfield 139, 3) := by decide +kernel
theorem dX10_row_72 : decode cX10_row 72 = .ok (.iload_n 1, 1) := by decide +kernel
theorem dX10_row_73 : decode cX10_row 73 = .ok (.iaload, 1) := by decide +kernel
theorem dX10_row_74 : decode cX10_row 74 = .ok (.goto 5, 3) := by decide +kernel
theorem dX10_row_77 : decode cX10_row 77 = .ok (.bipush (-4), 2) := by decide +kernel
theorem dX10_row_79 : decode cX10_row 79 = .ok (.ireturn, 1) := by decide +kernel
theorem dX10_told_0 : decode cX10_told 0 = .ok (.iload_n 1, 1) := by decide +kernel
theorem dX10_told_1 : decode cX10_told 1 = .ok (.tableswitch 90 0 4 #[35, 46, 57, 68, 79], 35) := by decide +kernel
theorem dX10_told_36 : decode cX10_told 36 = .ok (.aload_n 0, 1) := by decide +kernel
theorem dX10_told_37 : decode cX10_told 37 = .ok (.getfield 29, 3) := by decide +kernel
theorem dX10_told_40 : decode cX10_told 40 = .ok (.getfield 110, 3) := by decide +kernel
theorem dX10_told_43 : decode cX10_told 43 = .ok (.getfield 169, 3) := by decide +kernel
theorem dX10_told_46 : decode cX10_told 46 = .ok (.ireturn, 1) := by decide +kernel
theorem dX10_told_47 : decode cX10_told 47 = .ok (.aload_n 0, 1) := by decide +kernel
theorem dX10_told_48 : decode cX10_told 48 = .ok (.getfield 29, 3) := by decide +kernel
theorem dX10_told_51 : decode cX10_told 51 = .ok (.getfield 110, 3) := by decide +kernel
theorem dX10_told_54 : decode cX10_told 54 = .ok (.getfield 172, 3) := by decide +kernel
theorem dX10_told_57 : decode cX10_told 57 = .ok (.ireturn, 1) := by decide +kernel
theorem dX10_told_58 : decode cX10_told 58 = .ok (.aload_n 0, 1) := by decide +kernel
theorem dX10_told_59 : decode cX10_told 59 = .ok (.getfield 29, 3) := by decide +kernel
theorem dX10_told_62 : decode cX10_told 62 = .ok (.getfield 80, 3) := by decide +kernel
theorem dX10_told_65 : decode cX10_told 65 = .ok (.getfield 175, 3) := by decide +kernel
theorem dX10_told_68 : decode cX10_told 68 = .ok (.ireturn, 1) := by decide +kernel
theorem dX10_told_69 : decode cX10_told 69 = .ok (.aload_n 0, 1) := by decide +kernel
theorem dX10_told_70 : decode cX10_told 70 = .ok (.getfield 29, 3) := by decide +kernel
theorem dX10_told_73 : decode cX10_told 73 = .ok (.getfield 80, 3) := by decide +kernel
theorem dX10_told_76 : decode cX10_told 76 = .ok (.getfield 178, 3) := by decide +kernel
theorem dX10_told_79 : decode cX10_told 79 = .ok (.ireturn, 1) := by decide +kernel
theorem dX10_told_80 : decode cX10_told 80 = .ok (.aload_n 0, 1) := by decide +kernel
theorem dX10_told_81 : decode cX10_told 81 = .ok (.getfield 29, 3) := by decide +kernel
theorem dX10_told_84 : decode cX10_told 84 = .ok (.getfield 110, 3) := by decide +kernel
theorem dX10_told_87 : decode cX10_told 87 = .ok (.getfield 121, 3) := by decide +kernel
theorem dX10_told_90 : decode cX10_told 90 = .ok (.ireturn, 1) := by decide +kernel
theorem dX10_told_91 : decode cX10_told 91 = .ok (.iconst (-1), 1) := by decide +kernel
theorem dX10_told_92 : decode cX10_told 92 = .ok (.ireturn, 1) := by decide +kernel
theorem dX10_begin_0 : decode cX10_begin 0 = .ok (.aload_n 0, 1) := by decide +kernel
theorem dX10_begin_1 : decode cX10_begin 1 = .ok (.getfield 29, 3) := by decide +kernel
theorem dX10_begin_4 : decode cX10_begin 4 = .ok (.getfield 98, 3) := by decide +kernel
theorem dX10_begin_7 : decode cX10_begin 7 = .ok (.iload_n 1, 1) := by decide +kernel
theorem dX10_begin_8 : decode cX10_begin 8 = .ok (.invokevirtual 107, 3) := by decide +kernel
theorem dX10_begin_11 : decode cX10_begin 11 = .ok (.ifCond .ne 5, 3) := by decide +kernel
theorem dX10_begin_14 : decode cX10_begin 14 = .ok (.iconst (-1), 1) := by decide +kernel
theorem dX10_begin_15 : decode cX10_begin 15 = .ok (.ireturn, 1) := by decide +kernel
theorem dX10_begin_16 : decode cX10_begin 16 = .ok (.iload_n 2, 1) := by decide +kernel
theorem dX10_begin_17 : decode cX10_begin 17 = .ok (.invokestatic 95, 3) := by decide +kernel
theorem dX10_begin_20 : decode cX10_begin 20 = .ok (.ifCond .ne 6, 3) := by decide +kernel
theorem dX10_begin_23 : decode cX10_begin 23 = .ok (.bipush (-2), 2) := by decide +kernel
theorem dX10_begin_25 : decode cX10_begin 25 = .ok (.ireturn, 1) := by decide +kernel
theorem dX10_begin_26 : decode cX10_begin 26 = .ok (.aload_n 0, 1) := by decide +kernel
theorem dX10_begin_27 : decode cX10_begin 27 = .ok (.getfield 29, 3) := by decide +kernel
theorem dX10_begin_30 : decode cX10_begin 30 = .ok (.getfield 110, 3) := by decide +kernel
theorem dX10_begin_33 : decode cX10_begin 33 = .ok (.iload_n 1, 1) := by decide +kernel
theorem dX10_begin_34 : decode cX10_begin 34 = .ok (.iload_n 2, 1) := by decide +kernel
theorem dX10_begin_35 : decode cX10_begin 35 = .ok (.aload_n 0, 1) := by decide +kernel
theorem dX10_begin_36 : decode cX10_begin 36 = .ok (.getfield 29, 3) := by decide +kernel
theorem dX10_begin_39 : decode cX10_begin 39 = .ok (.getfield 110, 3) := by decide +kernel
theorem dX10_begin_42 : decode cX10_begin 42 = .ok (.getfield 169, 3) := by decide +kernel
theorem dX10_begin_45 : decode cX10_begin 45 = .ok (.invokevirtual 181, 3) := by decide +kernel
theorem dX10_begin_48 : decode cX10_begin 48 = .ok (.iconst 1, 1) := by decide +kernel
theorem dX10_begin_49 : decode cX10_begin 49 = .ok (.ireturn, 1) := by decide +kernel
theorem dX10_day_0 : decode cX10_day 0 = .ok (.aload_n 0, 1) := by decide +kernel
theorem dX10_day_1 : decode cX10_day 1 = .ok (.getfield 29, 3) := by decide +kernel
theorem dX10_day_4 : decode cX10_day 4 = .ok (.getfield 110, 3) := by decide +kernel
theorem dX10_day_7 : decode cX10_day 7 = .ok (.getfield 169, 3) := by decide +kernel
theorem dX10_day_10 : decode cX10_day 10 = .ok (.sipush 999, 3) := by decide +kernel
theorem dX10_day_13 : decode cX10_day 13 = .ok (.if_icmp .lt 6, 3) := by decide +kernel
theorem dX10_day_16 : decode cX10_day 16 = .ok (.bipush (-3), 2) := by decide +kernel
theorem dX10_day_18 : decode cX10_day 18 = .ok (.ireturn, 1) := by decide +kernel
theorem dX10_day_19 : decode cX10_day 19 = .ok (.aload_n 0, 1) := by decide +kernel
theorem dX10_day_20 : decode cX10_day 20 = .ok (.getfield 22, 3) := by decide +kernel
theorem dX10_day_23 : decode cX10_day 23 = .ok (.aload_n 0, 1) := by decide +kernel
theorem dX10_day_24 : decode cX10_day 24 = .ok (.getfield 29, 3) := by decide +kernel
theorem dX10_day_27 : decode cX10_day 27 = .ok (.getfield 110, 3) := by decide +kernel
theorem dX10_day_30 : decode cX10_day 30 = .ok (.iconst (-1), 1) := by decide +kernel
theorem dX10_day_31 : decode cX10_day 31 = .ok (.iconst 0, 1) := by decide +kernel
theorem dX10_day_32 : decode cX10_day 32 = .ok (.iconst (-1), 1) := by decide +kernel
theorem dX10_day_33 : decode cX10_day 33 = .ok (.invokevirtual 185, 3) := by decide +kernel
theorem dX10_day_36 : decode cX10_day 36 = .ok (.ireturn, 1) := by decide +kernel
theorem dX10_sum_0 : decode cX10_sum 0 = .ok (.iload_n 1, 1) := by decide +kernel
theorem dX10_sum_1 : decode cX10_sum 1 = .ok (.bipush 13, 2) := by decide +kernel
theorem dX10_sum_3 : decode cX10_sum 3 = .ok (.invokestatic 91, 3) := by decide +kernel
theorem dX10_sum_6 : decode cX10_sum 6 = .ok (.ifCond .ne 7, 3) := by decide +kernel
theorem dX10_sum_9 : decode cX10_sum 9 = .ok (.ldc2_w 189, 3) := by decide +kernel
theorem dX10_sum_12 : decode cX10_sum 12 = .ok (.lreturn, 1) := by decide +kernel
theorem dX10_sum_13 : decode cX10_sum 13 = .ok (.aload_n 0, 1) := by decide +kernel
theorem dX10_sum_14 : decode cX10_sum 14 = .ok (.getfield 29, 3) := by decide +kernel
theorem dX10_sum_17 : decode cX10_sum 17 = .ok (.getfield 80, 3) := by decide +kernel
theorem dX10_sum_20 : decode cX10_sum 20 = .ok (.iload_n 1, 1) := by decide +kernel
theorem dX10_sum_21 : decode cX10_sum 21 = .ok (.invokevirtual 191, 3) := by decide +kernel
theorem dX10_sum_24 : decode cX10_sum 24 = .ok (.lreturn, 1) := by decide +kernel
theorem dX10_enough_0 : decode cX10_enough 0 = .ok (.iload_n 1, 1) := by decide +kernel
theorem dX10_enough_1 : decode cX10_enough 1 = .ok (.ifCond .lt 9, 3) := by decide +kernel
theorem dX10_enough_4 : decode cX10_enough 4 = .ok (.iload_n 1, 1) := by decide +kernel
theorem dX10_enough_5 : decode cX10_enough 5 = .ok (.ldc 195, 2) := by decide +kernel
theorem dX10_enough_7 : decode cX10_enough 7 = .ok (.if_icmp .le 6, 3) := by decide +kernel
theorem dX10_enough_10 : decode cX10_enough 10 = .ok (.bipush (-2), 2) := by decide +kernel
theorem dX10_enough_12 : decode cX10_enough 12 = .ok (.ireturn, 1) := by decide +kernel
theorem dX10_enough_13 : decode cX10_enough 13 = .ok (.iconst 0, 1) := by decide +kernel
theorem dX10_enough_14 : decode cX10_enough 14 = .ok (.istore_n 2, 1) := by decide +kernel
theorem dX10_enough_15 : decode cX10_enough 15 = .ok (.iload_n 2, 1) := by decide +kernel
theorem dX10_enough_16 : decode cX10_enough 16 = .ok (.bipush 12, 2) := by decide +kernel
theorem dX10_enough_18 : decode cX10_enough 18 = .ok (.if_icmp .gt 28, 3) := by decide +kernel
theorem dX10_enough_21 : decode cX10_enough 21 = .ok (.aload_n 0, 1) := by decide +kernel
theorem dX10_enough_22 : decode cX10_enough 22 = .ok (.getfield 29, 3) := by decide +kernel
theorem dX10_enough_25 : decode cX10_enough 25 = .ok (.getfield 80, 3) := by decide +kernel
theorem dX10_enough_28 : decode cX10_enough 28 = .ok (.iload_n 2, 1) := by decide +kernel
theorem dX10_enough_29 : decode cX10_enough 29 = .ok (.invokevirtual 191, 3) := by decide +kernel
theorem dX10_enough_32 : decode cX10_enough 32 = .ok (.iload_n 1, 1) := by decide +kernel
theorem dX10_enough_33 : decode cX10_enough 33 = .ok (.i2l, 1) := by decide +kernel
theorem dX10_enough_34 : decode cX10_enough 34 = .ok (.lcmp, 1) := by decide +kernel
theorem dX10_enough_35 : decode cX10_enough 35 = .ok (.ifCond .lt 5, 3) := by decide +kernel
theorem dX10_enough_38 : decode cX10_enough 38 = .ok (.iload_n 2, 1) := by decide +kernel
theorem dX10_enough_39 : decode cX10_enough 39 = .ok (.ireturn, 1) := by decide +kernel
theorem dX10_enough_40 : decode cX10_enough 40 = .ok (.iinc 2 1, 3) := by decide +kernel
theorem dX10_enough_43 : decode cX10_enough 43 = .ok (.goto (-28), 3) := by decide +kernel
theorem dX10_enough_46 : decode cX10_enough 46 = .ok (.bipush (-5), 2) := by decide +kernel
theorem dX10_enough_48 : decode cX10_enough 48 = .ok (.ireturn, 1) := by decide +kernel
theorem dX10_end_0 : decode cX10_end 0 = .ok (.aload_n 0, 1) := by decide +kernel
theorem dX10_end_1 : decode cX10_end 1 = .ok (.getfield 12, 3) := by decide +kernel
theorem dX10_end_4 : decode cX10_end 4 = .ok (.getfield 196, 3) := by decide +kernel
theorem dX10_end_7 : decode cX10_end 7 = .ok (.astore_n 2, 1) := by decide +kernel
theorem dX10_end_8 : decode cX10_end 8 = .ok (.aload_n 2, 1) := by decide +kernel
theorem dX10_end_9 : decode cX10_end 9 = .ok (.aload_n 0, 1) := by decide +kernel
theorem dX10_end_10 : decode cX10_end 10 = .ok (.getfield 29, 3) := by decide +kernel
theorem dX10_end_13 : decode cX10_end 13 = .ok (.getfield 110, 3) := by decide +kernel
theorem dX10_end_16 : decode cX10_end 16 = .ok (.invokevirtual 199, 3) := by decide +kernel
theorem dX10_end_19 : decode cX10_end 19 = .ok (.aload_n 0, 1) := by decide +kernel
theorem dX10_end_20 : decode cX10_end 20 = .ok (.getfield 22, 3) := by decide +kernel
theorem dX10_end_23 : decode cX10_end 23 = .ok (.aload_n 2, 1) := by decide +kernel
theorem dX10_end_24 : decode cX10_end 24 = .ok (.iconst (-1), 1) := by decide +kernel
theorem dX10_end_25 : decode cX10_end 25 = .ok (.iconst 0, 1) := by decide +kernel
theorem dX10_end_26 : decode cX10_end 26 = .ok (.iconst (-1), 1) := by decide +kernel
theorem dX10_end_27 : decode cX10_end 27 = .ok (.invokevirtual 202, 3) := by decide +kernel
theorem dX10_end_30 : decode cX10_end 30 = .ok (.istore_n 3, 1) := by decide +kernel
theorem dX10_end_31 : decode cX10_end 31 = .ok (.iload_n 1, 1) := by decide +kernel
theorem dX10_end_32 : decode cX10_end 32 = .ok (.tableswitch 65 0 3 #[32, 34, 42, 47], 32) := by decide +kernel
theorem dX10_end_64 : decode cX10_end 64 = .ok (.iload_n 3, 1) := by decide +kernel
theorem dX10_end_65 : decode cX10_end 65 = .ok (.ireturn, 1) := by decide +kernel
theorem dX10_end_66 : decode cX10_end 66 = .ok (.aload_n 2, 1) := by decide +kernel
theorem dX10_end_67 : decode cX10_end 67 = .ok (.getfield 121, 3) := by decide +kernel
theorem dX10_end_70 : decode cX10_end 70 = .ok (.invokestatic 205, 3) := by decide +kernel
theorem dX10_end_73 : decode cX10_end 73 = .ok (.ireturn, 1) := by decide +kernel
theorem dX10_end_74 : decode cX10_end 74 = .ok (.aload_n 2, 1) := by decide +kernel
theorem dX10_end_75 : decode cX10_end 75 = .ok (.getfield 172, 3) := by decide +kernel
theorem dX10_end_78 : decode cX10_end 78 = .ok (.ireturn, 1) := by decide +kernel
theorem dX10_end_79 : decode cX10_end 79 = .ok (.aload_n 0, 1) := by decide +kernel
theorem dX10_end_80 : decode cX10_end 80 = .ok (.getfield 29, 3) := by decide +kernel
theorem dX10_end_83 : decode cX10_end 83 = .ok (.getfield 98, 3) := by decide +kernel
theorem dX10_end_86 : decode cX10_end 86 = .ok (.invokevirtual 211, 3) := by decide +kernel
theorem dX10_end_89 : decode cX10_end 89 = .ok (.aload_n 2, 1) := by decide +kernel
theorem dX10_end_90 : decode cX10_end 90 = .ok (.getfield 121, 3) := by decide +kernel
theorem dX10_end_93 : decode cX10_end 93 = .ok (.iconst (-1), 1) := by decide +kernel
theorem dX10_end_94 : decode cX10_end 94 = .ok (.ixor, 1) := by decide +kernel
theorem dX10_end_95 : decode cX10_end 95 = .ok (.iand, 1) := by decide +kernel
theorem dX10_end_96 : decode cX10_end 96 = .ok (.ireturn, 1) := by decide +kernel
theorem dX10_end_97 : decode cX10_end 97 = .ok (.iconst (-1), 1) := by decide +kernel
theorem dX10_end_98 : decode cX10_end 98 = .ok (.ireturn, 1) := by decide +kernel
theorem dX10_best_0 : decode cX10_best 0 = .ok (.iload_n 2, 1) := by decide +kernel
theorem dX10_best_1 : decode cX10_best 1 = .ok (.iconst 3, 1) := by decide +kernel
theorem dX10_best_2 : decode cX10_best 2 = .ok (.invokestatic 91, 3) := by decide +kernel
theorem dX10_best_5 : decode cX10_best 5 = .ok (.ifCond .ne 5, 3) := by decide +kernel
theorem dX10_best_8 : decode cX10_best 8 = .ok (.iconst (-1), 1) := by decide +kernel
theorem dX10_best_9 : decode cX10_best 9 = .ok (.ireturn, 1) := by decide +kernel
theorem dX10_best_10 : decode cX10_best 10 = .ok (.iload_n 1, 1) := by decide +kernel
theorem dX10_best_11 : decode cX10_best 11 = .ok (.invokestatic 95, 3) := by decide +kernel
theorem dX10_best_14 : decode cX10_best 14 = .ok (.ifCond .ne 6, 3) := by decide +kernel
theorem dX10_best_17 : decode cX10_best 17 = .ok (.bipush (-2), 2) := by decide +kernel
theorem dX10_best_19 : decode cX10_best 19 = .ok (.ireturn, 1) := by decide +kernel
theorem dX10_best_20 : decode cX10_best 20 = .ok (.aload_n 0, 1) := by decide +kernel
theorem dX10_best_21 : decode cX10_best 21 = .ok (.getfield 29, 3) := by decide +kernel
theorem dX10_best_24 : decode cX10_best 24 = .ok (.getfield 98, 3) := by decide +kernel
theorem dX10_best_27 : decode cX10_best 27 = .ok (.getfield 106, 3) := by decide +kernel
theorem dX10_best_30 : decode cX10_best 30 = .ok (.ifCond .ne 6, 3) := by decide +kernel
theorem dX10_best_33 : decode cX10_best 33 = .ok (.bipush (-3), 2) := by decide +kernel
theorem dX10_best_35 : decode cX10_best 35 = .ok (.ireturn, 1) := by decide +kernel
theorem dX10_best_36 : decode cX10_best 36 = .ok (.aload_n 0, 1) := by decide +kernel
theorem dX10_best_37 : decode cX10_best 37 = .ok (.getfield 12, 3) := by decide +kernel
theorem dX10_best_40 : decode cX10_best 40 = .ok (.iload_n 1, 1) := by decide +kernel
theorem dX10_best_41 : decode cX10_best 41 = .ok (.invokevirtual 215, 3) := by decide +kernel
theorem dX10_best_44 : decode cX10_best 44 = .ok (.iload_n 2, 1) := by decide +kernel
theorem dX10_best_45 : decode cX10_best 45 = .ok (.lookupswitch 43 #[(0, 27), (1, 35)], 27) := by decide +kernel
theorem dX10_best_72 : decode cX10_best 72 = .ok (.aload_n 0, 1) := by decide +kernel
theorem dX10_best_73 : decode cX10_best 73 = .ok (.getfield 12, 3) := by decide +kernel
theorem dX10_best_76 : decode cX10_best 76 = .ok (.getfield 219, 3) := by decide +kernel
theorem dX10_best_79 : decode cX10_best 79 = .ok (.ireturn, 1) := by decide +kernel
theorem dX10_best_80 : decode cX10_best 80 = .ok (.aload_n 0, 1) := by decide +kernel
theorem dX10_best_81 : decode cX10_best 81 = .ok (.getfield 12, 3) := by decide +kernel
theorem dX10_best_84 : decode cX10_best 84 = .ok (.getfield 222, 3) := by decide +kernel
theorem dX10_best_87 : decode cX10_best 87 = .ok (.ireturn, 1) := by decide +kernel
theorem dX10_best_88 : decode cX10_best 88 = .ok (.aload_n 0, 1) := by decide +kernel
theorem dX10_best_89 : decode cX10_best 89 = .ok (.getfield 12, 3) := by decide +kernel
theorem dX10_best_92 : decode cX10_best 92 = .ok (.getfield 225, 3) := by decide +kernel
theorem dX10_best_95 : decode cX10_best 95 = .ok (.ireturn, 1) := by decide +kernel
theorem dX10_choice_0 : decode cX10_choice 0 = .ok (.aload_n 0, 1) := by decide +kernel
theorem dX10_choice_1 : decode cX10_choice 1 = .ok (.getfield 29, 3) := by decide +kernel
theorem dX10_choice_4 : decode cX10_choice 4 = .ok (.getfield 98, 3) := by decide +kernel
theorem dX10_choice_7 : decode cX10_choice 7 = .ok (.iload_n 1, 1) := by decide +kernel
theorem dX10_choice_8 : decode cX10_choice 8 = .ok (.invokevirtual 107, 3) := by decide +kernel
theorem dX10_choice_11 : decode cX10_choice 11 = .ok (.ifCond .eq 11, 3) := by decide +kernel
theorem dX10_choice_14 : decode cX10_choice 14 = .ok (.iload_n 2, 1) := by decide +kernel
theorem dX10_choice_15 : decode cX10_choice 15 = .ok (.iconst 2, 1) := by decide +kernel
theorem dX10_choice_16 : decode cX10_choice 16 = .ok (.invokestatic 91, 3) := by decide +kernel
theorem dX10_choice_19 : decode cX10_choice 19 = .ok (.ifCond .ne 5, 3) := by decide +kernel
theorem dX10_choice_22 : decode cX10_choice 22 = .ok (.iconst (-1), 1) := by decide +kernel
theorem dX10_choice_23 : decode cX10_choice 23 = .ok (.ireturn, 1) := by decide +kernel
theorem dX10_choice_24 : decode cX10_choice 24 = .ok (.aload_n 0, 1) := by decide +kernel
theorem dX10_choice_25 : decode cX10_choice 25 = .ok (.getfield 29, 3) := by decide +kernel
theorem dX10_choice_28 : decode cX10_choice 28 = .ok (.getfield 110, 3) := by decide +kernel
theorem dX10_choice_31 : decode cX10_choice 31 = .ok (.invokevirtual 228, 3) := by decide +kernel
theorem dX10_choice_34 : decode cX10_choice 34 = .ok (.iload_n 1, 1) := by decide +kernel
theorem dX10_choice_35 : decode cX10_choice 35 = .ok (.invokestatic 126, 3) := by decide +kernel
theorem dX10_choice_38 : decode cX10_choice 38 = .ok (.ifCond .ne 6, 3) := by decide +kernel
theorem dX10_choice_41 : decode cX10_choice 41 = .ok (.bipush (-3), 2) := by decide +kernel
theorem dX10_choice_43 : decode cX10_choice 43 = .ok (.ireturn, 1) := by decide +kernel
theorem dX10_choice_44 : decode cX10_choice 44 = .ok (.aload_n 0, 1) := by decide +kernel
theorem dX10_choice_45 : decode cX10_choice 45 = .ok (.getfield 12, 3) := by decide +kernel
theorem dX10_choice_48 : decode cX10_choice 48 = .ok (.iload_n 1, 1) := by decide +kernel
theorem dX10_choice_49 : decode cX10_choice 49 = .ok (.invokevirtual 231, 3) := by decide +kernel
theorem dX10_choice_52 : decode cX10_choice 52 = .ok (.iload_n 2, 1) := by decide +kernel
theorem dX10_choice_53 : decode cX10_choice 53 = .ok (.ifCond .ne 13, 3) := by decide +kernel
theorem dX10_choice_56 : decode cX10_choice 56 = .ok (.aload_n 0, 1) := by decide +kernel
theorem dX10_choice_57 : decode cX10_choice 57 = .ok (.getfield 12, 3) := by decide +kernel
theorem dX10_choice_60 : decode cX10_choice 60 = .ok (.getfield 234, 3) := by decide +kernel
theorem dX10_choice_63 : decode cX10_choice 63 = .ok (.goto 10, 3) := by decide +kernel
theorem dX10_choice_66 : decode cX10_choice 66 = .ok (.aload_n 0, 1) := by decide +kernel
theorem dX10_choice_67 : decode cX10_choice 67 = .ok (.getfield 12, 3) := by decide +kernel
theorem dX10_choice_70 : decode cX10_choice 70 = .ok (.getfield 237, 3) := by decide +kernel
theorem dX10_choice_73 : decode cX10_choice 73 = .ok (.ireturn, 1) := by decide +kernel
theorem dX10_reach_0 : decode cX10_reach 0 = .ok (.aload_n 0, 1) := by decide +kernel
theorem dX10_reach_1 : decode cX10_reach 1 = .ok (.getfield 29, 3) := by decide +kernel
theorem dX10_reach_4 : decode cX10_reach 4 = .ok (.getfield 98, 3) := by decide +kernel
theorem dX10_reach_7 : decode cX10_reach 7 = .ok (.iload_n 1, 1) := by decide +kernel
theorem dX10_reach_8 : decode cX10_reach 8 = .ok (.invokevirtual 107, 3) := by decide +kernel
theorem dX10_reach_11 : decode cX10_reach 11 = .ok (.ifCond .eq 17, 3) := by decide +kernel
theorem dX10_reach_14 : decode cX10_reach 14 = .ok (.aload_n 0, 1) := by decide +kernel
theorem dX10_reach_15 : decode cX10_reach 15 = .ok (.getfield 29, 3) := by decide +kernel
theorem dX10_reach_18 : decode cX10_reach 18 = .ok (.getfield 98, 3) := by decide +kernel
theorem dX10_reach_21 : decode cX10_reach 21 = .ok (.iload_n 2, 1) := by decide +kernel
theorem dX10_reach_22 : decode cX10_reach 22 = .ok (.invokevirtual 107, 3) := by decide +kernel
theorem dX10_reach_25 : decode cX10_reach 25 = .ok (.ifCond .ne 5, 3) := by decide +kernel
theorem dX10_reach_28 : decode cX10_reach 28 = .ok (.iconst (-1), 1) := by decide +kernel
theorem dX10_reach_29 : decode cX10_reach 29 = .ok (.ireturn, 1) := by decide +kernel
theorem dX10_reach_30 : decode cX10_reach 30 = .ok (.aload_n 0, 1) := by decide +kernel
theorem dX10_reach_31 : decode cX10_reach 31 = .ok (.getfield 29, 3) := by decide +kernel
theorem dX10_reach_34 : decode cX10_reach 34 = .ok (.getfield 110, 3) := by decide +kernel
theorem dX10_reach_37 : decode cX10_reach 37 = .ok (.invokevirtual 228, 3) := by decide +kernel
theorem dX10_reach_40 : decode cX10_reach 40 = .ok (.iload_n 1, 1) := by decide +kernel
theorem dX10_reach_41 : decode cX10_reach 41 = .ok (.invokestatic 126, 3) := by decide +kernel
theorem dX10_reach_44 : decode cX10_reach 44 = .ok (.ifCond .ne 6, 3) := by decide +kernel
theorem dX10_reach_47 : decode cX10_reach 47 = .ok (.bipush (-3), 2) := by decide +kernel
theorem dX10_reach_49 : decode cX10_reach 49 = .ok (.ireturn, 1) := by decide +kernel
theorem dX10_reach_50 : decode cX10_reach 50 = .ok (.aload_n 0, 1) := by decide +kernel
theorem dX10_reach_51 : decode cX10_reach 51 = .ok (.getfield 12, 3) := by decide +kernel
theorem dX10_reach_54 : decode cX10_reach 54 = .ok (.iload_n 1, 1) := by decide +kernel
theorem dX10_reach_55 : decode cX10_reach 55 = .ok (.iload_n 2, 1) := by decide +kernel
theorem dX10_reach_56 : decode cX10_reach 56 = .ok (.invokevirtual 240, 3) := by decide +kernel
theorem dX10_reach_59 : decode cX10_reach 59 = .ok (.ireturn, 1) := by decide +kernel
theorem dX10_see_0 : decode cX10_see 0 = .ok (.iload_n 1, 1) := by decide +kernel
theorem dX10_see_1 : decode cX10_see 1 = .ok (.iconst (-1), 1) := by decide +kernel
theorem dX10_see_2 : decode cX10_see 2 = .ok (.if_icmp .ne 16, 3) := by decide +kernel
theorem dX10_see_5 : decode cX10_see 5 = .ok (.aload_n 0, 1) := by decide +kernel
theorem dX10_see_6 : decode cX10_see 6 = .ok (.getfield 29, 3) := by decide +kernel
theorem dX10_see_9 : decode cX10_see 9 = .ok (.getfield 244, 3) := by decide +kernel
theorem dX10_see_12 : decode cX10_see 12 = .ok (.iconst 0, 1) := by decide +kernel
theorem dX10_see_13 : decode cX10_see 13 = .ok (.putfield 248, 3) := by decide +kernel
theorem dX10_see_16 : decode cX10_see 16 = .ok (.iconst 0, 1) := by decide +kernel
theorem dX10_see_17 : decode cX10_see 17 = .ok (.ireturn, 1) := by decide +kernel
theorem dX10_see_18 : decode cX10_see 18 = .ok (.iload_n 1, 1) := by decide +kernel
theorem dX10_see_19 : decode cX10_see 19 = .ok (.ifCond .lt 26, 3) := by decide +kernel
theorem dX10_see_22 : decode cX10_see 22 = .ok (.iload_n 1, 1) := by decide +kernel
theorem dX10_see_23 : decode cX10_see 23 = .ok (.aload_n 0, 1) := by decide +kernel
theorem dX10_see_24 : decode cX10_see 24 = .ok (.getfield 29, 3) := by decide +kernel
theorem dX10_see_27 : decode cX10_see 27 = .ok (.getfield 98, 3) := by decide +kernel
theorem dX10_see_30 : decode cX10_see 30 = .ok (.invokevirtual 211, 3) := by decide +kernel
theorem dX10_see_33 : decode cX10_see 33 = .ok (.if_icmp .gt 12, 3) := by decide +kernel
theorem dX10_see_36 : decode cX10_see 36 = .ok (.iload_n 2, 1) := by decide +kernel
theorem dX10_see_37 : decode cX10_see 37 = .ok (.bipush 7, 2) := by decide +kernel
theorem dX10_see_39 : decode cX10_see 39 = .ok (.invokestatic 91, 3) := by decide +kernel
theorem dX10_see_42 : decode cX10_see 42 = .ok (.ifCond .ne 6, 3) := by decide +kernel
theorem dX10_see_45 : decode cX10_see 45 = .ok (.bipush (-2), 2) := by decide +kernel
theorem dX10_see_47 : decode cX10_see 47 = .ok (.ireturn, 1) := by decide +kernel
theorem dX10_see_48 : decode cX10_see 48 = .ok (.aload_n 0, 1) := by decide +kernel
theorem dX10_see_49 : decode cX10_see 49 = .ok (.getfield 29, 3) := by decide +kernel
theorem dX10_see_52 : decode cX10_see 52 = .ok (.getfield 244, 3) := by decide +kernel
theorem dX10_see_55 : decode cX10_see 55 = .ok (.iload_n 1, 1) := by decide +kernel
theorem dX10_see_56 : decode cX10_see 56 = .ok (.iload_n 2, 1) := by decide +kernel
theorem dX10_see_57 : decode cX10_see 57 = .ok (.invokevirtual 251, 3) := by decide +kernel
theorem dX10_see_60 : decode cX10_see 60 = .ok (.ifCond .eq 16, 3) := by decide +kernel
theorem dX10_see_63 : decode cX10_see 63 = .ok (.aload_n 0, 1) := by decide +kernel
theorem dX10_see_64 : decode cX10_see 64 = .ok (.getfield 29, 3) := by decide +kernel
theorem dX10_see_67 : decode cX10_see 67 = .ok (.getfield 244, 3) := by decide +kernel
theorem dX10_see_70 : decode cX10_see 70 = .ok (.getfield 248, 3) := by decide +kernel
theorem dX10_see_73 : decode cX10_see 73 = .ok (.goto 5, 3) := by decide +kernel
theorem dX10_see_76 : decode cX10_see 76 = .ok (.bipush (-4), 2) := by decide +kernel
theorem dX10_see_78 : decode cX10_see 78 = .ok (.ireturn, 1) := by decide +kernel
theorem dX10_began_0 : decode cX10_began 0 = .ok (.iload_n 1, 1) := by decide +kernel
theorem dX10_began_1 : decode cX10_began 1 = .ok (.iconst 2, 1) := by decide +kernel
theorem dX10_began_2 : decode cX10_began 2 = .ok (.invokestatic 91, 3) := by decide +kernel
theorem dX10_began_5 : decode cX10_began 5 = .ok (.ifCond .ne 5, 3) := by decide +kernel
theorem dX10_began_8 : decode cX10_began 8 = .ok (.iconst (-1), 1) := by decide +kernel
theorem dX10_began_9 : decode cX10_began 9 = .ok (.ireturn, 1) := by decide +kernel
theorem dX10_began_10 : decode cX10_began 10 = .ok (.aload_n 0, 1) := by decide +kernel
theorem dX10_began_11 : decode cX10_began 11 = .ok (.getfield 12, 3) := by decide +kernel
theorem dX10_began_14 : decode cX10_began 14 = .ok (.invokevirtual 252, 3) := by decide +kernel
theorem dX10_began_17 : decode cX10_began 17 = .ok (.iload_n 1, 1) := by decide +kernel
theorem dX10_began_18 : decode cX10_began 18 = .ok (.ifCond .ne 13, 3) := by decide +kernel
theorem dX10_began_21 : decode cX10_began 21 = .ok (.aload_n 0, 1) := by decide +kernel
theorem dX10_began_22 : decode cX10_began 22 = .ok (.getfield 12, 3) := by decide +kernel
theorem dX10_began_25 : decode cX10_began 25 = .ok (.getfield 255, 3) := by decide +kernel
theorem dX10_began_28 : decode cX10_began 28 = .ok (.goto 10, 3) := by decide +kernel
theorem dX10_began_31 : decode cX10_began 31 = .ok (.aload_n 0, 1) := by decide +kernel
theorem dX10_began_32 : decode cX10_began 32 = .ok (.getfield 12, 3) := by decide +kernel
theorem dX10_began_35 : decode cX10_began 35 = .ok (.getfield 258, 3) := by decide +kernel
theorem dX10_began_38 : decode cX10_began 38 = .ok (.ireturn, 1) := by decide +kernel
theorem dX10_stops_0 : decode cX10_stops 0 = .ok (.aload_n 0, 1) := by decide +kernel
theorem dX10_stops_1 : decode cX10_stops 1 = .ok (.getfield 29, 3) := by decide +kernel
theorem dX10_stops_4 : decode cX10_stops 4 = .ok (.getfield 98, 3) := by decide +kernel
theorem dX10_stops_7 : decode cX10_stops 7 = .ok (.iload_n 1, 1) := by decide +kernel
theorem dX10_stops_8 : decode cX10_stops 8 = .ok (.invokevirtual 107, 3) := by decide +kernel
theorem dX10_stops_11 : decode cX10_stops 11 = .ok (.ifCond .ne 7, 3) := by decide +kernel
theorem dX10_stops_14 : decode cX10_stops 14 = .ok (.sipush (-1001), 3) := by decide +kernel
theorem dX10_stops_17 : decode cX10_stops 17 = .ok (.ireturn, 1) := by decide +kernel
theorem dX10_stops_18 : decode cX10_stops 18 = .ok (.aload_n 0, 1) := by decide +kernel
theorem dX10_stops_19 : decode cX10_stops 19 = .ok (.getfield 29, 3) := by decide +kernel
theorem dX10_stops_22 : decode cX10_stops 22 = .ok (.getfield 110, 3) := by decide +kernel
theorem dX10_stops_25 : decode cX10_stops 25 = .ok (.getfield 121, 3) := by decide +kernel
theorem dX10_stops_28 : decode cX10_stops 28 = .ok (.iload_n 1, 1) := by decide +kernel
theorem dX10_stops_29 : decode cX10_stops 29 = .ok (.invokestatic 126, 3) := by decide +kernel
theorem dX10_stops_32 : decode cX10_stops 32 = .ok (.ifCond .eq 7, 3) := by decide +kernel
theorem dX10_stops_35 : decode cX10_stops 35 = .ok (.sipush (-1002), 3) := by decide +kernel
theorem dX10_stops_38 : decode cX10_stops 38 = .ok (.ireturn, 1) := by decide +kernel
theorem dX10_stops_39 : decode cX10_stops 39 = .ok (.aload_n 0, 1) := by decide +kernel
theorem dX10_stops_40 : decode cX10_stops 40 = .ok (.getfield 12, 3) := by decide +kernel
theorem dX10_stops_43 : decode cX10_stops 43 = .ok (.getfield 196, 3) := by decide +kernel
theorem dX10_stops_46 : decode cX10_stops 46 = .ok (.astore_n 2, 1) := by decide +kernel
theorem dX10_stops_47 : decode cX10_stops 47 = .ok (.aload_n 2, 1) := by decide +kernel
theorem dX10_stops_48 : decode cX10_stops 48 = .ok (.aload_n 0, 1) := by decide +kernel
theorem dX10_stops_49 : decode cX10_stops 49 = .ok (.getfield 29, 3) := by decide +kernel
theorem dX10_stops_52 : decode cX10_stops 52 = .ok (.getfield 110, 3) := by decide +kernel
theorem dX10_stops_55 : decode cX10_stops 55 = .ok (.invokevirtual 199, 3) := by decide +kernel
theorem dX10_stops_58 : decode cX10_stops 58 = .ok (.aload_n 0, 1) := by decide +kernel
theorem dX10_stops_59 : decode cX10_stops 59 = .ok (.getfield 22, 3) := by decide +kernel
theorem dX10_stops_62 : decode cX10_stops 62 = .ok (.aload_n 2, 1) := by decide +kernel
theorem dX10_stops_63 : decode cX10_stops 63 = .ok (.iconst (-1), 1) := by decide +kernel
theorem dX10_stops_64 : decode cX10_stops 64 = .ok (.iconst 0, 1) := by decide +kernel
theorem dX10_stops_65 : decode cX10_stops 65 = .ok (.iconst (-1), 1) := by decide +kernel
theorem dX10_stops_66 : decode cX10_stops 66 = .ok (.invokevirtual 202, 3) := by decide +kernel
theorem dX10_stops_69 : decode cX10_stops 69 = .ok (.pop, 1) := by decide +kernel
theorem dX10_stops_70 : decode cX10_stops 70 = .ok (.aload_n 2, 1) := by decide +kernel
theorem dX10_stops_71 : decode cX10_stops 71 = .ok (.getfield 121, 3) := by decide +kernel
theorem dX10_stops_74 : decode cX10_stops 74 = .ok (.iconst 1, 1) := by decide +kernel
theorem dX10_stops_75 : decode cX10_stops 75 = .ok (.iload_n 1, 1) := by decide +kernel
theorem dX10_stops_76 : decode cX10_stops 76 = .ok (.ishl, 1) := by decide +kernel
theorem dX10_stops_77 : decode cX10_stops 77 = .ok (.iconst (-1), 1) := by decide +kernel
theorem dX10_stops_78 : decode cX10_stops 78 = .ok (.ixor, 1) := by decide +kernel
theorem dX10_stops_79 : decode cX10_stops 79 = .ok (.iand, 1) := by decide +kernel
theorem dX10_stops_80 : decode cX10_stops 80 = .ok (.invokestatic 205, 3) := by decide +kernel
theorem dX10_stops_83 : decode cX10_stops 83 = .ok (.istore_n 3, 1) := by decide +kernel
theorem dX10_stops_84 : decode cX10_stops 84 = .ok (.aload_n 2, 1) := by decide +kernel
theorem dX10_stops_85 : decode cX10_stops 85 = .ok (.aload_n 0, 1) := by decide +kernel
theorem dX10_stops_86 : decode cX10_stops 86 = .ok (.getfield 29, 3) := by decide +kernel
theorem dX10_stops_89 : decode cX10_stops 89 = .ok (.getfield 110, 3) := by decide +kernel
theorem dX10_stops_92 : decode cX10_stops 92 = .ok (.invokevirtual 199, 3) := by decide +kernel
theorem dX10_stops_95 : decode cX10_stops 95 = .ok (.aload_n 0, 1) := by decide +kernel
theorem dX10_stops_96 : decode cX10_stops 96 = .ok (.getfield 22, 3) := by decide +kernel
theorem dX10_stops_99 : decode cX10_stops 99 = .ok (.aload_n 2, 1) := by decide +kernel
theorem dX10_stops_100 : decode cX10_stops 100 = .ok (.iconst (-1), 1) := by decide +kernel
theorem dX10_stops_101 : decode cX10_stops 101 = .ok (.iconst 0, 1) := by decide +kernel
theorem dX10_stops_102 : decode cX10_stops 102 = .ok (.iload_n 1, 1) := by decide +kernel
theorem dX10_stops_103 : decode cX10_stops 103 = .ok (.invokevirtual 202, 3) := by decide +kernel
theorem dX10_stops_106 : decode cX10_stops 106 = .ok (.pop, 1) := by decide +kernel
theorem dX10_stops_107 : decode cX10_stops 107 = .ok (.iload_n 3, 1) := by decide +kernel
theorem dX10_stops_108 : decode cX10_stops 108 = .ok (.aload_n 2, 1) := by decide +kernel
theorem dX10_stops_109 : decode cX10_stops 109 = .ok (.getfield 121, 3) := by decide +kernel
theorem dX10_stops_112 : decode cX10_stops 112 = .ok (.invokestatic 205, 3) := by decide +kernel
theorem dX10_stops_115 : decode cX10_stops 115 = .ok (.isub, 1) := by decide +kernel
theorem dX10_stops_116 : decode cX10_stops 116 = .ok (.ireturn, 1) := by decide +kernel
theorem dX10_odds_0 : decode cX10_odds 0 = .ok (.aload_n 0, 1) := by decide +kernel
theorem dX10_odds_1 : decode cX10_odds 1 = .ok (.getfield 29, 3) := by decide +kernel
theorem dX10_odds_4 : decode cX10_odds 4 = .ok (.getfield 98, 3) := by decide +kernel
theorem dX10_odds_7 : decode cX10_odds 7 = .ok (.iload_n 1, 1) := by decide +kernel
theorem dX10_odds_8 : decode cX10_odds 8 = .ok (.invokevirtual 107, 3) := by decide +kernel
theorem dX10_odds_11 : decode cX10_odds 11 = .ok (.ifCond .eq 32, 3) := by decide +kernel
theorem dX10_odds_14 : decode cX10_odds 14 = .ok (.iload_n 2, 1) := by decide +kernel
theorem dX10_odds_15 : decode cX10_odds 15 = .ok (.invokestatic 95, 3) := by decide +kernel
theorem dX10_odds_18 : decode cX10_odds 18 = .ok (.ifCond .eq 25, 3) := by decide +kernel
theorem dX10_odds_21 : decode cX10_odds 21 = .ok (.iload_n 3, 1) := by decide +kernel
theorem dX10_odds_22 : decode cX10_odds 22 = .ok (.iconst 2, 1) := by decide +kernel
theorem dX10_odds_23 : decode cX10_odds 23 = .ok (.invokestatic 91, 3) := by decide +kernel
theorem dX10_odds_26 : decode cX10_odds 26 = .ok (.ifCond .eq 17, 3) := by decide +kernel
theorem dX10_odds_29 : decode cX10_odds 29 = .ok (.aload_n 0, 1) := by decide +kernel
theorem dX10_odds_30 : decode cX10_odds 30 = .ok (.getfield 29, 3) := by decide +kernel
theorem dX10_odds_33 : decode cX10_odds 33 = .ok (.getfield 98, 3) := by decide +kernel
theorem dX10_odds_36 : decode cX10_odds 36 = .ok (.getfield 106, 3) := by decide +kernel
theorem dX10_odds_39 : decode cX10_odds 39 = .ok (.iconst 2, 1) := by decide +kernel
theorem dX10_odds_40 : decode cX10_odds 40 = .ok (.if_icmp .ge 7, 3) := by decide +kernel
theorem dX10_odds_43 : decode cX10_odds 43 = .ok (.ldc2_w 189, 3) := by decide +kernel
theorem dX10_odds_46 : decode cX10_odds 46 = .ok (.lreturn, 1) := by decide +kernel
theorem dX10_odds_47 : decode cX10_odds 47 = .ok (.aload_n 0, 1) := by decide +kernel
theorem dX10_odds_48 : decode cX10_odds 48 = .ok (.getfield 12, 3) := by decide +kernel
theorem dX10_odds_51 : decode cX10_odds 51 = .ok (.iload_n 1, 1) := by decide +kernel
theorem dX10_odds_52 : decode cX10_odds 52 = .ok (.iload_n 2, 1) := by decide +kernel
theorem dX10_odds_53 : decode cX10_odds 53 = .ok (.invokevirtual 261, 3) := by decide +kernel
theorem dX10_odds_56 : decode cX10_odds 56 = .ok (.i2l, 1) := by decide +kernel
theorem dX10_odds_57 : decode cX10_odds 57 = .ok (.aload_n 0, 1) := by decide +kernel
theorem dX10_odds_58 : decode cX10_odds 58 = .ok (.getfield 29, 3) := by decide +kernel
theorem dX10_odds_61 : decode cX10_odds 61 = .ok (.getfield 98, 3) := by decide +kernel
theorem dX10_odds_64 : decode cX10_odds 64 = .ok (.getfield 106, 3) := by decide +kernel
theorem dX10_odds_67 : decode cX10_odds 67 = .ok (.iconst 1, 1) := by decide +kernel
theorem dX10_odds_68 : decode cX10_odds 68 = .ok (.isub, 1) := by decide +kernel
theorem dX10_odds_69 : decode cX10_odds 69 = .ok (.i2l, 1) := by decide +kernel
theorem dX10_odds_70 : decode cX10_odds 70 = .ok (.iload_n 3, 1) := by decide +kernel
theorem dX10_odds_71 : decode cX10_odds 71 = .ok (.invokestatic 264, 3) := by decide +kernel
theorem dX10_odds_74 : decode cX10_odds 74 = .ok (.lreturn, 1) := by decide +kernel
theorem dX10_mean_0 : decode cX10_mean 0 = .ok (.iload_n 1, 1) := by decide +kernel
theorem dX10_mean_1 : decode cX10_mean 1 = .ok (.invokestatic 95, 3) := by decide +kernel
theorem dX10_mean_4 : decode cX10_mean 4 = .ok (.ifCond .eq 25, 3) := by decide +kernel
theorem dX10_mean_7 : decode cX10_mean 7 = .ok (.iload_n 2, 1) := by decide +kernel
theorem dX10_mean_8 : decode cX10_mean 8 = .ok (.iconst 2, 1) := by decide +kernel
theorem dX10_mean_9 : decode cX10_mean 9 = .ok (.invokestatic 91, 3) := by decide +kernel
theorem dX10_mean_12 : decode cX10_mean 12 = .ok (.ifCond .eq 17, 3) := by decide +kernel
theorem dX10_mean_15 : decode cX10_mean 15 = .ok (.aload_n 0, 1) := by decide +kernel
theorem dX10_mean_16 : decode cX10_mean 16 = .ok (.getfield 29, 3) := by decide +kernel
theorem dX10_mean_19 : decode cX10_mean 19 = .ok (.getfield 98, 3) := by decide +kernel
theorem dX10_mean_22 : decode cX10_mean 22 = .ok (.getfield 106, 3) := by decide +kernel
theorem dX10_mean_25 : decode cX10_mean 25 = .ok (.iconst 1, 1) := by decide +kernel
theorem dX10_mean_26 : decode cX10_mean 26 = .ok (.if_icmp .ge 7, 3) := by decide +kernel
theorem dX10_mean_29 : decode cX10_mean 29 = .ok (.ldc2_w 189, 3) := by decide +kernel
theorem dX10_mean_32 : decode cX10_mean 32 = .ok (.lreturn, 1) := by decide +kernel
theorem dX10_mean_33 : decode cX10_mean 33 = .ok (.aload_n 0, 1) := by decide +kernel
theorem dX10_mean_34 : decode cX10_mean 34 = .ok (.getfield 12, 3) := by decide +kernel
theorem dX10_mean_37 : decode cX10_mean 37 = .ok (.iload_n 1, 1) := by decide +kernel
theorem dX10_mean_38 : decode cX10_mean 38 = .ok (.invokevirtual 268, 3) := by decide +kernel
theorem dX10_mean_41 : decode cX10_mean 41 = .ok (.aload_n 0, 1) := by decide +kernel
theorem dX10_mean_42 : decode cX10_mean 42 = .ok (.getfield 29, 3) := by decide +kernel
theorem dX10_mean_45 : decode cX10_mean 45 = .ok (.getfield 98, 3) := by decide +kernel
theorem dX10_mean_48 : decode cX10_mean 48 = .ok (.getfield 106, 3) := by decide +kernel
theorem dX10_mean_51 : decode cX10_mean 51 = .ok (.i2l, 1) := by decide +kernel
theorem dX10_mean_52 : decode cX10_mean 52 = .ok (.iload_n 2, 1) := by decide +kernel
theorem dX10_mean_53 : decode cX10_mean 53 = .ok (.invokestatic 264, 3) := by decide +kernel
theorem dX10_mean_56 : decode cX10_mean 56 = .ok (.lreturn, 1) := by decide +kernel
theorem dX10_book_0 : decode cX10_book 0 = .ok (.iload_n 1, 1) := by decide +kernel
theorem dX10_book_1 : decode cX10_book 1 = .ok (.iconst (-1), 1) := by decide +kernel
theorem dX10_book_2 : decode cX10_book 2 = .ok (.if_icmp .ne 16, 3) := by decide +kernel
theorem dX10_book_5 : decode cX10_book 5 = .ok (.aload_n 0, 1) := by decide +kernel
theorem dX10_book_6 : decode cX10_book 6 = .ok (.getfield 29, 3) := by decide +kernel
theorem dX10_book_9 : decode cX10_book 9 = .ok (.getfield 271, 3) := by decide +kernel
theorem dX10_book_12 : decode cX10_book 12 = .ok (.iconst 0, 1) := by decide +kernel
theorem dX10_book_13 : decode cX10_book 13 = .ok (.putfield 248, 3) := by decide +kernel
theorem dX10_book_16 : decode cX10_book 16 = .ok (.iconst 0, 1) := by decide +kernel
theorem dX10_book_17 : decode cX10_book 17 = .ok (.ireturn, 1) := by decide +kernel
theorem dX10_book_18 : decode cX10_book 18 = .ok (.aload_n 0, 1) := by decide +kernel
theorem dX10_book_19 : decode cX10_book 19 = .ok (.getfield 29, 3) := by decide +kernel
theorem dX10_book_22 : decode cX10_book 22 = .ok (.getfield 98, 3) := by decide +kernel
theorem dX10_book_25 : decode cX10_book 25 = .ok (.iload_n 1, 1) := by decide +kernel
theorem dX10_book_26 : decode cX10_book 26 = .ok (.invokevirtual 107, 3) := by decide +kernel
theorem dX10_book_29 : decode cX10_book 29 = .ok (.ifCond .ne 5, 3) := by decide +kernel
theorem dX10_book_32 : decode cX10_book 32 = .ok (.iconst (-1), 1) := by decide +kernel
theorem dX10_book_33 : decode cX10_book 33 = .ok (.ireturn, 1) := by decide +kernel
theorem dX10_book_34 : decode cX10_book 34 = .ok (.iload_n 2, 1) := by decide +kernel
theorem dX10_book_35 : decode cX10_book 35 = .ok (.sipush 1000, 3) := by decide +kernel
theorem dX10_book_38 : decode cX10_book 38 = .ok (.invokestatic 91, 3) := by decide +kernel
theorem dX10_book_41 : decode cX10_book 41 = .ok (.ifCond .ne 6, 3) := by decide +kernel
theorem dX10_book_44 : decode cX10_book 44 = .ok (.bipush (-2), 2) := by decide +kernel
theorem dX10_book_46 : decode cX10_book 46 = .ok (.ireturn, 1) := by decide +kernel
theorem dX10_book_47 : decode cX10_book 47 = .ok (.aload_n 0, 1) := by decide +kernel
theorem dX10_book_48 : decode cX10_book 48 = .ok (.getfield 29, 3) := by decide +kernel
theorem dX10_book_51 : decode cX10_book 51 = .ok (.getfield 271, 3) := by decide +kernel
theorem dX10_book_54 : decode cX10_book 54 = .ok (.iload_n 1, 1) := by decide +kernel
theorem dX10_book_55 : decode cX10_book 55 = .ok (.iload_n 2, 1) := by decide +kernel
theorem dX10_book_56 : decode cX10_book 56 = .ok (.invokevirtual 251, 3) := by decide +kernel
theorem dX10_book_59 : decode cX10_book 59 = .ok (.ifCond .eq 16, 3) := by decide +kernel
theorem dX10_book_62 : decode cX10_book 62 = .ok (.aload_n 0, 1) := by decide +kernel
theorem dX10_book_63 : decode cX10_book 63 = .ok (.getfield 29, 3) := by decide +kernel
theorem dX10_book_66 : decode cX10_book 66 = .ok (.getfield 271, 3) := by decide +kernel
theorem dX10_book_69 : decode cX10_book 69 = .ok (.getfield 248, 3) := by decide +kernel
theorem dX10_book_72 : decode cX10_book 72 = .ok (.goto 5, 3) := by decide +kernel
theorem dX10_book_75 : decode cX10_book 75 = .ok (.bipush (-4), 2) := by decide +kernel
theorem dX10_book_77 : decode cX10_book 77 = .ok (.ireturn, 1) := by decide +kernel
theorem dX10_looked_0 : decode cX10_looked 0 = .ok (.aload_n 0, 1) := by decide +kernel
theorem dX10_looked_1 : decode cX10_looked 1 = .ok (.getfield 29, 3) := by decide +kernel
theorem dX10_looked_4 : decode cX10_looked 4 = .ok (.getfield 110, 3) := by decide +kernel
theorem dX10_looked_7 : decode cX10_looked 7 = .ok (.astore_n 1, 1) := by decide +kernel
theorem dX10_looked_8 : decode cX10_looked 8 = .ok (.iconst 0, 1) := by decide +kernel
theorem dX10_looked_9 : decode cX10_looked 9 = .ok (.istore_n 2, 1) := by decide +kernel
theorem dX10_looked_10 : decode cX10_looked 10 = .ok (.iload_n 2, 1) := by decide +kernel
theorem dX10_looked_11 : decode cX10_looked 11 = .ok (.aload_n 0, 1) := by decide +kernel
theorem dX10_looked_12 : decode cX10_looked 12 = .ok (.getfield 29, 3) := by decide +kernel
theorem dX10_looked_15 : decode cX10_looked 15 = .ok (.getfield 271, 3) := by decide +kernel
theorem dX10_looked_18 : decode cX10_looked 18 = .ok (.getfield 248, 3) := by decide +kernel
theorem dX10_looked_21 : decode cX10_looked 21 = .ok (.if_icmp .ge 56, 3) := by decide +kernel
theorem dX10_looked_24 : decode cX10_looked 24 = .ok (.aload_n 0, 1) := by decide +kernel
theorem dX10_looked_25 : decode cX10_looked 25 = .ok (.getfield 29, 3) := by decide +kernel
theorem dX10_looked_28 : decode cX10_looked 28 = .ok (.getfield 271, 3) := by decide +kernel
theorem dX10_looked_31 : decode cX10_looked 31 = .ok (.getfield 274, 3) := by decide +kernel
theorem dX10_looked_34 : decode cX10_looked 34 = .ok (.iload_n 2, 1) := by decide +kernel
theorem dX10_looked_35 : decode cX10_looked 35 = .ok (.iaload, 1) := by decide +kernel
theorem dX10_looked_36 : decode cX10_looked 36 = .ok (.istore_n 3, 1) := by decide +kernel
theorem dX10_looked_37 : decode cX10_looked 37 = .ok (.aload_n 1, 1) := by decide +kernel
theorem dX10_looked_38 : decode cX10_looked 38 = .ok (.getfield 121, 3) := by decide +kernel
theorem dX10_looked_41 : decode cX10_looked 41 = .ok (.iload_n 3, 1) := by decide +kernel
theorem dX10_looked_42 : decode cX10_looked 42 = .ok (.invokestatic 126, 3) := by decide +kernel
theorem dX10_looked_45 : decode cX10_looked 45 = .ok (.ifCond .eq 24, 3) := by decide +kernel
theorem dX10_looked_48 : decode cX10_looked 48 = .ok (.aload_n 1, 1) := by decide +kernel
theorem dX10_looked_49 : decode cX10_looked 49 = .ok (.getfield 149, 3) := by decide +kernel
theorem dX10_looked_52 : decode cX10_looked 52 = .ok (.iload_n 3, 1) := by decide +kernel
theorem dX10_looked_53 : decode cX10_looked 53 = .ok (.iaload, 1) := by decide +kernel
theorem dX10_looked_54 : decode cX10_looked 54 = .ok (.aload_n 0, 1) := by decide +kernel
theorem dX10_looked_55 : decode cX10_looked 55 = .ok (.getfield 29, 3) := by decide +kernel
theorem dX10_looked_58 : decode cX10_looked 58 = .ok (.getfield 271, 3) := by decide +kernel
theorem dX10_looked_61 : decode cX10_looked 61 = .ok (.getfield 277, 3) := by decide +kernel
theorem dX10_looked_64 : decode cX10_looked 64 = .ok (.iload_n 2, 1) := by decide +kernel
theorem dX10_looked_65 : decode cX10_looked 65 = .ok (.iaload, 1) := by decide +kernel
theorem dX10_looked_66 : decode cX10_looked 66 = .ok (.if_icmp .eq 5, 3) := by decide +kernel
theorem dX10_looked_69 : decode cX10_looked 69 = .ok (.iload_n 2, 1) := by decide +kernel
theorem dX10_looked_70 : decode cX10_looked 70 = .ok (.ireturn, 1) := by decide +kernel
theorem dX10_looked_71 : decode cX10_looked 71 = .ok (.iinc 2 1, 3) := by decide +kernel
theorem dX10_looked_74 : decode cX10_looked 74 = .ok (.goto (-64), 3) := by decide +kernel
theorem dX10_looked_77 : decode cX10_looked 77 = .ok (.bipush (-5), 2) := by decide +kernel
theorem dX10_looked_79 : decode cX10_looked 79 = .ok (.ireturn, 1) := by decide +kernel
theorem dX10_act_0 : decode cX10_act 0 = .ok (.aload_n 0, 1) := by decide +kernel
theorem dX10_act_1 : decode cX10_act 1 = .ok (.getfield 48, 3) := by decide +kernel
theorem dX10_act_4 : decode cX10_act 4 = .ok (.iconst 0, 1) := by decide +kernel
theorem dX10_act_5 : decode cX10_act 5 = .ok (.putfield 280, 3) := by decide +kernel
theorem dX10_act_8 : decode cX10_act 8 = .ok (.aload_n 0, 1) := by decide +kernel
theorem dX10_act_9 : decode cX10_act 9 = .ok (.getfield 29, 3) := by decide +kernel
theorem dX10_act_12 : decode cX10_act 12 = .ok (.getfield 98, 3) := by decide +kernel
theorem dX10_act_15 : decode cX10_act 15 = .ok (.iload_n 1, 1) := by decide +kernel
theorem dX10_act_16 : decode cX10_act 16 = .ok (.invokevirtual 107, 3) := by decide +kernel
theorem dX10_act_19 : decode cX10_act 19 = .ok (.ifCond .ne 5, 3) := by decide +kernel
theorem dX10_act_22 : decode cX10_act 22 = .ok (.iconst 0, 1) := by decide +kernel
theorem dX10_act_23 : decode cX10_act 23 = .ok (.ireturn, 1) := by decide +kernel
theorem dX10_act_24 : decode cX10_act 24 = .ok (.aload_n 0, 1) := by decide +kernel
theorem dX10_act_25 : decode cX10_act 25 = .ok (.getfield 48, 3) := by decide +kernel
theorem dX10_act_28 : decode cX10_act 28 = .ok (.aload_n 0, 1) := by decide +kernel
theorem dX10_act_29 : decode cX10_act 29 = .ok (.getfield 29, 3) := by decide +kernel
theorem dX10_act_32 : decode cX10_act 32 = .ok (.getfield 98, 3) := by decide +kernel
theorem dX10_act_35 : decode cX10_act 35 = .ok (.getfield 114, 3) := by decide +kernel
theorem dX10_act_38 : decode cX10_act 38 = .ok (.iload_n 1, 1) := by decide +kernel
theorem dX10_act_39 : decode cX10_act 39 = .ok (.iaload, 1) := by decide +kernel
theorem dX10_act_40 : decode cX10_act 40 = .ok (.iload_n 1, 1) := by decide +kernel
theorem dX10_act_41 : decode cX10_act 41 = .ok (.aload_n 0, 1) := by decide +kernel
theorem dX10_act_42 : decode cX10_act 42 = .ok (.getfield 29, 3) := by decide +kernel
theorem dX10_act_45 : decode cX10_act 45 = .ok (.getfield 98, 3) := by decide +kernel
theorem dX10_act_48 : decode cX10_act 48 = .ok (.getfield 118, 3) := by decide +kernel
theorem dX10_act_51 : decode cX10_act 51 = .ok (.iload_n 1, 1) := by decide +kernel
theorem dX10_act_52 : decode cX10_act 52 = .ok (.iaload, 1) := by decide +kernel
theorem dX10_act_53 : decode cX10_act 53 = .ok (.invokevirtual 283, 3) := by decide +kernel
theorem dX10_act_56 : decode cX10_act 56 = .ok (.iload_n 2, 1) := by decide +kernel
theorem dX10_act_57 : decode cX10_act 57 = .ok (.tableswitch 54 0 2 #[27, 36, 45], 27) := by decide +kernel
theorem dX10_act_84 : decode cX10_act 84 = .ok (.aload_n 0, 1) := by decide +kernel
theorem dX10_act_85 : decode cX10_act 85 = .ok (.getfield 48, 3) := by decide +kernel
theorem dX10_act_88 : decode cX10_act 88 = .ok (.iload_n 3, 1) := by decide +kernel
theorem dX10_act_89 : decode cX10_act 89 = .ok (.invokevirtual 286, 3) := by decide +kernel
theorem dX10_act_92 : decode cX10_act 92 = .ok (.ireturn, 1) := by decide +kernel
theorem dX10_act_93 : decode cX10_act 93 = .ok (.aload_n 0, 1) := by decide +kernel
theorem dX10_act_94 : decode cX10_act 94 = .ok (.getfield 48, 3) := by decide +kernel
theorem dX10_act_97 : decode cX10_act 97 = .ok (.iload_n 3, 1) := by decide +kernel
theorem dX10_act_98 : decode cX10_act 98 = .ok (.invokevirtual 289, 3) := by decide +kernel
theorem dX10_act_101 : decode cX10_act 101 = .ok (.ireturn, 1) := by decide +kernel
theorem dX10_act_102 : decode cX10_act 102 = .ok (.aload_n 0, 1) := by decide +kernel
theorem dX10_act_103 : decode cX10_act 103 = .ok (.getfield 48, 3) := by decide +kernel
theorem dX10_act_106 : decode cX10_act 106 = .ok (.iload_n 3, 1) := by decide +kernel
theorem dX10_act_107 : decode cX10_act 107 = .ok (.invokevirtual 292, 3) := by decide +kernel
theorem dX10_act_110 : decode cX10_act 110 = .ok (.ireturn, 1) := by decide +kernel
theorem dX10_act_111 : decode cX10_act 111 = .ok (.iconst 0, 1) := by decide +kernel
theorem dX10_act_112 : decode cX10_act 112 = .ok (.ireturn, 1) := by decide +kernel
theorem dX10_trace_0 : decode cX10_trace 0 = .ok (.iload_n 1, 1) := by decide +kernel
theorem dX10_trace_1 : decode cX10_trace 1 = .ok (.aload_n 0, 1) := by decide +kernel
theorem dX10_trace_2 : decode cX10_trace 2 = .ok (.getfield 48, 3) := by decide +kernel
theorem dX10_trace_5 : decode cX10_trace 5 = .ok (.getfield 280, 3) := by decide +kernel
theorem dX10_trace_8 : decode cX10_trace 8 = .ok (.bipush 20, 2) := by decide +kernel
theorem dX10_trace_10 : decode cX10_trace 10 = .ok (.invokestatic 295, 3) := by decide +kernel
theorem dX10_trace_13 : decode cX10_trace 13 = .ok (.invokestatic 91, 3) := by decide +kernel
theorem dX10_trace_16 : decode cX10_trace 16 = .ok (.ifCond .eq 15, 3) := by decide +kernel
theorem dX10_trace_19 : decode cX10_trace 19 = .ok (.aload_n 0, 1) := by decide +kernel
theorem dX10_trace_20 : decode cX10_trace 20 = .ok (.getfield 48, 3) := by decide +kernel
theorem dX10_trace_23 : decode cX10_trace 23 = .ok (.getfield 300, 3) := by decide +kernel
theorem dX10_trace_26 : decode cX10_trace 26 = .ok (.iload_n 1, 1) := by decide +kernel
theorem dX10_trace_27 : decode cX10_trace 27 = .ok (.iaload, 1) := by decide +kernel
theorem dX10_trace_28 : decode cX10_trace 28 = .ok (.goto 4, 3) := by decide +kernel
theorem dX10_trace_31 : decode cX10_trace 31 = .ok (.iconst (-1), 1) := by decide +kernel
theorem dX10_trace_32 : decode cX10_trace 32 = .ok (.ireturn, 1) := by decide +kernel
theorem dX10_as_0 : decode cX10_as 0 = .ok (.aload_n 0, 1) := by decide +kernel
theorem dX10_as_1 : decode cX10_as 1 = .ok (.getfield 29, 3) := by decide +kernel
theorem dX10_as_4 : decode cX10_as 4 = .ok (.getfield 98, 3) := by decide +kernel
theorem dX10_as_7 : decode cX10_as 7 = .ok (.iload_n 1, 1) := by decide +kernel
theorem dX10_as_8 : decode cX10_as 8 = .ok (.invokevirtual 107, 3) := by decide +kernel
theorem dX10_as_11 : decode cX10_as 11 = .ok (.ifCond .eq 12, 3) := by decide +kernel
theorem dX10_as_14 : decode cX10_as 14 = .ok (.iload_n 2, 1) := by decide +kernel
theorem dX10_as_15 : decode cX10_as 15 = .ok (.bipush 7, 2) := by decide +kernel
theorem dX10_as_17 : decode cX10_as 17 = .ok (.invokestatic 91, 3) := by decide +kernel
theorem dX10_as_20 : decode cX10_as 20 = .ok (.ifCond .ne 5, 3) := by decide +kernel
theorem dX10_as_23 : decode cX10_as 23 = .ok (.iconst (-1), 1) := by decide +kernel
theorem dX10_as_24 : decode cX10_as 24 = .ok (.ireturn, 1) := by decide +kernel
theorem dX10_as_25 : decode cX10_as 25 = .ok (.aload_n 0, 1) := by decide +kernel
theorem dX10_as_26 : decode cX10_as 26 = .ok (.getfield 29, 3) := by decide +kernel
theorem dX10_as_29 : decode cX10_as 29 = .ok (.getfield 98, 3) := by decide +kernel
theorem dX10_as_32 : decode cX10_as 32 = .ok (.getfield 114, 3) := by decide +kernel
theorem dX10_as_35 : decode cX10_as 35 = .ok (.iload_n 1, 1) := by decide +kernel
theorem dX10_as_36 : decode cX10_as 36 = .ok (.iaload, 1) := by decide +kernel
theorem dX10_as_37 : decode cX10_as 37 = .ok (.iload_n 2, 1) := by decide +kernel
theorem dX10_as_38 : decode cX10_as 38 = .ok (.invokestatic 303, 3) := by decide +kernel
theorem dX10_as_41 : decode cX10_as 41 = .ok (.ifCond .eq 18, 3) := by decide +kernel
theorem dX10_as_44 : decode cX10_as 44 = .ok (.aload_n 0, 1) := by decide +kernel
theorem dX10_as_45 : decode cX10_as 45 = .ok (.getfield 29, 3) := by decide +kernel
theorem dX10_as_48 : decode cX10_as 48 = .ok (.getfield 98, 3) := by decide +kernel
theorem dX10_as_51 : decode cX10_as 51 = .ok (.getfield 118, 3) := by decide +kernel
theorem dX10_as_54 : decode cX10_as 54 = .ok (.iload_n 1, 1) := by decide +kernel
theorem dX10_as_55 : decode cX10_as 55 = .ok (.iaload, 1) := by decide +kernel
theorem dX10_as_56 : decode cX10_as 56 = .ok (.goto 5, 3) := by decide +kernel
theorem dX10_as_59 : decode cX10_as 59 = .ok (.bipush (-6), 2) := by decide +kernel
theorem dX10_as_61 : decode cX10_as 61 = .ok (.ireturn, 1) := by decide +kernel
theorem dX10_image_0 : decode cX10_image 0 = .ok (.aload_n 0, 1) := by decide +kernel
theorem dX10_image_1 : decode cX10_image 1 = .ok (.getfield 35, 3) := by decide +kernel
theorem dX10_image_4 : decode cX10_image 4 = .ok (.aload_n 0, 1) := by decide +kernel
theorem dX10_image_5 : decode cX10_image 5 = .ok (.getfield 29, 3) := by decide +kernel
theorem dX10_image_8 : decode cX10_image 8 = .ok (.invokevirtual 306, 3) := by decide +kernel
theorem dX10_image_11 : decode cX10_image 11 = .ok (.aload_n 0, 1) := by decide +kernel
theorem dX10_image_12 : decode cX10_image 12 = .ok (.iconst 1, 1) := by decide +kernel
theorem dX10_image_13 : decode cX10_image 13 = .ok (.putfield 52, 3) := by decide +kernel
theorem dX10_image_16 : decode cX10_image 16 = .ok (.aload_n 0, 1) := by decide +kernel
theorem dX10_image_17 : decode cX10_image 17 = .ok (.getfield 29, 3) := by decide +kernel
theorem dX10_image_20 : decode cX10_image 20 = .ok (.getfield 98, 3) := by decide +kernel
theorem dX10_image_23 : decode cX10_image 23 = .ok (.getfield 106, 3) := by decide +kernel
theorem dX10_image_26 : decode cX10_image 26 = .ok (.ireturn, 1) := by decide +kernel
theorem dX10_undo_0 : decode cX10_undo 0 = .ok (.aload_n 0, 1) := by decide +kernel
theorem dX10_undo_1 : decode cX10_undo 1 = .ok (.getfield 52, 3) := by decide +kernel
theorem dX10_undo_4 : decode cX10_undo 4 = .ok (.ifCond .ne 6, 3) := by decide +kernel
theorem dX10_undo_7 : decode cX10_undo 7 = .ok (.bipush (-3), 2) := by decide +kernel
theorem dX10_undo_9 : decode cX10_undo 9 = .ok (.ireturn, 1) := by decide +kernel
theorem dX10_undo_10 : decode cX10_undo 10 = .ok (.aload_n 0, 1) := by decide +kernel
theorem dX10_undo_11 : decode cX10_undo 11 = .ok (.getfield 29, 3) := by decide +kernel
theorem dX10_undo_14 : decode cX10_undo 14 = .ok (.aload_n 0, 1) := by decide +kernel
theorem dX10_undo_15 : decode cX10_undo 15 = .ok (.getfield 35, 3) := by decide +kernel
theorem dX10_undo_18 : decode cX10_undo 18 = .ok (.invokevirtual 306, 3) := by decide +kernel
theorem dX10_undo_21 : decode cX10_undo 21 = .ok (.aload_n 0, 1) := by decide +kernel
theorem dX10_undo_22 : decode cX10_undo 22 = .ok (.getfield 29, 3) := by decide +kernel
theorem dX10_undo_25 : decode cX10_undo 25 = .ok (.getfield 98, 3) := by decide +kernel
theorem dX10_undo_28 : decode cX10_undo 28 = .ok (.getfield 106, 3) := by decide +kernel
theorem dX10_undo_31 : decode cX10_undo 31 = .ok (.ireturn, 1) := by decide +kernel
theorem dX10_count_0 : decode cX10_count 0 = .ok (.iload_n 1, 1) := by decide +kernel
theorem dX10_count_1 : decode cX10_count 1 = .ok (.tableswitch 99 0 5 #[39, 50, 58, 69, 80, 91], 39) := by decide +kernel
theorem dX10_count_40 : decode cX10_count 40 = .ok (.aload_n 0, 1) := by decide +kernel
theorem dX10_count_41 : decode cX10_count 41 = .ok (.getfield 29, 3) := by decide +kernel
theorem dX10_count_44 : decode cX10_count 44 = .ok (.getfield 98, 3) := by decide +kernel
theorem dX10_count_47 : decode cX10_count 47 = .ok (.getfield 106, 3) := by decide +kernel
theorem dX10_count_50 : decode cX10_count 50 = .ok (.ireturn, 1) := by decide +kernel
theorem dX10_count_51 : decode cX10_count 51 = .ok (.aload_n 0, 1) := by decide +kernel
theorem dX10_count_52 : decode cX10_count 52 = .ok (.getfield 29, 3) := by decide +kernel
theorem dX10_count_55 : decode cX10_count 55 = .ok (.getfield 70, 3) := by decide +kernel
theorem dX10_count_58 : decode cX10_count 58 = .ok (.ireturn, 1) := by decide +kernel
theorem dX10_count_59 : decode cX10_count 59 = .ok (.aload_n 0, 1) := by decide +kernel
theorem dX10_count_60 : decode cX10_count 60 = .ok (.getfield 29, 3) := by decide +kernel
theorem dX10_count_63 : decode cX10_count 63 = .ok (.getfield 244, 3) := by decide +kernel
theorem dX10_count_66 : decode cX10_count 66 = .ok (.getfield 248, 3) := by decide +kernel
theorem dX10_count_69 : decode cX10_count 69 = .ok (.ireturn, 1) := by decide +kernel
theorem dX10_count_70 : decode cX10_count 70 = .ok (.aload_n 0, 1) := by decide +kernel
theorem dX10_count_71 : decode cX10_count 71 = .ok (.getfield 29, 3) := by decide +kernel
theorem dX10_count_74 : decode cX10_count 74 = .ok (.getfield 271, 3) := by decide +kernel
theorem dX10_count_77 : decode cX10_count 77 = .ok (.getfield 248, 3) := by decide +kernel
theorem dX10_count_80 : decode cX10_count 80 = .ok (.ireturn, 1) := by decide +kernel
theorem dX10_count_81 : decode cX10_count 81 = .ok (.aload_n 0, 1) := by decide +kernel
theorem dX10_count_82 : decode cX10_count 82 = .ok (.getfield 29, 3) := by decide +kernel
theorem dX10_count_85 : decode cX10_count 85 = .ok (.getfield 56, 3) := by decide +kernel
theorem dX10_count_88 : decode cX10_count 88 = .ok (.getfield 66, 3) := by decide +kernel
theorem dX10_count_91 : decode cX10_count 91 = .ok (.ireturn, 1) := by decide +kernel
theorem dX10_count_92 : decode cX10_count 92 = .ok (.aload_n 0, 1) := by decide +kernel
theorem dX10_count_93 : decode cX10_count 93 = .ok (.getfield 48, 3) := by decide +kernel
theorem dX10_count_96 : decode cX10_count 96 = .ok (.getfield 280, 3) := by decide +kernel
theorem dX10_count_99 : decode cX10_count 99 = .ok (.ireturn, 1) := by decide +kernel
theorem dX10_count_100 : decode cX10_count 100 = .ok (.iconst (-1), 1) := by decide +kernel
theorem dX10_count_101 : decode cX10_count 101 = .ok (.ireturn, 1) := by decide +kernel
theorem dX10_isIn_0 : decode cX10_isIn 0 = .ok (.iload_n 0, 1) := by decide +kernel
theorem dX10_isIn_1 : decode cX10_isIn 1 = .ok (.ifCond .lt 12, 3) := by decide +kernel
theorem dX10_isIn_4 : decode cX10_isIn 4 = .ok (.iload_n 0, 1) := by decide +kernel
theorem dX10_isIn_5 : decode cX10_isIn 5 = .ok (.iload_n 1, 1) := by decide +kernel
theorem dX10_isIn_6 : decode cX10_isIn 6 = .ok (.if_icmp .ge 7, 3) := by decide +kernel
theorem dX10_isIn_9 : decode cX10_isIn 9 = .ok (.iconst 1, 1) := by decide +kernel
theorem dX10_isIn_10 : decode cX10_isIn 10 = .ok (.goto 4, 3) := by decide +kernel
theorem dX10_isIn_13 : decode cX10_isIn 13 = .ok (.iconst 0, 1) := by decide +kernel
theorem dX10_isIn_14 : decode cX10_isIn 14 = .ok (.ireturn, 1) := by decide +kernel
theorem dX10_isNumber_0 : decode cX10_isNumber 0 = .ok (.iload_n 0, 1) := by decide +kernel
theorem dX10_isNumber_1 : decode cX10_isNumber 1 = .ok (.ifCond .lt 13, 3) := by decide +kernel
theorem dX10_isNumber_4 : decode cX10_isNumber 4 = .ok (.iload_n 0, 1) := by decide +kernel
theorem dX10_isNumber_5 : decode cX10_isNumber 5 = .ok (.bipush 9, 2) := by decide +kernel
theorem dX10_isNumber_7 : decode cX10_isNumber 7 = .ok (.if_icmp .gt 7, 3) := by decide +kernel
theorem dX10_isNumber_10 : decode cX10_isNumber 10 = .ok (.iconst 1, 1) := by decide +kernel
theorem dX10_isNumber_11 : decode cX10_isNumber 11 = .ok (.goto 4, 3) := by decide +kernel
theorem dX10_isNumber_14 : decode cX10_isNumber 14 = .ok (.iconst 0, 1) := by decide +kernel
theorem dX10_isNumber_15 : decode cX10_isNumber 15 = .ok (.ireturn, 1) := by decide +kernel
theorem dX10_hasBit_0 : decode cX10_hasBit 0 = .ok (.iload_n 0, 1) := by decide +kernel
theorem dX10_hasBit_1 : decode cX10_hasBit 1 = .ok (.iload_n 1, 1) := by decide +kernel
theorem dX10_hasBit_2 : decode cX10_hasBit 2 = .ok (.ishr, 1) := by decide +kernel
theorem dX10_hasBit_3 : decode cX10_hasBit 3 = .ok (.iconst 1, 1) := by decide +kernel
theorem dX10_hasBit_4 : decode cX10_hasBit 4 = .ok (.iand, 1) := by decide +kernel
theorem dX10_hasBit_5 : decode cX10_hasBit 5 = .ok (.iconst 1, 1) := by decide +kernel
theorem dX10_hasBit_6 : decode cX10_hasBit 6 = .ok (.if_icmp .ne 7, 3) := by decide +kernel
theorem dX10_hasBit_9 : decode cX10_hasBit 9 = .ok (.iconst 1, 1) := by decide +kernel
theorem dX10_hasBit_10 : decode cX10_hasBit 10 = .ok (.goto 4, 3) := by decide +kernel
theorem dX10_hasBit_13 : decode cX10_hasBit 13 = .ok (.iconst 0, 1) := by decide +kernel
theorem dX10_hasBit_14 : decode cX10_hasBit 14 = .ok (.ireturn, 1) := by decide +kernel
theorem dX10_isUnder_0 : decode cX10_isUnder 0 = .ok (.iload_n 0, 1) := by decide +kernel
theorem dX10_isUnder_1 : decode cX10_isUnder 1 = .ok (.istore_n 2, 1) := by decide +kernel
theorem dX10_isUnder_2 : decode cX10_isUnder 2 = .ok (.iconst 0, 1) := by decide +kernel
theorem dX10_isUnder_3 : decode cX10_isUnder 3 = .ok (.istore_n 3, 1) := by decide +kernel
theorem dX10_isUnder_4 : decode cX10_isUnder 4 = .ok (.iload_n 3, 1) := by decide +kernel
theorem dX10_isUnder_5 : decode cX10_isUnder 5 = .ok (.bipush 7, 2) := by decide +kernel
theorem dX10_isUnder_7 : decode cX10_isUnder 7 = .ok (.if_icmp .ge 31, 3) := by decide +kernel
theorem dX10_isUnder_10 : decode cX10_isUnder 10 = .ok (.iload_n 2, 1) := by decide +kernel
theorem dX10_isUnder_11 : decode cX10_isUnder 11 = .ok (.bipush 7, 2) := by decide +kernel
theorem dX10_isUnder_13 : decode cX10_isUnder 13 = .ok (.invokestatic 91, 3) := by decide +kernel
theorem dX10_isUnder_16 : decode cX10_isUnder 16 = .ok (.ifCond .eq 22, 3) := by decide +kernel
theorem dX10_isUnder_19 : decode cX10_isUnder 19 = .ok (.iload_n 2, 1) := by decide +kernel
theorem dX10_isUnder_20 : decode cX10_isUnder 20 = .ok (.iload_n 1, 1) := by decide +kernel
theorem dX10_isUnder_21 : decode cX10_isUnder 21 = .ok (.if_icmp .ne 5, 3) := by decide +kernel
theorem dX10_isUnder_24 : decode cX10_isUnder 24 = .ok (.iconst 1, 1) := by decide +kernel
theorem dX10_isUnder_25 : decode cX10_isUnder 25 = .ok (.ireturn, 1) := by decide +kernel
theorem dX10_isUnder_26 : decode cX10_isUnder 26 = .ok (.getstatic 309, 3) := by decide +kernel
theorem dX10_isUnder_29 : decode cX10_isUnder 29 = .ok (.iload_n 2, 1) := by decide +kernel
theorem dX10_isUnder_30 : decode cX10_isUnder 30 = .ok (.iaload, 1) := by decide +kernel
theorem dX10_isUnder_31 : decode cX10_isUnder 31 = .ok (.istore_n 2, 1) := by decide +kernel
theorem dX10_isUnder_32 : decode cX10_isUnder 32 = .ok (.iinc 3 1, 3) := by decide +kernel
theorem dX10_isUnder_35 : decode cX10_isUnder 35 = .ok (.goto (-31), 3) := by decide +kernel
theorem dX10_isUnder_38 : decode cX10_isUnder 38 = .ok (.iconst 0, 1) := by decide +kernel
theorem dX10_isUnder_39 : decode cX10_isUnder 39 = .ok (.ireturn, 1) := by decide +kernel
theorem dX10_partOf_0 : decode cX10_partOf 0 = .ok (.lload_n 2, 1) := by decide +kernel
theorem dX10_partOf_1 : decode cX10_partOf 1 = .ok (.lstore 5, 2) := by decide +kernel
theorem dX10_partOf_3 : decode cX10_partOf 3 = .ok (.lload_n 0, 1) := by decide +kernel
theorem dX10_partOf_4 : decode cX10_partOf 4 = .ok (.lstore 7, 2) := by decide +kernel
theorem dX10_partOf_6 : decode cX10_partOf 6 = .ok (.iconst 0, 1) := by decide +kernel
theorem dX10_partOf_7 : decode cX10_partOf 7 = .ok (.istore 9, 2) := by decide +kernel
theorem dX10_partOf_9 : decode cX10_partOf 9 = .ok (.iload 9, 2) := by decide +kernel
theorem dX10_partOf_11 : decode cX10_partOf 11 = .ok (.sipush 200, 3) := by decide +kernel
theorem dX10_partOf_14 : decode cX10_partOf 14 = .ok (.if_icmp .ge 31, 3) := by decide +kernel
theorem dX10_partOf_17 : decode cX10_partOf 17 = .ok (.lload 7, 2) := by decide +kernel
theorem dX10_partOf_19 : decode cX10_partOf 19 = .ok (.lconst 0, 1) := by decide +kernel
theorem dX10_partOf_20 : decode cX10_partOf 20 = .ok (.lcmp, 1) := by decide +kernel
theorem dX10_partOf_21 : decode cX10_partOf 21 = .ok (.ifCond .eq 24, 3) := by decide +kernel
theorem dX10_partOf_24 : decode cX10_partOf 24 = .ok (.lload 5, 2) := by decide +kernel
theorem dX10_partOf_26 : decode cX10_partOf 26 = .ok (.lload 7, 2) := by decide +kernel
theorem dX10_partOf_28 : decode cX10_partOf 28 = .ok (.lrem, 1) := by decide +kernel
theorem dX10_partOf_29 : decode cX10_partOf 29 = .ok (.lstore 10, 2) := by decide +kernel
theorem dX10_partOf_31 : decode cX10_partOf 31 = .ok (.lload 7, 2) := by decide +kernel
theorem dX10_partOf_33 : decode cX10_partOf 33 = .ok (.lstore 5, 2) := by decide +kernel
theorem dX10_partOf_35 : decode cX10_partOf 35 = .ok (.lload 10, 2) := by decide +kernel
theorem dX10_partOf_37 : decode cX10_partOf 37 = .ok (.lstore 7, 2) := by decide +kernel
theorem dX10_partOf_39 : decode cX10_partOf 39 = .ok (.iinc 9 1, 3) := by decide +kernel
theorem dX10_partOf_42 : decode cX10_partOf 42 = .ok (.goto (-33), 3) := by decide +kernel
theorem dX10_partOf_45 : decode cX10_partOf 45 = .ok (.lload 5, 2) := by decide +kernel
theorem dX10_partOf_47 : decode cX10_partOf 47 = .ok (.lconst 0, 1) := by decide +kernel
theorem dX10_partOf_48 : decode cX10_partOf 48 = .ok (.lcmp, 1) := by decide +kernel
theorem dX10_partOf_49 : decode cX10_partOf 49 = .ok (.ifCond .ne 7, 3) := by decide +kernel
theorem dX10_partOf_52 : decode cX10_partOf 52 = .ok (.ldc2_w 189, 3) := by decide +kernel
theorem dX10_partOf_55 : decode cX10_partOf 55 = .ok (.lreturn, 1) := by decide +kernel
theorem dX10_partOf_56 : decode cX10_partOf 56 = .ok (.iload 4, 2) := by decide +kernel
theorem dX10_partOf_58 : decode cX10_partOf 58 = .ok (.ifCond .ne 7, 3) := by decide +kernel
theorem dX10_partOf_61 : decode cX10_partOf 61 = .ok (.lload_n 0, 1) := by decide +kernel
theorem dX10_partOf_62 : decode cX10_partOf 62 = .ok (.goto 4, 3) := by decide +kernel
theorem dX10_partOf_65 : decode cX10_partOf 65 = .ok (.lload_n 2, 1) := by decide +kernel
theorem dX10_partOf_66 : decode cX10_partOf 66 = .ok (.lload 5, 2) := by decide +kernel
theorem dX10_partOf_68 : decode cX10_partOf 68 = .ok (.ldiv, 1) := by decide +kernel
theorem dX10_partOf_69 : decode cX10_partOf 69 = .ok (.lreturn, 1) := by decide +kernel
theorem dX11_init_0 : decode cX11_init 0 = .ok (.aload_n 0, 1) := by decide +kernel
theorem dX11_init_1 : decode cX11_init 1 = .ok (.invokespecial 3, 3) := by decide +kernel
theorem dX11_init_4 : decode cX11_init 4 = .ok (.aload_n 0, 1) := by decide +kernel
theorem dX11_init_5 : decode cX11_init 5 = .ok (.sipush 944, 3) := by decide +kernel
theorem dX11_init_8 : decode cX11_init 8 = .ok (.newarray .int, 2) := by decide +kernel
theorem dX11_init_10 : decode cX11_init 10 = .ok (.putfield 9, 3) := by decide +kernel
theorem dX11_init_13 : decode cX11_init 13 = .ok (.aload_n 0, 1) := by decide +kernel
theorem dX11_init_14 : decode cX11_init 14 = .ok (.sipush 944, 3) := by decide +kernel
theorem dX11_init_17 : decode cX11_init 17 = .ok (.newarray .int, 2) := by decide +kernel
theorem dX11_init_19 : decode cX11_init 19 = .ok (.putfield 15, 3) := by decide +kernel
theorem dX11_init_22 : decode cX11_init 22 = .ok (.aload_n 0, 1) := by decide +kernel
theorem dX11_init_23 : decode cX11_init 23 = .ok (.bipush 18, 2) := by decide +kernel
theorem dX11_init_25 : decode cX11_init 25 = .ok (.newarray .int, 2) := by decide +kernel
theorem dX11_init_27 : decode cX11_init 27 = .ok (.putfield 18, 3) := by decide +kernel
theorem dX11_init_30 : decode cX11_init 30 = .ok (.aload_n 0, 1) := by decide +kernel
theorem dX11_init_31 : decode cX11_init 31 = .ok (.iconst 5, 1) := by decide +kernel
theorem dX11_init_32 : decode cX11_init 32 = .ok (.newarray .int, 2) := by decide +kernel
theorem dX11_init_34 : decode cX11_init 34 = .ok (.putfield 21, 3) := by decide +kernel
theorem dX11_init_37 : decode cX11_init 37 = .ok (.aload_n 0, 1) := by decide +kernel
theorem dX11_init_38 : decode cX11_init 38 = .ok (.bipush 64, 2) := by decide +kernel
theorem dX11_init_40 : decode cX11_init 40 = .ok (.newarray .boolean, 2) := by decide +kernel
theorem dX11_init_42 : decode cX11_init 42 = .ok (.putfield 24, 3) := by decide +kernel
theorem dX11_init_45 : decode cX11_init 45 = .ok (.aload_n 0, 1) := by decide +kernel
theorem dX11_init_46 : decode cX11_init 46 = .ok (.bipush 7, 2) := by decide +kernel
theorem dX11_init_48 : decode cX11_init 48 = .ok (.newarray .int, 2) := by decide +kernel
theorem dX11_init_50 : decode cX11_init 50 = .ok (.putfield 28, 3) := by decide +kernel
theorem dX11_init_53 : decode cX11_init 53 = .ok (.aload_n 0, 1) := by decide +kernel
theorem dX11_init_54 : decode cX11_init 54 = .ok (.bipush 7, 2) := by decide +kernel
theorem dX11_init_56 : decode cX11_init 56 = .ok (.newarray .int, 2) := by decide +kernel
theorem dX11_init_58 : decode cX11_init 58 = .ok (.putfield 31, 3) := by decide +kernel
theorem dX11_init_61 : decode cX11_init 61 = .ok (.aload_n 0, 1) := by decide +kernel
theorem dX11_init_62 : decode cX11_init 62 = .ok (.iconst (-1), 1) := by decide +kernel
theorem dX11_init_63 : decode cX11_init 63 = .ok (.putfield 34, 3) := by decide +kernel
theorem dX11_init_66 : decode cX11_init 66 = .ok (.aload_n 0, 1) := by decide +kernel
theorem dX11_init_67 : decode cX11_init 67 = .ok (.iconst (-1), 1) := by decide +kernel
theorem dX11_init_68 : decode cX11_init 68 = .ok (.putfield 38, 3) := by decide +kernel
theorem dX11_init_71 : decode cX11_init 71 = .ok (.aload_n 0, 1) := by decide +kernel
theorem dX11_init_72 : decode cX11_init 72 = .ok (.bipush 20, 2) := by decide +kernel
theorem dX11_init_74 : decode cX11_init 74 = .ok (.newarray .int, 2) := by decide +kernel
theorem dX11_init_76 : decode cX11_init 76 = .ok (.putfield 41, 3) := by decide +kernel
theorem dX11_init_79 : decode cX11_init 79 = .ok (.aload_n 0, 1) := by decide +kernel
theorem dX11_init_80 : decode cX11_init 80 = .ok (.getfield 9, 3) := by decide +kernel
theorem dX11_init_83 : decode cX11_init 83 = .ok (.bipush 23, 2) := by decide +kernel
theorem dX11_init_85 : decode cX11_init 85 = .ok (.iconst (-1), 1) := by decide +kernel
theorem dX11_init_86 : decode cX11_init 86 = .ok (.iastore, 1) := by decide +kernel
theorem dX11_init_87 : decode cX11_init 87 = .ok (.return_, 1) := by decide +kernel
theorem dX11_in_0 : decode cX11_in 0 = .ok (.iload_n 0, 1) := by decide +kernel
theorem dX11_in_1 : decode cX11_in 1 = .ok (.iload_n 1, 1) := by decide +kernel
theorem dX11_in_2 : decode cX11_in 2 = .ok (.if_icmp .lt 12, 3) := by decide +kernel
theorem dX11_in_5 : decode cX11_in 5 = .ok (.iload_n 0, 1) := by decide +kernel
theorem dX11_in_6 : decode cX11_in 6 = .ok (.iload_n 2, 1) := by decide +kernel
theorem dX11_in_7 : decode cX11_in 7 = .ok (.if_icmp .gt 7, 3) := by decide +kernel
theorem dX11_in_10 : decode cX11_in 10 = .ok (.iconst 1, 1) := by decide +kernel
theorem dX11_in_11 : decode cX11_in 11 = .ok (.goto 4, 3) := by decide +kernel
theorem dX11_in_14 : decode cX11_in 14 = .ok (.iconst 0, 1) := by decide +kernel
theorem dX11_in_15 : decode cX11_in 15 = .ok (.ireturn, 1) := by decide +kernel
theorem dX11_isPerson_0 : decode cX11_isPerson 0 = .ok (.iload_n 1, 1) := by decide +kernel
theorem dX11_isPerson_1 : decode cX11_isPerson 1 = .ok (.iconst 0, 1) := by decide +kernel
theorem dX11_isPerson_2 : decode cX11_isPerson 2 = .ok (.aload_n 0, 1) := by decide +kernel
theorem dX11_isPerson_3 : decode cX11_isPerson 3 = .ok (.getfield 9, 3) := by decide +kernel
theorem dX11_isPerson_6 : decode cX11_isPerson 6 = .ok (.bipush 18, 2) := by decide +kernel
theorem dX11_isPerson_8 : decode cX11_isPerson 8 = .ok (.iaload, 1) := by decide +kernel
theorem dX11_isPerson_9 : decode cX11_isPerson 9 = .ok (.iconst 1, 1) := by decide +kernel
theorem dX11_isPerson_10 : decode cX11_isPerson 10 = .ok (.isub, 1) := by decide +kernel
theorem dX11_isPerson_11 : decode cX11_isPerson 11 = .ok (.invokestatic 47, 3) := by decide +kernel
theorem dX11_isPerson_14 : decode cX11_isPerson 14 = .ok (.ireturn, 1) := by decide +kernel
theorem dX11_keeps_0 : decode cX11_keeps 0 = .ok (.iconst 0, 1) := by decide +kernel
theorem dX11_keeps_1 : decode cX11_keeps 1 = .ok (.istore_n 1, 1) := by decide +kernel
theorem dX11_keeps_2 : decode cX11_keeps 2 = .ok (.iload_n 1, 1) := by decide +kernel
theorem dX11_keeps_3 : decode cX11_keeps 3 = .ok (.bipush 18, 2) := by decide +kernel
theorem dX11_keeps_5 : decode cX11_keeps 5 = .ok (.if_icmp .ge 21, 3) := by decide +kernel
theorem dX11_keeps_8 : decode cX11_keeps 8 = .ok (.aload_n 0, 1) := by decide +kernel
theorem dX11_keeps_9 : decode cX11_keeps 9 = .ok (.getfield 18, 3) := by decide +kernel
theorem dX11_keeps_12 : decode cX11_keeps 12 = .ok (.iload_n 1, 1) := by decide +kernel
theorem dX11_keeps_13 : decode cX11_keeps 13 = .ok (.aload_n 0, 1) := by decide +kernel
theorem dX11_keeps_14 : decode cX11_keeps 14 = .ok (.getfield 9, 3) := by decide +kernel
theorem dX11_keeps_17 : decode cX11_keeps 17 = .ok (.iload_n 1, 1) := by decide +kernel
theorem dX11_keeps_18 : decode cX11_keeps 18 = .ok (.iaload, 1) := by decide +kernel
theorem dX11_keeps_19 : decode cX11_keeps 19 = .ok (.iastore, 1) := by decide +kernel
theorem dX11_keeps_20 : decode cX11_keeps 20 = .ok (.iinc 1 1, 3) := by decide +kernel
theorem dX11_keeps_23 : decode cX11_keeps 23 = .ok (.goto (-21), 3) := by decide +kernel
theorem dX11_keeps_26 : decode cX11_keeps 26 = .ok (.return_, 1) := by decide +kernel
theorem dX11_goesBack_0 : decode cX11_goesBack 0 = .ok (.iconst 0, 1) := by decide +kernel
theorem dX11_goesBack_1 : decode cX11_goesBack 1 = .ok (.istore_n 1, 1) := by decide +kernel
theorem dX11_goesBack_2 : decode cX11_goesBack 2 = .ok (.iload_n 1, 1) := by decide +kernel
theorem dX11_goesBack_3 : decode cX11_goesBack 3 = .ok (.bipush 18, 2) := by decide +kernel
theorem dX11_goesBack_5 : decode cX11_goesBack 5 = .ok (.if_icmp .ge 21, 3) := by decide +kernel
theorem dX11_goesBack_8 : decode cX11_goesBack 8 = .ok (.aload_n 0, 1) := by decide +kernel
theorem dX11_goesBack_9 : decode cX11_goesBack 9 = .ok (.getfield 9, 3) := by decide +kernel
theorem dX11_goesBack_12 : decode cX11_goesBack 12 = .ok (.iload_n 1, 1) := by decide +kernel
theorem dX11_goesBack_13 : decode cX11_goesBack 13 = .ok (.aload_n 0, 1) := by decide +kernel
theorem dX11_goesBack_14 : decode cX11_goesBack 14 = .ok (.getfield 18, 3) := by decide +kernel
theorem dX11_goesBack_17 : decode cX11_goesBack 17 = .ok (.iload_n 1, 1) := by decide +kernel
theorem dX11_goesBack_18 : decode cX11_goesBack 18 = .ok (.iaload, 1) := by decide +kernel
theorem dX11_goesBack_19 : decode cX11_goesBack 19 = .ok (.iastore, 1) := by decide +kernel
theorem dX11_goesBack_20 : decode cX11_goesBack 20 = .ok (.iinc 1 1, 3) := by decide +kernel
theorem dX11_goesBack_23 : decode cX11_goesBack 23 = .ok (.goto (-21), 3) := by decide +kernel
theorem dX11_goesBack_26 : decode cX11_goesBack 26 = .ok (.return_, 1) := by decide +kernel
theorem dX11_count1_0 : decode cX11_count1 0 = .ok (.iconst 0, 1) := by decide +kernel
theorem dX11_count1_1 : decode cX11_count1 1 = .ok (.istore_n 1, 1) := by decide +kernel
theorem dX11_count1_2 : decode cX11_count1 2 = .ok (.iconst 0, 1) := by decide +kernel
theorem dX11_count1_3 : decode cX11_count1 3 = .ok (.istore_n 2, 1) := by decide +kernel
theorem dX11_count1_4 : decode cX11_count1 4 = .ok (.iload_n 2, 1) := by decide +kernel
theorem dX11_count1_5 : decode cX11_count1 5 = .ok (.bipush 7, 2) := by decide +kernel
theorem dX11_count1_7 : decode cX11_count1 7 = .ok (.if_icmp .ge 17, 3) := by decide +kernel
theorem dX11_count1_10 : decode cX11_count1 10 = .ok (.iload_n 1, 1) := by decide +kernel
theorem dX11_count1_11 : decode cX11_count1 11 = .ok (.iload_n 0, 1) := by decide +kernel
theorem dX11_count1_12 : decode cX11_count1 12 = .ok (.iload_n 2, 1) := by decide +kernel
theorem dX11_count1_13 : decode cX11_count1 13 = .ok (.ishr, 1) := by decide +kernel
theorem dX11_count1_14 : decode cX11_count1 14 = .ok (.iconst 1, 1) := by decide +kernel
theorem dX11_count1_15 : decode cX11_count1 15 = .ok (.iand, 1) := by decide +kernel
theorem dX11_count1_16 : decode cX11_count1 16 = .ok (.iadd, 1) := by decide +kernel
theorem dX11_count1_17 : decode cX11_count1 17 = .ok (.istore_n 1, 1) := by decide +kernel
theorem dX11_count1_18 : decode cX11_count1 18 = .ok (.iinc 2 1, 3) := by decide +kernel
theorem dX11_count1_21 : decode cX11_count1 21 = .ok (.goto (-17), 3) := by decide +kernel
theorem dX11_count1_24 : decode cX11_count1 24 = .ok (.iload_n 1, 1) := by decide +kernel
theorem dX11_count1_25 : decode cX11_count1 25 = .ok (.ireturn, 1) := by decide +kernel
theorem dX11_feed_0 : decode cX11_feed 0 = .ok (.iload_n 1, 1) := by decide +kernel
theorem dX11_feed_1 : decode cX11_feed 1 = .ok (.iconst 0, 1) := by decide +kernel
theorem dX11_feed_2 : decode cX11_feed 2 = .ok (.bipush 127, 2) := by decide +kernel
theorem dX11_feed_4 : decode cX11_feed 4 = .ok (.invokestatic 47, 3) := by decide +kernel
theorem dX11_feed_7 : decode cX11_feed 7 = .ok (.ifCond .ne 6, 3) := by decide +kernel
theorem dX11_feed_10 : decode cX11_feed 10 = .ok (.bipush (-2), 2) := by decide +kernel
theorem dX11_feed_12 : decode cX11_feed 12 = .ok (.ireturn, 1) := by decide +kernel
theorem dX11_feed_13 : decode cX11_feed 13 = .ok (.aload_n 0, 1) := by decide +kernel
theorem dX11_feed_14 : decode cX11_feed 14 = .ok (.getfield 9, 3) := by decide +kernel
theorem dX11_feed_17 : decode cX11_feed 17 = .ok (.bipush 22, 2) := by decide +kernel
theorem dX11_feed_19 : decode cX11_feed 19 = .ok (.iaload, 1) := by decide +kernel
theorem dX11_feed_20 : decode cX11_feed 20 = .ok (.bipush 100, 2) := by decide +kernel
theorem dX11_feed_22 : decode cX11_feed 22 = .ok (.if_icmp .ne 6, 3) := by decide +kernel
theorem dX11_feed_25 : decode cX11_feed 25 = .ok (.bipush (-4), 2) := by decide +kernel
theorem dX11_feed_27 : decode cX11_feed 27 = .ok (.ireturn, 1) := by decide +kernel
theorem dX11_feed_28 : decode cX11_feed 28 = .ok (.aload_n 0, 1) := by decide +kernel
theorem dX11_feed_29 : decode cX11_feed 29 = .ok (.getfield 9, 3) := by decide +kernel
theorem dX11_feed_32 : decode cX11_feed 32 = .ok (.sipush 129, 3) := by decide +kernel
theorem dX11_feed_35 : decode cX11_feed 35 = .ok (.aload_n 0, 1) := by decide +kernel
theorem dX11_feed_36 : decode cX11_feed 36 = .ok (.getfield 9, 3) := by decide +kernel
theorem dX11_feed_39 : decode cX11_feed 39 = .ok (.bipush 22, 2) := by decide +kernel
theorem dX11_feed_41 : decode cX11_feed 41 = .ok (.iaload, 1) := by decide +kernel
theorem dX11_feed_42 : decode cX11_feed 42 = .ok (.iadd, 1) := by decide +kernel
theorem dX11_feed_43 : decode cX11_feed 43 = .ok (.iload_n 1, 1) := by decide +kernel
theorem dX11_feed_44 : decode cX11_feed 44 = .ok (.iastore, 1) := by decide +kernel
theorem dX11_feed_45 : decode cX11_feed 45 = .ok (.aload_n 0, 1) := by decide +kernel
theorem dX11_feed_46 : decode cX11_feed 46 = .ok (.getfield 9, 3) := by decide +kernel
theorem dX11_feed_49 : decode cX11_feed 49 = .ok (.bipush 22, 2) := by decide +kernel
theorem dX11_feed_51 : decode cX11_feed 51 = .ok (.dup2, 1) := by decide +kernel
theorem dX11_feed_52 : decode cX11_feed 52 = .ok (.iaload, 1) := by decide +kernel
theorem dX11_feed_53 : decode cX11_feed 53 = .ok (.iconst 1, 1) := by decide +kernel
theorem dX11_feed_54 : decode cX11_feed 54 = .ok (.iadd, 1) := by decide +kernel
theorem dX11_feed_55 : decode cX11_feed 55 = .ok (.iastore, 1) := by decide +kernel
theorem dX11_feed_56 : decode cX11_feed 56 = .ok (.aload_n 0, 1) := by decide +kernel
theorem dX11_feed_57 : decode cX11_feed 57 = .ok (.getfield 9, 3) := by decide +kernel
theorem dX11_feed_60 : decode cX11_feed 60 = .ok (.bipush 22, 2) := by decide +kernel
theorem dX11_feed_62 : decode cX11_feed 62 = .ok (.iaload, 1) := by decide +kernel
theorem dX11_feed_63 : decode cX11_feed 63 = .ok (.ireturn, 1) := by decide +kernel
theorem dX11_here_0 : decode cX11_here 0 = .ok (.aload_n 0, 1) := by decide +kernel
