theorem dX11_end_63 : decode cX11_end 63 = .ok (.goto 18, 3) := by decide +kernel
theorem dX11_end_66 : decode cX11_end 66 = .ok (.iload_n 1, 1) := by decide +kernel
theorem dX11_end_67 : decode cX11_end 67 = .ok (.iconst 2, 1) := by decide +kernel
theorem dX11_end_68 : decode cX11_end 68 = .ok (.if_icmp .ne 12, 3) := by decide +kernel
theorem dX11_end_71 : decode cX11_end 71 = .ok (.aload_n 0, 1) := by decide +kernel
theorem dX11_end_72 : decode cX11_end 72 = .ok (.getfield 9, 3) := by decide +kernel
theorem dX11_end_75 : decode cX11_end 75 = .ok (.iconst 1, 1) := by decide +kernel
theorem dX11_end_76 : decode cX11_end 76 = .ok (.iaload, 1) := by decide +kernel
theorem dX11_end_77 : decode cX11_end 77 = .ok (.goto 4, 3) := by decide +kernel
theorem dX11_end_80 : decode cX11_end 80 = .ok (.iload_n 3, 1) := by decide +kernel
theorem dX11_end_81 : decode cX11_end 81 = .ok (.istore 4, 2) := by decide +kernel
theorem dX11_end_83 : decode cX11_end 83 = .ok (.aload_n 0, 1) := by decide +kernel
theorem dX11_end_84 : decode cX11_end 84 = .ok (.invokevirtual 209, 3) := by decide +kernel
theorem dX11_end_87 : decode cX11_end 87 = .ok (.iload 4, 2) := by decide +kernel
theorem dX11_end_89 : decode cX11_end 89 = .ok (.ireturn, 1) := by decide +kernel
theorem dX11_best_0 : decode cX11_best 0 = .ok (.iload_n 2, 1) := by decide +kernel
theorem dX11_best_1 : decode cX11_best 1 = .ok (.iconst 0, 1) := by decide +kernel
theorem dX11_best_2 : decode cX11_best 2 = .ok (.iconst 2, 1) := by decide +kernel
theorem dX11_best_3 : decode cX11_best 3 = .ok (.invokestatic 47, 3) := by decide +kernel
theorem dX11_best_6 : decode cX11_best 6 = .ok (.ifCond .ne 5, 3) := by decide +kernel
theorem dX11_best_9 : decode cX11_best 9 = .ok (.iconst (-1), 1) := by decide +kernel
theorem dX11_best_10 : decode cX11_best 10 = .ok (.ireturn, 1) := by decide +kernel
theorem dX11_best_11 : decode cX11_best 11 = .ok (.iload_n 1, 1) := by decide +kernel
theorem dX11_best_12 : decode cX11_best 12 = .ok (.iconst 0, 1) := by decide +kernel
theorem dX11_best_13 : decode cX11_best 13 = .ok (.bipush 9, 2) := by decide +kernel
theorem dX11_best_15 : decode cX11_best 15 = .ok (.invokestatic 47, 3) := by decide +kernel
theorem dX11_best_18 : decode cX11_best 18 = .ok (.ifCond .ne 6, 3) := by decide +kernel
theorem dX11_best_21 : decode cX11_best 21 = .ok (.bipush (-2), 2) := by decide +kernel
theorem dX11_best_23 : decode cX11_best 23 = .ok (.ireturn, 1) := by decide +kernel
theorem dX11_best_24 : decode cX11_best 24 = .ok (.aload_n 0, 1) := by decide +kernel
theorem dX11_best_25 : decode cX11_best 25 = .ok (.getfield 9, 3) := by decide +kernel
theorem dX11_best_28 : decode cX11_best 28 = .ok (.bipush 18, 2) := by decide +kernel
theorem dX11_best_30 : decode cX11_best 30 = .ok (.iaload, 1) := by decide +kernel
theorem dX11_best_31 : decode cX11_best 31 = .ok (.ifCond .ne 6, 3) := by decide +kernel
theorem dX11_best_34 : decode cX11_best 34 = .ok (.bipush (-3), 2) := by decide +kernel
theorem dX11_best_36 : decode cX11_best 36 = .ok (.ireturn, 1) := by decide +kernel
theorem dX11_best_37 : decode cX11_best 37 = .ok (.iconst 0, 1) := by decide +kernel
theorem dX11_best_38 : decode cX11_best 38 = .ok (.istore_n 3, 1) := by decide +kernel
theorem dX11_best_39 : decode cX11_best 39 = .ok (.iconst (-1), 1) := by decide +kernel
theorem dX11_best_40 : decode cX11_best 40 = .ok (.istore 4, 2) := by decide +kernel
theorem dX11_best_42 : decode cX11_best 42 = .ok (.iconst 0, 1) := by decide +kernel
theorem dX11_best_43 : decode cX11_best 43 = .ok (.istore 5, 2) := by decide +kernel
theorem dX11_best_45 : decode cX11_best 45 = .ok (.aload_n 0, 1) := by decide +kernel
theorem dX11_best_46 : decode cX11_best 46 = .ok (.invokevirtual 203, 3) := by decide +kernel
theorem dX11_best_49 : decode cX11_best 49 = .ok (.iconst 0, 1) := by decide +kernel
theorem dX11_best_50 : decode cX11_best 50 = .ok (.istore 6, 2) := by decide +kernel
theorem dX11_best_52 : decode cX11_best 52 = .ok (.iload 6, 2) := by decide +kernel
theorem dX11_best_54 : decode cX11_best 54 = .ok (.aload_n 0, 1) := by decide +kernel
theorem dX11_best_55 : decode cX11_best 55 = .ok (.getfield 9, 3) := by decide +kernel
theorem dX11_best_58 : decode cX11_best 58 = .ok (.bipush 18, 2) := by decide +kernel
theorem dX11_best_60 : decode cX11_best 60 = .ok (.iaload, 1) := by decide +kernel
theorem dX11_best_61 : decode cX11_best 61 = .ok (.if_icmp .ge 112, 3) := by decide +kernel
theorem dX11_best_64 : decode cX11_best 64 = .ok (.aload_n 0, 1) := by decide +kernel
theorem dX11_best_65 : decode cX11_best 65 = .ok (.iload 6, 2) := by decide +kernel
theorem dX11_best_67 : decode cX11_best 67 = .ok (.iload_n 1, 1) := by decide +kernel
theorem dX11_best_68 : decode cX11_best 68 = .ok (.invokevirtual 172, 3) := by decide +kernel
theorem dX11_best_71 : decode cX11_best 71 = .ok (.aload_n 0, 1) := by decide +kernel
theorem dX11_best_72 : decode cX11_best 72 = .ok (.invokevirtual 206, 3) := by decide +kernel
theorem dX11_best_75 : decode cX11_best 75 = .ok (.pop, 1) := by decide +kernel
theorem dX11_best_76 : decode cX11_best 76 = .ok (.aload_n 0, 1) := by decide +kernel
theorem dX11_best_77 : decode cX11_best 77 = .ok (.getfield 9, 3) := by decide +kernel
theorem dX11_best_80 : decode cX11_best 80 = .ok (.iconst 2, 1) := by decide +kernel
theorem dX11_best_81 : decode cX11_best 81 = .ok (.iaload, 1) := by decide +kernel
theorem dX11_best_82 : decode cX11_best 82 = .ok (.invokestatic 147, 3) := by decide +kernel
theorem dX11_best_85 : decode cX11_best 85 = .ok (.istore 7, 2) := by decide +kernel
theorem dX11_best_87 : decode cX11_best 87 = .ok (.iload 7, 2) := by decide +kernel
theorem dX11_best_89 : decode cX11_best 89 = .ok (.iload 4, 2) := by decide +kernel
theorem dX11_best_91 : decode cX11_best 91 = .ok (.if_icmp .gt 21, 3) := by decide +kernel
theorem dX11_best_94 : decode cX11_best 94 = .ok (.iload 7, 2) := by decide +kernel
theorem dX11_best_96 : decode cX11_best 96 = .ok (.iload 4, 2) := by decide +kernel
theorem dX11_best_98 : decode cX11_best 98 = .ok (.if_icmp .ne 18, 3) := by decide +kernel
theorem dX11_best_101 : decode cX11_best 101 = .ok (.aload_n 0, 1) := by decide +kernel
theorem dX11_best_102 : decode cX11_best 102 = .ok (.getfield 9, 3) := by decide +kernel
theorem dX11_best_105 : decode cX11_best 105 = .ok (.iconst 1, 1) := by decide +kernel
theorem dX11_best_106 : decode cX11_best 106 = .ok (.iaload, 1) := by decide +kernel
theorem dX11_best_107 : decode cX11_best 107 = .ok (.iload 5, 2) := by decide +kernel
theorem dX11_best_109 : decode cX11_best 109 = .ok (.if_icmp .ge 7, 3) := by decide +kernel
theorem dX11_best_112 : decode cX11_best 112 = .ok (.iconst 1, 1) := by decide +kernel
theorem dX11_best_113 : decode cX11_best 113 = .ok (.goto 4, 3) := by decide +kernel
theorem dX11_best_116 : decode cX11_best 116 = .ok (.iconst 0, 1) := by decide +kernel
theorem dX11_best_117 : decode cX11_best 117 = .ok (.istore 8, 2) := by decide +kernel
theorem dX11_best_119 : decode cX11_best 119 = .ok (.iload 8, 2) := by decide +kernel
theorem dX11_best_121 : decode cX11_best 121 = .ok (.ifCond .eq 8, 3) := by decide +kernel
theorem dX11_best_124 : decode cX11_best 124 = .ok (.iload 6, 2) := by decide +kernel
theorem dX11_best_126 : decode cX11_best 126 = .ok (.goto 4, 3) := by decide +kernel
theorem dX11_best_129 : decode cX11_best 129 = .ok (.iload_n 3, 1) := by decide +kernel
theorem dX11_best_130 : decode cX11_best 130 = .ok (.istore_n 3, 1) := by decide +kernel
theorem dX11_best_131 : decode cX11_best 131 = .ok (.iload 8, 2) := by decide +kernel
theorem dX11_best_133 : decode cX11_best 133 = .ok (.ifCond .eq 8, 3) := by decide +kernel
theorem dX11_best_136 : decode cX11_best 136 = .ok (.iload 7, 2) := by decide +kernel
theorem dX11_best_138 : decode cX11_best 138 = .ok (.goto 5, 3) := by decide +kernel
theorem dX11_best_141 : decode cX11_best 141 = .ok (.iload 4, 2) := by decide +kernel
theorem dX11_best_143 : decode cX11_best 143 = .ok (.istore 4, 2) := by decide +kernel
theorem dX11_best_145 : decode cX11_best 145 = .ok (.iload 8, 2) := by decide +kernel
theorem dX11_best_147 : decode cX11_best 147 = .ok (.ifCond .eq 12, 3) := by decide +kernel
theorem dX11_best_150 : decode cX11_best 150 = .ok (.aload_n 0, 1) := by decide +kernel
theorem dX11_best_151 : decode cX11_best 151 = .ok (.getfield 9, 3) := by decide +kernel
theorem dX11_best_154 : decode cX11_best 154 = .ok (.iconst 1, 1) := by decide +kernel
theorem dX11_best_155 : decode cX11_best 155 = .ok (.iaload, 1) := by decide +kernel
theorem dX11_best_156 : decode cX11_best 156 = .ok (.goto 5, 3) := by decide +kernel
theorem dX11_best_159 : decode cX11_best 159 = .ok (.iload 5, 2) := by decide +kernel
theorem dX11_best_161 : decode cX11_best 161 = .ok (.istore 5, 2) := by decide +kernel
theorem dX11_best_163 : decode cX11_best 163 = .ok (.aload_n 0, 1) := by decide +kernel
theorem dX11_best_164 : decode cX11_best 164 = .ok (.invokevirtual 209, 3) := by decide +kernel
theorem dX11_best_167 : decode cX11_best 167 = .ok (.iinc 6 1, 3) := by decide +kernel
theorem dX11_best_170 : decode cX11_best 170 = .ok (.goto (-118), 3) := by decide +kernel
theorem dX11_best_173 : decode cX11_best 173 = .ok (.iload_n 2, 1) := by decide +kernel
theorem dX11_best_174 : decode cX11_best 174 = .ok (.ifCond .ne 7, 3) := by decide +kernel
theorem dX11_best_177 : decode cX11_best 177 = .ok (.iload_n 3, 1) := by decide +kernel
theorem dX11_best_178 : decode cX11_best 178 = .ok (.goto 15, 3) := by decide +kernel
theorem dX11_best_181 : decode cX11_best 181 = .ok (.iload_n 2, 1) := by decide +kernel
theorem dX11_best_182 : decode cX11_best 182 = .ok (.iconst 1, 1) := by decide +kernel
theorem dX11_best_183 : decode cX11_best 183 = .ok (.if_icmp .ne 8, 3) := by decide +kernel
theorem dX11_best_186 : decode cX11_best 186 = .ok (.iload 4, 2) := by decide +kernel
theorem dX11_best_188 : decode cX11_best 188 = .ok (.goto 5, 3) := by decide +kernel
theorem dX11_best_191 : decode cX11_best 191 = .ok (.iload 5, 2) := by decide +kernel
theorem dX11_best_193 : decode cX11_best 193 = .ok (.ireturn, 1) := by decide +kernel
theorem dX11_triesSets_0 : decode cX11_triesSets 0 = .ok (.aload_n 0, 1) := by decide +kernel
theorem dX11_triesSets_1 : decode cX11_triesSets 1 = .ok (.iload_n 1, 1) := by decide +kernel
theorem dX11_triesSets_2 : decode cX11_triesSets 2 = .ok (.invokevirtual 151, 3) := by decide +kernel
theorem dX11_triesSets_5 : decode cX11_triesSets 5 = .ok (.istore_n 3, 1) := by decide +kernel
theorem dX11_triesSets_6 : decode cX11_triesSets 6 = .ok (.aload_n 0, 1) := by decide +kernel
theorem dX11_triesSets_7 : decode cX11_triesSets 7 = .ok (.iload_n 1, 1) := by decide +kernel
theorem dX11_triesSets_8 : decode cX11_triesSets 8 = .ok (.invokevirtual 154, 3) := by decide +kernel
theorem dX11_triesSets_11 : decode cX11_triesSets 11 = .ok (.istore 4, 2) := by decide +kernel
theorem dX11_triesSets_13 : decode cX11_triesSets 13 = .ok (.iload_n 3, 1) := by decide +kernel
theorem dX11_triesSets_14 : decode cX11_triesSets 14 = .ok (.invokestatic 147, 3) := by decide +kernel
theorem dX11_triesSets_17 : decode cX11_triesSets 17 = .ok (.iload 4, 2) := by decide +kernel
theorem dX11_triesSets_19 : decode cX11_triesSets 19 = .ok (.if_icmp .ge 10, 3) := by decide +kernel
theorem dX11_triesSets_22 : decode cX11_triesSets 22 = .ok (.iload_n 3, 1) := by decide +kernel
theorem dX11_triesSets_23 : decode cX11_triesSets 23 = .ok (.invokestatic 147, 3) := by decide +kernel
theorem dX11_triesSets_26 : decode cX11_triesSets 26 = .ok (.goto 5, 3) := by decide +kernel
theorem dX11_triesSets_29 : decode cX11_triesSets 29 = .ok (.iload 4, 2) := by decide +kernel
theorem dX11_triesSets_31 : decode cX11_triesSets 31 = .ok (.istore 5, 2) := by decide +kernel
theorem dX11_triesSets_33 : decode cX11_triesSets 33 = .ok (.aload_n 0, 1) := by decide +kernel
theorem dX11_triesSets_34 : decode cX11_triesSets 34 = .ok (.iconst 0, 1) := by decide +kernel
theorem dX11_triesSets_35 : decode cX11_triesSets 35 = .ok (.putfield 212, 3) := by decide +kernel
theorem dX11_triesSets_38 : decode cX11_triesSets 38 = .ok (.aload_n 0, 1) := by decide +kernel
theorem dX11_triesSets_39 : decode cX11_triesSets 39 = .ok (.iconst (-1), 1) := by decide +kernel
theorem dX11_triesSets_40 : decode cX11_triesSets 40 = .ok (.putfield 215, 3) := by decide +kernel
theorem dX11_triesSets_43 : decode cX11_triesSets 43 = .ok (.aload_n 0, 1) := by decide +kernel
theorem dX11_triesSets_44 : decode cX11_triesSets 44 = .ok (.bipush (-5), 2) := by decide +kernel
theorem dX11_triesSets_46 : decode cX11_triesSets 46 = .ok (.putfield 218, 3) := by decide +kernel
theorem dX11_triesSets_49 : decode cX11_triesSets 49 = .ok (.aload_n 0, 1) := by decide +kernel
theorem dX11_triesSets_50 : decode cX11_triesSets 50 = .ok (.invokevirtual 203, 3) := by decide +kernel
theorem dX11_triesSets_53 : decode cX11_triesSets 53 = .ok (.iconst 0, 1) := by decide +kernel
theorem dX11_triesSets_54 : decode cX11_triesSets 54 = .ok (.istore 6, 2) := by decide +kernel
theorem dX11_triesSets_56 : decode cX11_triesSets 56 = .ok (.iload 6, 2) := by decide +kernel
theorem dX11_triesSets_58 : decode cX11_triesSets 58 = .ok (.iload_n 3, 1) := by decide +kernel
theorem dX11_triesSets_59 : decode cX11_triesSets 59 = .ok (.if_icmp .gt 138, 3) := by decide +kernel
theorem dX11_triesSets_62 : decode cX11_triesSets 62 = .ok (.iload 6, 2) := by decide +kernel
theorem dX11_triesSets_64 : decode cX11_triesSets 64 = .ok (.iload_n 3, 1) := by decide +kernel
theorem dX11_triesSets_65 : decode cX11_triesSets 65 = .ok (.iconst (-1), 1) := by decide +kernel
theorem dX11_triesSets_66 : decode cX11_triesSets 66 = .ok (.ixor, 1) := by decide +kernel
theorem dX11_triesSets_67 : decode cX11_triesSets 67 = .ok (.iand, 1) := by decide +kernel
theorem dX11_triesSets_68 : decode cX11_triesSets 68 = .ok (.ifCond .ne 123, 3) := by decide +kernel
theorem dX11_triesSets_71 : decode cX11_triesSets 71 = .ok (.iload 6, 2) := by decide +kernel
theorem dX11_triesSets_73 : decode cX11_triesSets 73 = .ok (.invokestatic 147, 3) := by decide +kernel
theorem dX11_triesSets_76 : decode cX11_triesSets 76 = .ok (.iload 5, 2) := by decide +kernel
theorem dX11_triesSets_78 : decode cX11_triesSets 78 = .ok (.if_icmp .ne 113, 3) := by decide +kernel
theorem dX11_triesSets_81 : decode cX11_triesSets 81 = .ok (.aload_n 0, 1) := by decide +kernel
theorem dX11_triesSets_82 : decode cX11_triesSets 82 = .ok (.iload_n 1, 1) := by decide +kernel
theorem dX11_triesSets_83 : decode cX11_triesSets 83 = .ok (.putfield 38, 3) := by decide +kernel
theorem dX11_triesSets_86 : decode cX11_triesSets 86 = .ok (.aload_n 0, 1) := by decide +kernel
theorem dX11_triesSets_87 : decode cX11_triesSets 87 = .ok (.iload 6, 2) := by decide +kernel
theorem dX11_triesSets_89 : decode cX11_triesSets 89 = .ok (.putfield 178, 3) := by decide +kernel
theorem dX11_triesSets_92 : decode cX11_triesSets 92 = .ok (.aload_n 0, 1) := by decide +kernel
theorem dX11_triesSets_93 : decode cX11_triesSets 93 = .ok (.invokevirtual 206, 3) := by decide +kernel
theorem dX11_triesSets_96 : decode cX11_triesSets 96 = .ok (.pop, 1) := by decide +kernel
theorem dX11_triesSets_97 : decode cX11_triesSets 97 = .ok (.aload_n 0, 1) := by decide +kernel
theorem dX11_triesSets_98 : decode cX11_triesSets 98 = .ok (.getfield 9, 3) := by decide +kernel
theorem dX11_triesSets_101 : decode cX11_triesSets 101 = .ok (.iconst 2, 1) := by decide +kernel
theorem dX11_triesSets_102 : decode cX11_triesSets 102 = .ok (.iaload, 1) := by decide +kernel
theorem dX11_triesSets_103 : decode cX11_triesSets 103 = .ok (.invokestatic 147, 3) := by decide +kernel
theorem dX11_triesSets_106 : decode cX11_triesSets 106 = .ok (.istore 7, 2) := by decide +kernel
theorem dX11_triesSets_108 : decode cX11_triesSets 108 = .ok (.aload_n 0, 1) := by decide +kernel
theorem dX11_triesSets_109 : decode cX11_triesSets 109 = .ok (.iload 7, 2) := by decide +kernel
theorem dX11_triesSets_111 : decode cX11_triesSets 111 = .ok (.aload_n 0, 1) := by decide +kernel
theorem dX11_triesSets_112 : decode cX11_triesSets 112 = .ok (.getfield 215, 3) := by decide +kernel
theorem dX11_triesSets_115 : decode cX11_triesSets 115 = .ok (.if_icmp .le 8, 3) := by decide +kernel
theorem dX11_triesSets_118 : decode cX11_triesSets 118 = .ok (.iload 6, 2) := by decide +kernel
theorem dX11_triesSets_120 : decode cX11_triesSets 120 = .ok (.goto 7, 3) := by decide +kernel
theorem dX11_triesSets_123 : decode cX11_triesSets 123 = .ok (.aload_n 0, 1) := by decide +kernel
theorem dX11_triesSets_124 : decode cX11_triesSets 124 = .ok (.getfield 212, 3) := by decide +kernel
theorem dX11_triesSets_127 : decode cX11_triesSets 127 = .ok (.putfield 212, 3) := by decide +kernel
theorem dX11_triesSets_130 : decode cX11_triesSets 130 = .ok (.aload_n 0, 1) := by decide +kernel
theorem dX11_triesSets_131 : decode cX11_triesSets 131 = .ok (.iload 7, 2) := by decide +kernel
theorem dX11_triesSets_133 : decode cX11_triesSets 133 = .ok (.aload_n 0, 1) := by decide +kernel
theorem dX11_triesSets_134 : decode cX11_triesSets 134 = .ok (.getfield 215, 3) := by decide +kernel
theorem dX11_triesSets_137 : decode cX11_triesSets 137 = .ok (.if_icmp .le 8, 3) := by decide +kernel
theorem dX11_triesSets_140 : decode cX11_triesSets 140 = .ok (.iload 7, 2) := by decide +kernel
theorem dX11_triesSets_142 : decode cX11_triesSets 142 = .ok (.goto 7, 3) := by decide +kernel
theorem dX11_triesSets_145 : decode cX11_triesSets 145 = .ok (.aload_n 0, 1) := by decide +kernel
theorem dX11_triesSets_146 : decode cX11_triesSets 146 = .ok (.getfield 215, 3) := by decide +kernel
theorem dX11_triesSets_149 : decode cX11_triesSets 149 = .ok (.putfield 215, 3) := by decide +kernel
theorem dX11_triesSets_152 : decode cX11_triesSets 152 = .ok (.aload_n 0, 1) := by decide +kernel
theorem dX11_triesSets_153 : decode cX11_triesSets 153 = .ok (.aload_n 0, 1) := by decide +kernel
theorem dX11_triesSets_154 : decode cX11_triesSets 154 = .ok (.getfield 218, 3) := by decide +kernel
theorem dX11_triesSets_157 : decode cX11_triesSets 157 = .ok (.bipush (-5), 2) := by decide +kernel
theorem dX11_triesSets_159 : decode cX11_triesSets 159 = .ok (.if_icmp .ne 21, 3) := by decide +kernel
theorem dX11_triesSets_162 : decode cX11_triesSets 162 = .ok (.iload_n 2, 1) := by decide +kernel
theorem dX11_triesSets_163 : decode cX11_triesSets 163 = .ok (.iconst (-1), 1) := by decide +kernel
theorem dX11_triesSets_164 : decode cX11_triesSets 164 = .ok (.if_icmp .eq 16, 3) := by decide +kernel
theorem dX11_triesSets_167 : decode cX11_triesSets 167 = .ok (.aload_n 0, 1) := by decide +kernel
theorem dX11_triesSets_168 : decode cX11_triesSets 168 = .ok (.iload_n 2, 1) := by decide +kernel
theorem dX11_triesSets_169 : decode cX11_triesSets 169 = .ok (.invokevirtual 129, 3) := by decide +kernel
theorem dX11_triesSets_172 : decode cX11_triesSets 172 = .ok (.ifCond .eq 8, 3) := by decide +kernel
theorem dX11_triesSets_175 : decode cX11_triesSets 175 = .ok (.iload 6, 2) := by decide +kernel
theorem dX11_triesSets_177 : decode cX11_triesSets 177 = .ok (.goto 7, 3) := by decide +kernel
theorem dX11_triesSets_180 : decode cX11_triesSets 180 = .ok (.aload_n 0, 1) := by decide +kernel
theorem dX11_triesSets_181 : decode cX11_triesSets 181 = .ok (.getfield 218, 3) := by decide +kernel
theorem dX11_triesSets_184 : decode cX11_triesSets 184 = .ok (.putfield 218, 3) := by decide +kernel
theorem dX11_triesSets_187 : decode cX11_triesSets 187 = .ok (.aload_n 0, 1) := by decide +kernel
theorem dX11_triesSets_188 : decode cX11_triesSets 188 = .ok (.invokevirtual 209, 3) := by decide +kernel
theorem dX11_triesSets_191 : decode cX11_triesSets 191 = .ok (.iinc 6 1, 3) := by decide +kernel
theorem dX11_triesSets_194 : decode cX11_triesSets 194 = .ok (.goto (-138), 3) := by decide +kernel
theorem dX11_triesSets_197 : decode cX11_triesSets 197 = .ok (.return_, 1) := by decide +kernel
theorem dX11_choice_0 : decode cX11_choice 0 = .ok (.aload_n 0, 1) := by decide +kernel
theorem dX11_choice_1 : decode cX11_choice 1 = .ok (.iload_n 1, 1) := by decide +kernel
theorem dX11_choice_2 : decode cX11_choice 2 = .ok (.invokevirtual 160, 3) := by decide +kernel
theorem dX11_choice_5 : decode cX11_choice 5 = .ok (.ifCond .eq 12, 3) := by decide +kernel
theorem dX11_choice_8 : decode cX11_choice 8 = .ok (.iload_n 2, 1) := by decide +kernel
theorem dX11_choice_9 : decode cX11_choice 9 = .ok (.iconst 0, 1) := by decide +kernel
theorem dX11_choice_10 : decode cX11_choice 10 = .ok (.iconst 1, 1) := by decide +kernel
theorem dX11_choice_11 : decode cX11_choice 11 = .ok (.invokestatic 47, 3) := by decide +kernel
theorem dX11_choice_14 : decode cX11_choice 14 = .ok (.ifCond .ne 5, 3) := by decide +kernel
theorem dX11_choice_17 : decode cX11_choice 17 = .ok (.iconst (-1), 1) := by decide +kernel
theorem dX11_choice_18 : decode cX11_choice 18 = .ok (.ireturn, 1) := by decide +kernel
theorem dX11_choice_19 : decode cX11_choice 19 = .ok (.aload_n 0, 1) := by decide +kernel
theorem dX11_choice_20 : decode cX11_choice 20 = .ok (.iload_n 1, 1) := by decide +kernel
theorem dX11_choice_21 : decode cX11_choice 21 = .ok (.invokevirtual 175, 3) := by decide +kernel
theorem dX11_choice_24 : decode cX11_choice 24 = .ok (.ifCond .ne 6, 3) := by decide +kernel
theorem dX11_choice_27 : decode cX11_choice 27 = .ok (.bipush (-3), 2) := by decide +kernel
theorem dX11_choice_29 : decode cX11_choice 29 = .ok (.ireturn, 1) := by decide +kernel
theorem dX11_choice_30 : decode cX11_choice 30 = .ok (.aload_n 0, 1) := by decide +kernel
theorem dX11_choice_31 : decode cX11_choice 31 = .ok (.iload_n 1, 1) := by decide +kernel
theorem dX11_choice_32 : decode cX11_choice 32 = .ok (.iconst (-1), 1) := by decide +kernel
theorem dX11_choice_33 : decode cX11_choice 33 = .ok (.invokevirtual 221, 3) := by decide +kernel
theorem dX11_choice_36 : decode cX11_choice 36 = .ok (.iload_n 2, 1) := by decide +kernel
theorem dX11_choice_37 : decode cX11_choice 37 = .ok (.ifCond .ne 10, 3) := by decide +kernel
theorem dX11_choice_40 : decode cX11_choice 40 = .ok (.aload_n 0, 1) := by decide +kernel
theorem dX11_choice_41 : decode cX11_choice 41 = .ok (.getfield 212, 3) := by decide +kernel
theorem dX11_choice_44 : decode cX11_choice 44 = .ok (.goto 7, 3) := by decide +kernel
theorem dX11_choice_47 : decode cX11_choice 47 = .ok (.aload_n 0, 1) := by decide +kernel
theorem dX11_choice_48 : decode cX11_choice 48 = .ok (.getfield 215, 3) := by decide +kernel
theorem dX11_choice_51 : decode cX11_choice 51 = .ok (.ireturn, 1) := by decide +kernel
theorem dX11_reach_0 : decode cX11_reach 0 = .ok (.aload_n 0, 1) := by decide +kernel
theorem dX11_reach_1 : decode cX11_reach 1 = .ok (.iload_n 1, 1) := by decide +kernel
theorem dX11_reach_2 : decode cX11_reach 2 = .ok (.invokevirtual 160, 3) := by decide +kernel
theorem dX11_reach_5 : decode cX11_reach 5 = .ok (.ifCond .eq 11, 3) := by decide +kernel
theorem dX11_reach_8 : decode cX11_reach 8 = .ok (.aload_n 0, 1) := by decide +kernel
theorem dX11_reach_9 : decode cX11_reach 9 = .ok (.iload_n 2, 1) := by decide +kernel
theorem dX11_reach_10 : decode cX11_reach 10 = .ok (.invokevirtual 160, 3) := by decide +kernel
theorem dX11_reach_13 : decode cX11_reach 13 = .ok (.ifCond .ne 5, 3) := by decide +kernel
theorem dX11_reach_16 : decode cX11_reach 16 = .ok (.iconst (-1), 1) := by decide +kernel
theorem dX11_reach_17 : decode cX11_reach 17 = .ok (.ireturn, 1) := by decide +kernel
theorem dX11_reach_18 : decode cX11_reach 18 = .ok (.aload_n 0, 1) := by decide +kernel
theorem dX11_reach_19 : decode cX11_reach 19 = .ok (.iload_n 1, 1) := by decide +kernel
theorem dX11_reach_20 : decode cX11_reach 20 = .ok (.invokevirtual 175, 3) := by decide +kernel
theorem dX11_reach_23 : decode cX11_reach 23 = .ok (.ifCond .ne 6, 3) := by decide +kernel
theorem dX11_reach_26 : decode cX11_reach 26 = .ok (.bipush (-3), 2) := by decide +kernel
theorem dX11_reach_28 : decode cX11_reach 28 = .ok (.ireturn, 1) := by decide +kernel
theorem dX11_reach_29 : decode cX11_reach 29 = .ok (.aload_n 0, 1) := by decide +kernel
theorem dX11_reach_30 : decode cX11_reach 30 = .ok (.iload_n 1, 1) := by decide +kernel
theorem dX11_reach_31 : decode cX11_reach 31 = .ok (.iload_n 2, 1) := by decide +kernel
theorem dX11_reach_32 : decode cX11_reach 32 = .ok (.invokevirtual 221, 3) := by decide +kernel
theorem dX11_reach_35 : decode cX11_reach 35 = .ok (.aload_n 0, 1) := by decide +kernel
theorem dX11_reach_36 : decode cX11_reach 36 = .ok (.getfield 218, 3) := by decide +kernel
theorem dX11_reach_39 : decode cX11_reach 39 = .ok (.ireturn, 1) := by decide +kernel
theorem dX11_see_0 : decode cX11_see 0 = .ok (.iload_n 1, 1) := by decide +kernel
theorem dX11_see_1 : decode cX11_see 1 = .ok (.iconst (-1), 1) := by decide +kernel
theorem dX11_see_2 : decode cX11_see 2 = .ok (.if_icmp .ne 13, 3) := by decide +kernel
theorem dX11_see_5 : decode cX11_see 5 = .ok (.aload_n 0, 1) := by decide +kernel
theorem dX11_see_6 : decode cX11_see 6 = .ok (.getfield 9, 3) := by decide +kernel
theorem dX11_see_9 : decode cX11_see 9 = .ok (.bipush 20, 2) := by decide +kernel
theorem dX11_see_11 : decode cX11_see 11 = .ok (.iconst 0, 1) := by decide +kernel
theorem dX11_see_12 : decode cX11_see 12 = .ok (.iastore, 1) := by decide +kernel
theorem dX11_see_13 : decode cX11_see 13 = .ok (.iconst 0, 1) := by decide +kernel
theorem dX11_see_14 : decode cX11_see 14 = .ok (.ireturn, 1) := by decide +kernel
theorem dX11_see_15 : decode cX11_see 15 = .ok (.iload_n 1, 1) := by decide +kernel
theorem dX11_see_16 : decode cX11_see 16 = .ok (.iconst 0, 1) := by decide +kernel
theorem dX11_see_17 : decode cX11_see 17 = .ok (.iconst 1, 1) := by decide +kernel
theorem dX11_see_18 : decode cX11_see 18 = .ok (.aload_n 0, 1) := by decide +kernel
theorem dX11_see_19 : decode cX11_see 19 = .ok (.getfield 9, 3) := by decide +kernel
theorem dX11_see_22 : decode cX11_see 22 = .ok (.bipush 18, 2) := by decide +kernel
theorem dX11_see_24 : decode cX11_see 24 = .ok (.iaload, 1) := by decide +kernel
theorem dX11_see_25 : decode cX11_see 25 = .ok (.ishl, 1) := by decide +kernel
theorem dX11_see_26 : decode cX11_see 26 = .ok (.iconst 1, 1) := by decide +kernel
theorem dX11_see_27 : decode cX11_see 27 = .ok (.isub, 1) := by decide +kernel
theorem dX11_see_28 : decode cX11_see 28 = .ok (.invokestatic 47, 3) := by decide +kernel
theorem dX11_see_31 : decode cX11_see 31 = .ok (.ifCond .eq 13, 3) := by decide +kernel
theorem dX11_see_34 : decode cX11_see 34 = .ok (.iload_n 2, 1) := by decide +kernel
theorem dX11_see_35 : decode cX11_see 35 = .ok (.iconst 0, 1) := by decide +kernel
theorem dX11_see_36 : decode cX11_see 36 = .ok (.bipush 6, 2) := by decide +kernel
theorem dX11_see_38 : decode cX11_see 38 = .ok (.invokestatic 47, 3) := by decide +kernel
theorem dX11_see_41 : decode cX11_see 41 = .ok (.ifCond .ne 6, 3) := by decide +kernel
theorem dX11_see_44 : decode cX11_see 44 = .ok (.bipush (-2), 2) := by decide +kernel
theorem dX11_see_46 : decode cX11_see 46 = .ok (.ireturn, 1) := by decide +kernel
theorem dX11_see_47 : decode cX11_see 47 = .ok (.aload_n 0, 1) := by decide +kernel
theorem dX11_see_48 : decode cX11_see 48 = .ok (.getfield 9, 3) := by decide +kernel
theorem dX11_see_51 : decode cX11_see 51 = .ok (.bipush 20, 2) := by decide +kernel
theorem dX11_see_53 : decode cX11_see 53 = .ok (.iaload, 1) := by decide +kernel
theorem dX11_see_54 : decode cX11_see 54 = .ok (.bipush 6, 2) := by decide +kernel
theorem dX11_see_56 : decode cX11_see 56 = .ok (.if_icmp .ne 6, 3) := by decide +kernel
theorem dX11_see_59 : decode cX11_see 59 = .ok (.bipush (-4), 2) := by decide +kernel
theorem dX11_see_61 : decode cX11_see 61 = .ok (.ireturn, 1) := by decide +kernel
theorem dX11_see_62 : decode cX11_see 62 = .ok (.aload_n 0, 1) := by decide +kernel
theorem dX11_see_63 : decode cX11_see 63 = .ok (.getfield 9, 3) := by decide +kernel
theorem dX11_see_66 : decode cX11_see 66 = .ok (.bipush 101, 2) := by decide +kernel
theorem dX11_see_68 : decode cX11_see 68 = .ok (.aload_n 0, 1) := by decide +kernel
theorem dX11_see_69 : decode cX11_see 69 = .ok (.getfield 9, 3) := by decide +kernel
theorem dX11_see_72 : decode cX11_see 72 = .ok (.bipush 20, 2) := by decide +kernel
theorem dX11_see_74 : decode cX11_see 74 = .ok (.iaload, 1) := by decide +kernel
theorem dX11_see_75 : decode cX11_see 75 = .ok (.iadd, 1) := by decide +kernel
theorem dX11_see_76 : decode cX11_see 76 = .ok (.iload_n 1, 1) := by decide +kernel
theorem dX11_see_77 : decode cX11_see 77 = .ok (.iastore, 1) := by decide +kernel
theorem dX11_see_78 : decode cX11_see 78 = .ok (.aload_n 0, 1) := by decide +kernel
theorem dX11_see_79 : decode cX11_see 79 = .ok (.getfield 9, 3) := by decide +kernel
theorem dX11_see_82 : decode cX11_see 82 = .ok (.bipush 107, 2) := by decide +kernel
theorem dX11_see_84 : decode cX11_see 84 = .ok (.aload_n 0, 1) := by decide +kernel
theorem dX11_see_85 : decode cX11_see 85 = .ok (.getfield 9, 3) := by decide +kernel
theorem dX11_see_88 : decode cX11_see 88 = .ok (.bipush 20, 2) := by decide +kernel
theorem dX11_see_90 : decode cX11_see 90 = .ok (.iaload, 1) := by decide +kernel
theorem dX11_see_91 : decode cX11_see 91 = .ok (.iadd, 1) := by decide +kernel
theorem dX11_see_92 : decode cX11_see 92 = .ok (.iload_n 2, 1) := by decide +kernel
theorem dX11_see_93 : decode cX11_see 93 = .ok (.iastore, 1) := by decide +kernel
theorem dX11_see_94 : decode cX11_see 94 = .ok (.aload_n 0, 1) := by decide +kernel
theorem dX11_see_95 : decode cX11_see 95 = .ok (.getfield 9, 3) := by decide +kernel
theorem dX11_see_98 : decode cX11_see 98 = .ok (.bipush 20, 2) := by decide +kernel
theorem dX11_see_100 : decode cX11_see 100 = .ok (.dup2, 1) := by decide +kernel
theorem dX11_see_101 : decode cX11_see 101 = .ok (.iaload, 1) := by decide +kernel
theorem dX11_see_102 : decode cX11_see 102 = .ok (.iconst 1, 1) := by decide +kernel
theorem dX11_see_103 : decode cX11_see 103 = .ok (.iadd, 1) := by decide +kernel
theorem dX11_see_104 : decode cX11_see 104 = .ok (.iastore, 1) := by decide +kernel
theorem dX11_see_105 : decode cX11_see 105 = .ok (.aload_n 0, 1) := by decide +kernel
theorem dX11_see_106 : decode cX11_see 106 = .ok (.getfield 9, 3) := by decide +kernel
theorem dX11_see_109 : decode cX11_see 109 = .ok (.bipush 20, 2) := by decide +kernel
theorem dX11_see_111 : decode cX11_see 111 = .ok (.iaload, 1) := by decide +kernel
theorem dX11_see_112 : decode cX11_see 112 = .ok (.ireturn, 1) := by decide +kernel
theorem dX11_isAsSeen_0 : decode cX11_isAsSeen 0 = .ok (.iconst 1, 1) := by decide +kernel
theorem dX11_isAsSeen_1 : decode cX11_isAsSeen 1 = .ok (.istore_n 1, 1) := by decide +kernel
theorem dX11_isAsSeen_2 : decode cX11_isAsSeen 2 = .ok (.iconst 0, 1) := by decide +kernel
theorem dX11_isAsSeen_3 : decode cX11_isAsSeen 3 = .ok (.istore_n 2, 1) := by decide +kernel
theorem dX11_isAsSeen_4 : decode cX11_isAsSeen 4 = .ok (.iload_n 2, 1) := by decide +kernel
theorem dX11_isAsSeen_5 : decode cX11_isAsSeen 5 = .ok (.bipush 7, 2) := by decide +kernel
theorem dX11_isAsSeen_7 : decode cX11_isAsSeen 7 = .ok (.if_icmp .ge 74, 3) := by decide +kernel
theorem dX11_isAsSeen_10 : decode cX11_isAsSeen 10 = .ok (.iconst 0, 1) := by decide +kernel
theorem dX11_isAsSeen_11 : decode cX11_isAsSeen 11 = .ok (.istore_n 3, 1) := by decide +kernel
theorem dX11_isAsSeen_12 : decode cX11_isAsSeen 12 = .ok (.iload_n 3, 1) := by decide +kernel
theorem dX11_isAsSeen_13 : decode cX11_isAsSeen 13 = .ok (.aload_n 0, 1) := by decide +kernel
theorem dX11_isAsSeen_14 : decode cX11_isAsSeen 14 = .ok (.getfield 9, 3) := by decide +kernel
theorem dX11_isAsSeen_17 : decode cX11_isAsSeen 17 = .ok (.bipush 20, 2) := by decide +kernel
theorem dX11_isAsSeen_19 : decode cX11_isAsSeen 19 = .ok (.iaload, 1) := by decide +kernel
theorem dX11_isAsSeen_20 : decode cX11_isAsSeen 20 = .ok (.if_icmp .ge 50, 3) := by decide +kernel
theorem dX11_isAsSeen_23 : decode cX11_isAsSeen 23 = .ok (.iload_n 1, 1) := by decide +kernel
theorem dX11_isAsSeen_24 : decode cX11_isAsSeen 24 = .ok (.ifCond .eq 38, 3) := by decide +kernel
theorem dX11_isAsSeen_27 : decode cX11_isAsSeen 27 = .ok (.aload_n 0, 1) := by decide +kernel
theorem dX11_isAsSeen_28 : decode cX11_isAsSeen 28 = .ok (.getfield 9, 3) := by decide +kernel
theorem dX11_isAsSeen_31 : decode cX11_isAsSeen 31 = .ok (.bipush 107, 2) := by decide +kernel
theorem dX11_isAsSeen_33 : decode cX11_isAsSeen 33 = .ok (.iload_n 3, 1) := by decide +kernel
theorem dX11_isAsSeen_34 : decode cX11_isAsSeen 34 = .ok (.iadd, 1) := by decide +kernel
theorem dX11_isAsSeen_35 : decode cX11_isAsSeen 35 = .ok (.iaload, 1) := by decide +kernel
theorem dX11_isAsSeen_36 : decode cX11_isAsSeen 36 = .ok (.iload_n 2, 1) := by decide +kernel
theorem dX11_isAsSeen_37 : decode cX11_isAsSeen 37 = .ok (.if_icmp .ne 21, 3) := by decide +kernel
theorem dX11_isAsSeen_40 : decode cX11_isAsSeen 40 = .ok (.aload_n 0, 1) := by decide +kernel
theorem dX11_isAsSeen_41 : decode cX11_isAsSeen 41 = .ok (.getfield 9, 3) := by decide +kernel
theorem dX11_isAsSeen_44 : decode cX11_isAsSeen 44 = .ok (.bipush 101, 2) := by decide +kernel
theorem dX11_isAsSeen_46 : decode cX11_isAsSeen 46 = .ok (.iload_n 3, 1) := by decide +kernel
theorem dX11_isAsSeen_47 : decode cX11_isAsSeen 47 = .ok (.iadd, 1) := by decide +kernel
theorem dX11_isAsSeen_48 : decode cX11_isAsSeen 48 = .ok (.iaload, 1) := by decide +kernel
theorem dX11_isAsSeen_49 : decode cX11_isAsSeen 49 = .ok (.aload_n 0, 1) := by decide +kernel
theorem dX11_isAsSeen_50 : decode cX11_isAsSeen 50 = .ok (.getfield 9, 3) := by decide +kernel
theorem dX11_isAsSeen_53 : decode cX11_isAsSeen 53 = .ok (.iconst 2, 1) := by decide +kernel
theorem dX11_isAsSeen_54 : decode cX11_isAsSeen 54 = .ok (.iaload, 1) := by decide +kernel
theorem dX11_isAsSeen_55 : decode cX11_isAsSeen 55 = .ok (.if_icmp .ne 7, 3) := by decide +kernel
theorem dX11_isAsSeen_58 : decode cX11_isAsSeen 58 = .ok (.iconst 1, 1) := by decide +kernel
theorem dX11_isAsSeen_59 : decode cX11_isAsSeen 59 = .ok (.goto 4, 3) := by decide +kernel
theorem dX11_isAsSeen_62 : decode cX11_isAsSeen 62 = .ok (.iconst 0, 1) := by decide +kernel
theorem dX11_isAsSeen_63 : decode cX11_isAsSeen 63 = .ok (.istore_n 1, 1) := by decide +kernel
theorem dX11_isAsSeen_64 : decode cX11_isAsSeen 64 = .ok (.iinc 3 1, 3) := by decide +kernel
theorem dX11_isAsSeen_67 : decode cX11_isAsSeen 67 = .ok (.goto (-55), 3) := by decide +kernel
theorem dX11_isAsSeen_70 : decode cX11_isAsSeen 70 = .ok (.aload_n 0, 1) := by decide +kernel
theorem dX11_isAsSeen_71 : decode cX11_isAsSeen 71 = .ok (.invokevirtual 193, 3) := by decide +kernel
theorem dX11_isAsSeen_74 : decode cX11_isAsSeen 74 = .ok (.pop, 1) := by decide +kernel
theorem dX11_isAsSeen_75 : decode cX11_isAsSeen 75 = .ok (.iinc 2 1, 3) := by decide +kernel
theorem dX11_isAsSeen_78 : decode cX11_isAsSeen 78 = .ok (.goto (-74), 3) := by decide +kernel
theorem dX11_isAsSeen_81 : decode cX11_isAsSeen 81 = .ok (.iload_n 1, 1) := by decide +kernel
theorem dX11_isAsSeen_82 : decode cX11_isAsSeen 82 = .ok (.ireturn, 1) := by decide +kernel
theorem dX11_began_0 : decode cX11_began 0 = .ok (.iload_n 1, 1) := by decide +kernel
theorem dX11_began_1 : decode cX11_began 1 = .ok (.iconst 0, 1) := by decide +kernel
theorem dX11_began_2 : decode cX11_began 2 = .ok (.iconst 1, 1) := by decide +kernel
theorem dX11_began_3 : decode cX11_began 3 = .ok (.invokestatic 47, 3) := by decide +kernel
theorem dX11_began_6 : decode cX11_began 6 = .ok (.ifCond .ne 5, 3) := by decide +kernel
theorem dX11_began_9 : decode cX11_began 9 = .ok (.iconst (-1), 1) := by decide +kernel
theorem dX11_began_10 : decode cX11_began 10 = .ok (.ireturn, 1) := by decide +kernel
theorem dX11_began_11 : decode cX11_began 11 = .ok (.iconst 0, 1) := by decide +kernel
theorem dX11_began_12 : decode cX11_began 12 = .ok (.istore_n 2, 1) := by decide +kernel
theorem dX11_began_13 : decode cX11_began 13 = .ok (.bipush (-5), 2) := by decide +kernel
theorem dX11_began_15 : decode cX11_began 15 = .ok (.istore_n 3, 1) := by decide +kernel
theorem dX11_began_16 : decode cX11_began 16 = .ok (.aload_n 0, 1) := by decide +kernel
theorem dX11_began_17 : decode cX11_began 17 = .ok (.invokevirtual 203, 3) := by decide +kernel
theorem dX11_began_20 : decode cX11_began 20 = .ok (.iconst 0, 1) := by decide +kernel
theorem dX11_began_21 : decode cX11_began 21 = .ok (.istore 4, 2) := by decide +kernel
theorem dX11_began_23 : decode cX11_began 23 = .ok (.iload 4, 2) := by decide +kernel
theorem dX11_began_25 : decode cX11_began 25 = .ok (.aload_n 0, 1) := by decide +kernel
theorem dX11_began_26 : decode cX11_began 26 = .ok (.getfield 9, 3) := by decide +kernel
theorem dX11_began_29 : decode cX11_began 29 = .ok (.bipush 18, 2) := by decide +kernel
theorem dX11_began_31 : decode cX11_began 31 = .ok (.iaload, 1) := by decide +kernel
theorem dX11_began_32 : decode cX11_began 32 = .ok (.if_icmp .ge 64, 3) := by decide +kernel
theorem dX11_began_35 : decode cX11_began 35 = .ok (.iconst 0, 1) := by decide +kernel
theorem dX11_began_36 : decode cX11_began 36 = .ok (.istore 5, 2) := by decide +kernel
theorem dX11_began_38 : decode cX11_began 38 = .ok (.iload 5, 2) := by decide +kernel
theorem dX11_began_40 : decode cX11_began 40 = .ok (.bipush 7, 2) := by decide +kernel
theorem dX11_began_42 : decode cX11_began 42 = .ok (.if_icmp .ge 48, 3) := by decide +kernel
theorem dX11_began_45 : decode cX11_began 45 = .ok (.aload_n 0, 1) := by decide +kernel
theorem dX11_began_46 : decode cX11_began 46 = .ok (.iload 4, 2) := by decide +kernel
theorem dX11_began_48 : decode cX11_began 48 = .ok (.iload 5, 2) := by decide +kernel
theorem dX11_began_50 : decode cX11_began 50 = .ok (.invokevirtual 172, 3) := by decide +kernel
theorem dX11_began_53 : decode cX11_began 53 = .ok (.aload_n 0, 1) := by decide +kernel
theorem dX11_began_54 : decode cX11_began 54 = .ok (.invokevirtual 224, 3) := by decide +kernel
theorem dX11_began_57 : decode cX11_began 57 = .ok (.ifCond .eq 23, 3) := by decide +kernel
theorem dX11_began_60 : decode cX11_began 60 = .ok (.iload_n 2, 1) := by decide +kernel
theorem dX11_began_61 : decode cX11_began 61 = .ok (.ifCond .ne 14, 3) := by decide +kernel
theorem dX11_began_64 : decode cX11_began 64 = .ok (.bipush 10, 2) := by decide +kernel
theorem dX11_began_66 : decode cX11_began 66 = .ok (.iload 4, 2) := by decide +kernel
theorem dX11_began_68 : decode cX11_began 68 = .ok (.imul, 1) := by decide +kernel
theorem dX11_began_69 : decode cX11_began 69 = .ok (.iload 5, 2) := by decide +kernel
theorem dX11_began_71 : decode cX11_began 71 = .ok (.iadd, 1) := by decide +kernel
theorem dX11_began_72 : decode cX11_began 72 = .ok (.goto 4, 3) := by decide +kernel
theorem dX11_began_75 : decode cX11_began 75 = .ok (.iload_n 3, 1) := by decide +kernel
theorem dX11_began_76 : decode cX11_began 76 = .ok (.istore_n 3, 1) := by decide +kernel
theorem dX11_began_77 : decode cX11_began 77 = .ok (.iinc 2 1, 3) := by decide +kernel
theorem dX11_began_80 : decode cX11_began 80 = .ok (.aload_n 0, 1) := by decide +kernel
theorem dX11_began_81 : decode cX11_began 81 = .ok (.invokevirtual 209, 3) := by decide +kernel
theorem dX11_began_84 : decode cX11_began 84 = .ok (.iinc 5 1, 3) := by decide +kernel
theorem dX11_began_87 : decode cX11_began 87 = .ok (.goto (-49), 3) := by decide +kernel
theorem dX11_began_90 : decode cX11_began 90 = .ok (.iinc 4 1, 3) := by decide +kernel
theorem dX11_began_93 : decode cX11_began 93 = .ok (.goto (-70), 3) := by decide +kernel
theorem dX11_began_96 : decode cX11_began 96 = .ok (.iload_n 1, 1) := by decide +kernel
theorem dX11_began_97 : decode cX11_began 97 = .ok (.ifCond .ne 7, 3) := by decide +kernel
theorem dX11_began_100 : decode cX11_began 100 = .ok (.iload_n 2, 1) := by decide +kernel
theorem dX11_began_101 : decode cX11_began 101 = .ok (.goto 4, 3) := by decide +kernel
theorem dX11_began_104 : decode cX11_began 104 = .ok (.iload_n 3, 1) := by decide +kernel
theorem dX11_began_105 : decode cX11_began 105 = .ok (.ireturn, 1) := by decide +kernel
theorem dX11_othersHeard_0 : decode cX11_othersHeard 0 = .ok (.aload_n 0, 1) := by decide +kernel
theorem dX11_othersHeard_1 : decode cX11_othersHeard 1 = .ok (.invokevirtual 203, 3) := by decide +kernel
theorem dX11_othersHeard_4 : decode cX11_othersHeard 4 = .ok (.aload_n 0, 1) := by decide +kernel
theorem dX11_othersHeard_5 : decode cX11_othersHeard 5 = .ok (.invokevirtual 206, 3) := by decide +kernel
theorem dX11_othersHeard_8 : decode cX11_othersHeard 8 = .ok (.pop, 1) := by decide +kernel
theorem dX11_othersHeard_9 : decode cX11_othersHeard 9 = .ok (.aload_n 0, 1) := by decide +kernel
theorem dX11_othersHeard_10 : decode cX11_othersHeard 10 = .ok (.getfield 9, 3) := by decide +kernel
theorem dX11_othersHeard_13 : decode cX11_othersHeard 13 = .ok (.iconst 2, 1) := by decide +kernel
theorem dX11_othersHeard_14 : decode cX11_othersHeard 14 = .ok (.iaload, 1) := by decide +kernel
theorem dX11_othersHeard_15 : decode cX11_othersHeard 15 = .ok (.iconst 1, 1) := by decide +kernel
theorem dX11_othersHeard_16 : decode cX11_othersHeard 16 = .ok (.iload_n 1, 1) := by decide +kernel
theorem dX11_othersHeard_17 : decode cX11_othersHeard 17 = .ok (.ishl, 1) := by decide +kernel
theorem dX11_othersHeard_18 : decode cX11_othersHeard 18 = .ok (.iconst (-1), 1) := by decide +kernel
theorem dX11_othersHeard_19 : decode cX11_othersHeard 19 = .ok (.ixor, 1) := by decide +kernel
theorem dX11_othersHeard_20 : decode cX11_othersHeard 20 = .ok (.iand, 1) := by decide +kernel
theorem dX11_othersHeard_21 : decode cX11_othersHeard 21 = .ok (.invokestatic 147, 3) := by decide +kernel
theorem dX11_othersHeard_24 : decode cX11_othersHeard 24 = .ok (.istore_n 2, 1) := by decide +kernel
theorem dX11_othersHeard_25 : decode cX11_othersHeard 25 = .ok (.aload_n 0, 1) := by decide +kernel
theorem dX11_othersHeard_26 : decode cX11_othersHeard 26 = .ok (.invokevirtual 209, 3) := by decide +kernel
theorem dX11_othersHeard_29 : decode cX11_othersHeard 29 = .ok (.iload_n 2, 1) := by decide +kernel
theorem dX11_othersHeard_30 : decode cX11_othersHeard 30 = .ok (.ireturn, 1) := by decide +kernel
theorem dX11_stops_0 : decode cX11_stops 0 = .ok (.aload_n 0, 1) := by decide +kernel
theorem dX11_stops_1 : decode cX11_stops 1 = .ok (.iload_n 1, 1) := by decide +kernel
theorem dX11_stops_2 : decode cX11_stops 2 = .ok (.invokevirtual 160, 3) := by decide +kernel
theorem dX11_stops_5 : decode cX11_stops 5 = .ok (.ifCond .ne 7, 3) := by decide +kernel
theorem dX11_stops_8 : decode cX11_stops 8 = .ok (.sipush (-1001), 3) := by decide +kernel
theorem dX11_stops_11 : decode cX11_stops 11 = .ok (.ireturn, 1) := by decide +kernel
theorem dX11_stops_12 : decode cX11_stops 12 = .ok (.aload_n 0, 1) := by decide +kernel
theorem dX11_stops_13 : decode cX11_stops 13 = .ok (.iload_n 1, 1) := by decide +kernel
theorem dX11_stops_14 : decode cX11_stops 14 = .ok (.invokevirtual 129, 3) := by decide +kernel
theorem dX11_stops_17 : decode cX11_stops 17 = .ok (.ifCond .eq 7, 3) := by decide +kernel
theorem dX11_stops_20 : decode cX11_stops 20 = .ok (.sipush (-1002), 3) := by decide +kernel
theorem dX11_stops_23 : decode cX11_stops 23 = .ok (.ireturn, 1) := by decide +kernel
theorem dX11_stops_24 : decode cX11_stops 24 = .ok (.aload_n 0, 1) := by decide +kernel
theorem dX11_stops_25 : decode cX11_stops 25 = .ok (.iload_n 1, 1) := by decide +kernel
theorem dX11_stops_26 : decode cX11_stops 26 = .ok (.invokevirtual 228, 3) := by decide +kernel
theorem dX11_stops_29 : decode cX11_stops 29 = .ok (.istore_n 2, 1) := by decide +kernel
theorem dX11_stops_30 : decode cX11_stops 30 = .ok (.aload_n 0, 1) := by decide +kernel
theorem dX11_stops_31 : decode cX11_stops 31 = .ok (.iload_n 1, 1) := by decide +kernel
theorem dX11_stops_32 : decode cX11_stops 32 = .ok (.putfield 34, 3) := by decide +kernel
theorem dX11_stops_35 : decode cX11_stops 35 = .ok (.aload_n 0, 1) := by decide +kernel
theorem dX11_stops_36 : decode cX11_stops 36 = .ok (.iload_n 1, 1) := by decide +kernel
theorem dX11_stops_37 : decode cX11_stops 37 = .ok (.invokevirtual 228, 3) := by decide +kernel
theorem dX11_stops_40 : decode cX11_stops 40 = .ok (.istore_n 3, 1) := by decide +kernel
theorem dX11_stops_41 : decode cX11_stops 41 = .ok (.aload_n 0, 1) := by decide +kernel
theorem dX11_stops_42 : decode cX11_stops 42 = .ok (.iconst (-1), 1) := by decide +kernel
theorem dX11_stops_43 : decode cX11_stops 43 = .ok (.putfield 34, 3) := by decide +kernel
theorem dX11_stops_46 : decode cX11_stops 46 = .ok (.iload_n 2, 1) := by decide +kernel
theorem dX11_stops_47 : decode cX11_stops 47 = .ok (.iload_n 3, 1) := by decide +kernel
theorem dX11_stops_48 : decode cX11_stops 48 = .ok (.isub, 1) := by decide +kernel
theorem dX11_stops_49 : decode cX11_stops 49 = .ok (.ireturn, 1) := by decide +kernel
theorem dX11_lowest_0 : decode cX11_lowest 0 = .ok (.lload_n 0, 1) := by decide +kernel
theorem dX11_lowest_1 : decode cX11_lowest 1 = .ok (.lstore 5, 2) := by decide +kernel
theorem dX11_lowest_3 : decode cX11_lowest 3 = .ok (.lload_n 2, 1) := by decide +kernel
theorem dX11_lowest_4 : decode cX11_lowest 4 = .ok (.lstore 7, 2) := by decide +kernel
theorem dX11_lowest_6 : decode cX11_lowest 6 = .ok (.lload 7, 2) := by decide +kernel
theorem dX11_lowest_8 : decode cX11_lowest 8 = .ok (.lconst 0, 1) := by decide +kernel
theorem dX11_lowest_9 : decode cX11_lowest 9 = .ok (.lcmp, 1) := by decide +kernel
theorem dX11_lowest_10 : decode cX11_lowest 10 = .ok (.ifCond .eq 21, 3) := by decide +kernel
theorem dX11_lowest_13 : decode cX11_lowest 13 = .ok (.lload 5, 2) := by decide +kernel
theorem dX11_lowest_15 : decode cX11_lowest 15 = .ok (.lload 7, 2) := by decide +kernel
theorem dX11_lowest_17 : decode cX11_lowest 17 = .ok (.lrem, 1) := by decide +kernel
theorem dX11_lowest_18 : decode cX11_lowest 18 = .ok (.lstore 9, 2) := by decide +kernel
theorem dX11_lowest_20 : decode cX11_lowest 20 = .ok (.lload 7, 2) := by decide +kernel
theorem dX11_lowest_22 : decode cX11_lowest 22 = .ok (.lstore 5, 2) := by decide +kernel
theorem dX11_lowest_24 : decode cX11_lowest 24 = .ok (.lload 9, 2) := by decide +kernel
theorem dX11_lowest_26 : decode cX11_lowest 26 = .ok (.lstore 7, 2) := by decide +kernel
theorem dX11_lowest_28 : decode cX11_lowest 28 = .ok (.goto (-22), 3) := by decide +kernel
theorem dX11_lowest_31 : decode cX11_lowest 31 = .ok (.iload 4, 2) := by decide +kernel
theorem dX11_lowest_33 : decode cX11_lowest 33 = .ok (.ifCond .ne 7, 3) := by decide +kernel
theorem dX11_lowest_36 : decode cX11_lowest 36 = .ok (.lload_n 0, 1) := by decide +kernel
theorem dX11_lowest_37 : decode cX11_lowest 37 = .ok (.goto 4, 3) := by decide +kernel
theorem dX11_lowest_40 : decode cX11_lowest 40 = .ok (.lload_n 2, 1) := by decide +kernel
theorem dX11_lowest_41 : decode cX11_lowest 41 = .ok (.lload 5, 2) := by decide +kernel
theorem dX11_lowest_43 : decode cX11_lowest 43 = .ok (.ldiv, 1) := by decide +kernel
theorem dX11_lowest_44 : decode cX11_lowest 44 = .ok (.lreturn, 1) := by decide +kernel
theorem dX11_odds_0 : decode cX11_odds 0 = .ok (.aload_n 0, 1) := by decide +kernel
theorem dX11_odds_1 : decode cX11_odds 1 = .ok (.iload_n 1, 1) := by decide +kernel
theorem dX11_odds_2 : decode cX11_odds 2 = .ok (.invokevirtual 160, 3) := by decide +kernel
theorem dX11_odds_5 : decode cX11_odds 5 = .ok (.ifCond .eq 33, 3) := by decide +kernel
theorem dX11_odds_8 : decode cX11_odds 8 = .ok (.iload_n 2, 1) := by decide +kernel
theorem dX11_odds_9 : decode cX11_odds 9 = .ok (.iconst 0, 1) := by decide +kernel
theorem dX11_odds_10 : decode cX11_odds 10 = .ok (.bipush 9, 2) := by decide +kernel
theorem dX11_odds_12 : decode cX11_odds 12 = .ok (.invokestatic 47, 3) := by decide +kernel
theorem dX11_odds_15 : decode cX11_odds 15 = .ok (.ifCond .eq 23, 3) := by decide +kernel
theorem dX11_odds_18 : decode cX11_odds 18 = .ok (.iload_n 3, 1) := by decide +kernel
theorem dX11_odds_19 : decode cX11_odds 19 = .ok (.iconst 0, 1) := by decide +kernel
theorem dX11_odds_20 : decode cX11_odds 20 = .ok (.iconst 1, 1) := by decide +kernel
theorem dX11_odds_21 : decode cX11_odds 21 = .ok (.invokestatic 47, 3) := by decide +kernel
theorem dX11_odds_24 : decode cX11_odds 24 = .ok (.ifCond .eq 14, 3) := by decide +kernel
theorem dX11_odds_27 : decode cX11_odds 27 = .ok (.aload_n 0, 1) := by decide +kernel
theorem dX11_odds_28 : decode cX11_odds 28 = .ok (.getfield 9, 3) := by decide +kernel
theorem dX11_odds_31 : decode cX11_odds 31 = .ok (.bipush 18, 2) := by decide +kernel
theorem dX11_odds_33 : decode cX11_odds 33 = .ok (.iaload, 1) := by decide +kernel
theorem dX11_odds_34 : decode cX11_odds 34 = .ok (.iconst 1, 1) := by decide +kernel
theorem dX11_odds_35 : decode cX11_odds 35 = .ok (.if_icmp .ne 7, 3) := by decide +kernel
theorem dX11_odds_38 : decode cX11_odds 38 = .ok (.ldc2_w 200, 3) := by decide +kernel
theorem dX11_odds_41 : decode cX11_odds 41 = .ok (.lreturn, 1) := by decide +kernel
theorem dX11_odds_42 : decode cX11_odds 42 = .ok (.lconst 0, 1) := by decide +kernel
theorem dX11_odds_43 : decode cX11_odds 43 = .ok (.lstore 4, 2) := by decide +kernel
theorem dX11_odds_45 : decode cX11_odds 45 = .ok (.aload_n 0, 1) := by decide +kernel
theorem dX11_odds_46 : decode cX11_odds 46 = .ok (.invokevirtual 203, 3) := by decide +kernel
theorem dX11_odds_49 : decode cX11_odds 49 = .ok (.iconst 0, 1) := by decide +kernel
theorem dX11_odds_50 : decode cX11_odds 50 = .ok (.istore 6, 2) := by decide +kernel
theorem dX11_odds_52 : decode cX11_odds 52 = .ok (.iload 6, 2) := by decide +kernel
theorem dX11_odds_54 : decode cX11_odds 54 = .ok (.aload_n 0, 1) := by decide +kernel
theorem dX11_odds_55 : decode cX11_odds 55 = .ok (.getfield 9, 3) := by decide +kernel
theorem dX11_odds_58 : decode cX11_odds 58 = .ok (.bipush 18, 2) := by decide +kernel
theorem dX11_odds_60 : decode cX11_odds 60 = .ok (.iaload, 1) := by decide +kernel
theorem dX11_odds_61 : decode cX11_odds 61 = .ok (.if_icmp .ge 49, 3) := by decide +kernel
theorem dX11_odds_64 : decode cX11_odds 64 = .ok (.iload 6, 2) := by decide +kernel
theorem dX11_odds_66 : decode cX11_odds 66 = .ok (.iload_n 1, 1) := by decide +kernel
theorem dX11_odds_67 : decode cX11_odds 67 = .ok (.if_icmp .eq 37, 3) := by decide +kernel
theorem dX11_odds_70 : decode cX11_odds 70 = .ok (.aload_n 0, 1) := by decide +kernel
theorem dX11_odds_71 : decode cX11_odds 71 = .ok (.iload 6, 2) := by decide +kernel
theorem dX11_odds_73 : decode cX11_odds 73 = .ok (.iload_n 2, 1) := by decide +kernel
theorem dX11_odds_74 : decode cX11_odds 74 = .ok (.invokevirtual 172, 3) := by decide +kernel
theorem dX11_odds_77 : decode cX11_odds 77 = .ok (.aload_n 0, 1) := by decide +kernel
theorem dX11_odds_78 : decode cX11_odds 78 = .ok (.invokevirtual 206, 3) := by decide +kernel
theorem dX11_odds_81 : decode cX11_odds 81 = .ok (.pop, 1) := by decide +kernel
theorem dX11_odds_82 : decode cX11_odds 82 = .ok (.lload 4, 2) := by decide +kernel
theorem dX11_odds_84 : decode cX11_odds 84 = .ok (.aload_n 0, 1) := by decide +kernel
theorem dX11_odds_85 : decode cX11_odds 85 = .ok (.iload_n 1, 1) := by decide +kernel
theorem dX11_odds_86 : decode cX11_odds 86 = .ok (.invokevirtual 129, 3) := by decide +kernel
theorem dX11_odds_89 : decode cX11_odds 89 = .ok (.ifCond .eq 7, 3) := by decide +kernel
theorem dX11_odds_92 : decode cX11_odds 92 = .ok (.lconst 1, 1) := by decide +kernel
theorem dX11_odds_93 : decode cX11_odds 93 = .ok (.goto 4, 3) := by decide +kernel
theorem dX11_odds_96 : decode cX11_odds 96 = .ok (.lconst 0, 1) := by decide +kernel
theorem dX11_odds_97 : decode cX11_odds 97 = .ok (.ladd, 1) := by decide +kernel
theorem dX11_odds_98 : decode cX11_odds 98 = .ok (.lstore 4, 2) := by decide +kernel
theorem dX11_odds_100 : decode cX11_odds 100 = .ok (.aload_n 0, 1) := by decide +kernel
theorem dX11_odds_101 : decode cX11_odds 101 = .ok (.invokevirtual 209, 3) := by decide +kernel
theorem dX11_odds_104 : decode cX11_odds 104 = .ok (.iinc 6 1, 3) := by decide +kernel
theorem dX11_odds_107 : decode cX11_odds 107 = .ok (.goto (-55), 3) := by decide +kernel
theorem dX11_odds_110 : decode cX11_odds 110 = .ok (.lload 4, 2) := by decide +kernel
theorem dX11_odds_112 : decode cX11_odds 112 = .ok (.aload_n 0, 1) := by decide +kernel
theorem dX11_odds_113 : decode cX11_odds 113 = .ok (.getfield 9, 3) := by decide +kernel
theorem dX11_odds_116 : decode cX11_odds 116 = .ok (.bipush 18, 2) := by decide +kernel
theorem dX11_odds_118 : decode cX11_odds 118 = .ok (.iaload, 1) := by decide +kernel
theorem dX11_odds_119 : decode cX11_odds 119 = .ok (.i2l, 1) := by decide +kernel
theorem dX11_odds_120 : decode cX11_odds 120 = .ok (.lconst 1, 1) := by decide +kernel
theorem dX11_odds_121 : decode cX11_odds 121 = .ok (.lsub, 1) := by decide +kernel
theorem dX11_odds_122 : decode cX11_odds 122 = .ok (.iload_n 3, 1) := by decide +kernel
theorem dX11_odds_123 : decode cX11_odds 123 = .ok (.invokestatic 231, 3) := by decide +kernel
theorem dX11_odds_126 : decode cX11_odds 126 = .ok (.lreturn, 1) := by decide +kernel
theorem dX11_mean_0 : decode cX11_mean 0 = .ok (.iload_n 1, 1) := by decide +kernel
theorem dX11_mean_1 : decode cX11_mean 1 = .ok (.iconst 0, 1) := by decide +kernel
theorem dX11_mean_2 : decode cX11_mean 2 = .ok (.bipush 9, 2) := by decide +kernel
theorem dX11_mean_4 : decode cX11_mean 4 = .ok (.invokestatic 47, 3) := by decide +kernel
theorem dX11_mean_7 : decode cX11_mean 7 = .ok (.ifCond .eq 22, 3) := by decide +kernel
theorem dX11_mean_10 : decode cX11_mean 10 = .ok (.iload_n 2, 1) := by decide +kernel
theorem dX11_mean_11 : decode cX11_mean 11 = .ok (.iconst 0, 1) := by decide +kernel
theorem dX11_mean_12 : decode cX11_mean 12 = .ok (.iconst 1, 1) := by decide +kernel
theorem dX11_mean_13 : decode cX11_mean 13 = .ok (.invokestatic 47, 3) := by decide +kernel
theorem dX11_mean_16 : decode cX11_mean 16 = .ok (.ifCond .eq 13, 3) := by decide +kernel
theorem dX11_mean_19 : decode cX11_mean 19 = .ok (.aload_n 0, 1) := by decide +kernel
theorem dX11_mean_20 : decode cX11_mean 20 = .ok (.getfield 9, 3) := by decide +kernel
theorem dX11_mean_23 : decode cX11_mean 23 = .ok (.bipush 18, 2) := by decide +kernel
theorem dX11_mean_25 : decode cX11_mean 25 = .ok (.iaload, 1) := by decide +kernel
theorem dX11_mean_26 : decode cX11_mean 26 = .ok (.ifCond .ne 7, 3) := by decide +kernel
theorem dX11_mean_29 : decode cX11_mean 29 = .ok (.ldc2_w 200, 3) := by decide +kernel
theorem dX11_mean_32 : decode cX11_mean 32 = .ok (.lreturn, 1) := by decide +kernel
theorem dX11_mean_33 : decode cX11_mean 33 = .ok (.lconst 0, 1) := by decide +kernel
theorem dX11_mean_34 : decode cX11_mean 34 = .ok (.lstore_n 3, 1) := by decide +kernel
theorem dX11_mean_35 : decode cX11_mean 35 = .ok (.aload_n 0, 1) := by decide +kernel
theorem dX11_mean_36 : decode cX11_mean 36 = .ok (.invokevirtual 203, 3) := by decide +kernel
theorem dX11_mean_39 : decode cX11_mean 39 = .ok (.iconst 0, 1) := by decide +kernel
theorem dX11_mean_40 : decode cX11_mean 40 = .ok (.istore 5, 2) := by decide +kernel
theorem dX11_mean_42 : decode cX11_mean 42 = .ok (.iload 5, 2) := by decide +kernel
theorem dX11_mean_44 : decode cX11_mean 44 = .ok (.aload_n 0, 1) := by decide +kernel
theorem dX11_mean_45 : decode cX11_mean 45 = .ok (.getfield 9, 3) := by decide +kernel
theorem dX11_mean_48 : decode cX11_mean 48 = .ok (.bipush 18, 2) := by decide +kernel
theorem dX11_mean_50 : decode cX11_mean 50 = .ok (.iaload, 1) := by decide +kernel
theorem dX11_mean_51 : decode cX11_mean 51 = .ok (.if_icmp .ge 35, 3) := by decide +kernel
theorem dX11_mean_54 : decode cX11_mean 54 = .ok (.aload_n 0, 1) := by decide +kernel
theorem dX11_mean_55 : decode cX11_mean 55 = .ok (.iload 5, 2) := by decide +kernel
theorem dX11_mean_57 : decode cX11_mean 57 = .ok (.iload_n 1, 1) := by decide +kernel
theorem dX11_mean_58 : decode cX11_mean 58 = .ok (.invokevirtual 172, 3) := by decide +kernel
theorem dX11_mean_61 : decode cX11_mean 61 = .ok (.aload_n 0, 1) := by decide +kernel
theorem dX11_mean_62 : decode cX11_mean 62 = .ok (.invokevirtual 206, 3) := by decide +kernel
theorem dX11_mean_65 : decode cX11_mean 65 = .ok (.pop, 1) := by decide +kernel
theorem dX11_mean_66 : decode cX11_mean 66 = .ok (.lload_n 3, 1) := by decide +kernel
theorem dX11_mean_67 : decode cX11_mean 67 = .ok (.aload_n 0, 1) := by decide +kernel
theorem dX11_mean_68 : decode cX11_mean 68 = .ok (.getfield 9, 3) := by decide +kernel
theorem dX11_mean_71 : decode cX11_mean 71 = .ok (.iconst 1, 1) := by decide +kernel
theorem dX11_mean_72 : decode cX11_mean 72 = .ok (.iaload, 1) := by decide +kernel
theorem dX11_mean_73 : decode cX11_mean 73 = .ok (.i2l, 1) := by decide +kernel
theorem dX11_mean_74 : decode cX11_mean 74 = .ok (.ladd, 1) := by decide +kernel
theorem dX11_mean_75 : decode cX11_mean 75 = .ok (.lstore_n 3, 1) := by decide +kernel
theorem dX11_mean_76 : decode cX11_mean 76 = .ok (.aload_n 0, 1) := by decide +kernel
theorem dX11_mean_77 : decode cX11_mean 77 = .ok (.invokevirtual 209, 3) := by decide +kernel
theorem dX11_mean_80 : decode cX11_mean 80 = .ok (.iinc 5 1, 3) := by decide +kernel
theorem dX11_mean_83 : decode cX11_mean 83 = .ok (.goto (-41), 3) := by decide +kernel
theorem dX11_mean_86 : decode cX11_mean 86 = .ok (.lload_n 3, 1) := by decide +kernel
theorem dX11_mean_87 : decode cX11_mean 87 = .ok (.aload_n 0, 1) := by decide +kernel
theorem dX11_mean_88 : decode cX11_mean 88 = .ok (.getfield 9, 3) := by decide +kernel
theorem dX11_mean_91 : decode cX11_mean 91 = .ok (.bipush 18, 2) := by decide +kernel
theorem dX11_mean_93 : decode cX11_mean 93 = .ok (.iaload, 1) := by decide +kernel
theorem dX11_mean_94 : decode cX11_mean 94 = .ok (.i2l, 1) := by decide +kernel
theorem dX11_mean_95 : decode cX11_mean 95 = .ok (.iload_n 2, 1) := by decide +kernel
theorem dX11_mean_96 : decode cX11_mean 96 = .ok (.invokestatic 231, 3) := by decide +kernel
theorem dX11_mean_99 : decode cX11_mean 99 = .ok (.lreturn, 1) := by decide +kernel
theorem dX11_book_0 : decode cX11_book 0 = .ok (.iload_n 1, 1) := by decide +kernel
theorem dX11_book_1 : decode cX11_book 1 = .ok (.iconst (-1), 1) := by decide +kernel
theorem dX11_book_2 : decode cX11_book 2 = .ok (.if_icmp .ne 13, 3) := by decide +kernel
theorem dX11_book_5 : decode cX11_book 5 = .ok (.aload_n 0, 1) := by decide +kernel
theorem dX11_book_6 : decode cX11_book 6 = .ok (.getfield 9, 3) := by decide +kernel
theorem dX11_book_9 : decode cX11_book 9 = .ok (.bipush 21, 2) := by decide +kernel
theorem dX11_book_11 : decode cX11_book 11 = .ok (.iconst 0, 1) := by decide +kernel
theorem dX11_book_12 : decode cX11_book 12 = .ok (.iastore, 1) := by decide +kernel
theorem dX11_book_13 : decode cX11_book 13 = .ok (.iconst 0, 1) := by decide +kernel
theorem dX11_book_14 : decode cX11_book 14 = .ok (.ireturn, 1) := by decide +kernel
theorem dX11_book_15 : decode cX11_book 15 = .ok (.aload_n 0, 1) := by decide +kernel
theorem dX11_book_16 : decode cX11_book 16 = .ok (.iload_n 1, 1) := by decide +kernel
theorem dX11_book_17 : decode cX11_book 17 = .ok (.invokevirtual 160, 3) := by decide +kernel
theorem dX11_book_20 : decode cX11_book 20 = .ok (.ifCond .ne 5, 3) := by decide +kernel
theorem dX11_book_23 : decode cX11_book 23 = .ok (.iconst (-1), 1) := by decide +kernel
theorem dX11_book_24 : decode cX11_book 24 = .ok (.ireturn, 1) := by decide +kernel
theorem dX11_book_25 : decode cX11_book 25 = .ok (.iload_n 2, 1) := by decide +kernel
theorem dX11_book_26 : decode cX11_book 26 = .ok (.iconst 0, 1) := by decide +kernel
theorem dX11_book_27 : decode cX11_book 27 = .ok (.sipush 999, 3) := by decide +kernel
theorem dX11_book_30 : decode cX11_book 30 = .ok (.invokestatic 47, 3) := by decide +kernel
theorem dX11_book_33 : decode cX11_book 33 = .ok (.ifCond .ne 6, 3) := by decide +kernel
theorem dX11_book_36 : decode cX11_book 36 = .ok (.bipush (-2), 2) := by decide +kernel
theorem dX11_book_38 : decode cX11_book 38 = .ok (.ireturn, 1) := by decide +kernel
theorem dX11_book_39 : decode cX11_book 39 = .ok (.aload_n 0, 1) := by decide +kernel
theorem dX11_book_40 : decode cX11_book 40 = .ok (.getfield 9, 3) := by decide +kernel
theorem dX11_book_43 : decode cX11_book 43 = .ok (.bipush 21, 2) := by decide +kernel
theorem dX11_book_45 : decode cX11_book 45 = .ok (.iaload, 1) := by decide +kernel
theorem dX11_book_46 : decode cX11_book 46 = .ok (.bipush 8, 2) := by decide +kernel
theorem dX11_book_48 : decode cX11_book 48 = .ok (.if_icmp .ne 6, 3) := by decide +kernel
theorem dX11_book_51 : decode cX11_book 51 = .ok (.bipush (-4), 2) := by decide +kernel
theorem dX11_book_53 : decode cX11_book 53 = .ok (.ireturn, 1) := by decide +kernel
theorem dX11_book_54 : decode cX11_book 54 = .ok (.aload_n 0, 1) := by decide +kernel
theorem dX11_book_55 : decode cX11_book 55 = .ok (.getfield 9, 3) := by decide +kernel
theorem dX11_book_58 : decode cX11_book 58 = .ok (.bipush 113, 2) := by decide +kernel
theorem dX11_book_60 : decode cX11_book 60 = .ok (.aload_n 0, 1) := by decide +kernel
theorem dX11_book_61 : decode cX11_book 61 = .ok (.getfield 9, 3) := by decide +kernel
theorem dX11_book_64 : decode cX11_book 64 = .ok (.bipush 21, 2) := by decide +kernel
theorem dX11_book_66 : decode cX11_book 66 = .ok (.iaload, 1) := by decide +kernel
theorem dX11_book_67 : decode cX11_book 67 = .ok (.iadd, 1) := by decide +kernel
theorem dX11_book_68 : decode cX11_book 68 = .ok (.iload_n 1, 1) := by decide +kernel
theorem dX11_book_69 : decode cX11_book 69 = .ok (.iastore, 1) := by decide +kernel
theorem dX11_book_70 : decode cX11_book 70 = .ok (.aload_n 0, 1) := by decide +kernel
theorem dX11_book_71 : decode cX11_book 71 = .ok (.getfield 9, 3) := by decide +kernel
theorem dX11_book_74 : decode cX11_book 74 = .ok (.bipush 121, 2) := by decide +kernel
theorem dX11_book_76 : decode cX11_book 76 = .ok (.aload_n 0, 1) := by decide +kernel
theorem dX11_book_77 : decode cX11_book 77 = .ok (.getfield 9, 3) := by decide +kernel
theorem dX11_book_80 : decode cX11_book 80 = .ok (.bipush 21, 2) := by decide +kernel
theorem dX11_book_82 : decode cX11_book 82 = .ok (.iaload, 1) := by decide +kernel
theorem dX11_book_83 : decode cX11_book 83 = .ok (.iadd, 1) := by decide +kernel
theorem dX11_book_84 : decode cX11_book 84 = .ok (.iload_n 2, 1) := by decide +kernel
theorem dX11_book_85 : decode cX11_book 85 = .ok (.iastore, 1) := by decide +kernel
theorem dX11_book_86 : decode cX11_book 86 = .ok (.aload_n 0, 1) := by decide +kernel
theorem dX11_book_87 : decode cX11_book 87 = .ok (.getfield 9, 3) := by decide +kernel
theorem dX11_book_90 : decode cX11_book 90 = .ok (.bipush 21, 2) := by decide +kernel
theorem dX11_book_92 : decode cX11_book 92 = .ok (.dup2, 1) := by decide +kernel
theorem dX11_book_93 : decode cX11_book 93 = .ok (.iaload, 1) := by decide +kernel
theorem dX11_book_94 : decode cX11_book 94 = .ok (.iconst 1, 1) := by decide +kernel
theorem dX11_book_95 : decode cX11_book 95 = .ok (.iadd, 1) := by decide +kernel
theorem dX11_book_96 : decode cX11_book 96 = .ok (.iastore, 1) := by decide +kernel
theorem dX11_book_97 : decode cX11_book 97 = .ok (.aload_n 0, 1) := by decide +kernel
theorem dX11_book_98 : decode cX11_book 98 = .ok (.getfield 9, 3) := by decide +kernel
theorem dX11_book_101 : decode cX11_book 101 = .ok (.bipush 21, 2) := by decide +kernel
theorem dX11_book_103 : decode cX11_book 103 = .ok (.iaload, 1) := by decide +kernel
theorem dX11_book_104 : decode cX11_book 104 = .ok (.ireturn, 1) := by decide +kernel
theorem dX11_looked_0 : decode cX11_looked 0 = .ok (.iconst 0, 1) := by decide +kernel
theorem dX11_looked_1 : decode cX11_looked 1 = .ok (.istore_n 1, 1) := by decide +kernel
theorem dX11_looked_2 : decode cX11_looked 2 = .ok (.iload_n 1, 1) := by decide +kernel
theorem dX11_looked_3 : decode cX11_looked 3 = .ok (.aload_n 0, 1) := by decide +kernel
theorem dX11_looked_4 : decode cX11_looked 4 = .ok (.getfield 9, 3) := by decide +kernel
theorem dX11_looked_7 : decode cX11_looked 7 = .ok (.bipush 21, 2) := by decide +kernel
theorem dX11_looked_9 : decode cX11_looked 9 = .ok (.iaload, 1) := by decide +kernel
theorem dX11_looked_10 : decode cX11_looked 10 = .ok (.if_icmp .ge 50, 3) := by decide +kernel
theorem dX11_looked_13 : decode cX11_looked 13 = .ok (.aload_n 0, 1) := by decide +kernel
theorem dX11_looked_14 : decode cX11_looked 14 = .ok (.getfield 9, 3) := by decide +kernel
theorem dX11_looked_17 : decode cX11_looked 17 = .ok (.bipush 113, 2) := by decide +kernel
theorem dX11_looked_19 : decode cX11_looked 19 = .ok (.iload_n 1, 1) := by decide +kernel
theorem dX11_looked_20 : decode cX11_looked 20 = .ok (.iadd, 1) := by decide +kernel
theorem dX11_looked_21 : decode cX11_looked 21 = .ok (.iaload, 1) := by decide +kernel
theorem dX11_looked_22 : decode cX11_looked 22 = .ok (.istore_n 2, 1) := by decide +kernel
theorem dX11_looked_23 : decode cX11_looked 23 = .ok (.aload_n 0, 1) := by decide +kernel
theorem dX11_looked_24 : decode cX11_looked 24 = .ok (.iload_n 2, 1) := by decide +kernel
theorem dX11_looked_25 : decode cX11_looked 25 = .ok (.invokevirtual 129, 3) := by decide +kernel
theorem dX11_looked_28 : decode cX11_looked 28 = .ok (.ifCond .eq 24, 3) := by decide +kernel
theorem dX11_looked_31 : decode cX11_looked 31 = .ok (.aload_n 0, 1) := by decide +kernel
theorem dX11_looked_32 : decode cX11_looked 32 = .ok (.getfield 9, 3) := by decide +kernel
theorem dX11_looked_35 : decode cX11_looked 35 = .ok (.bipush 11, 2) := by decide +kernel
theorem dX11_looked_37 : decode cX11_looked 37 = .ok (.iload_n 2, 1) := by decide +kernel
theorem dX11_looked_38 : decode cX11_looked 38 = .ok (.iadd, 1) := by decide +kernel
theorem dX11_looked_39 : decode cX11_looked 39 = .ok (.iaload, 1) := by decide +kernel
theorem dX11_looked_40 : decode cX11_looked 40 = .ok (.aload_n 0, 1) := by decide +kernel
theorem dX11_looked_41 : decode cX11_looked 41 = .ok (.getfield 9, 3) := by decide +kernel
theorem dX11_looked_44 : decode cX11_looked 44 = .ok (.bipush 121, 2) := by decide +kernel
theorem dX11_looked_46 : decode cX11_looked 46 = .ok (.iload_n 1, 1) := by decide +kernel
theorem dX11_looked_47 : decode cX11_looked 47 = .ok (.iadd, 1) := by decide +kernel
theorem dX11_looked_48 : decode cX11_looked 48 = .ok (.iaload, 1) := by decide +kernel
theorem dX11_looked_49 : decode cX11_looked 49 = .ok (.if_icmp .eq 5, 3) := by decide +kernel
theorem dX11_looked_52 : decode cX11_looked 52 = .ok (.iload_n 1, 1) := by decide +kernel
theorem dX11_looked_53 : decode cX11_looked 53 = .ok (.ireturn, 1) := by decide +kernel
theorem dX11_looked_54 : decode cX11_looked 54 = .ok (.iinc 1 1, 3) := by decide +kernel
theorem dX11_looked_57 : decode cX11_looked 57 = .ok (.goto (-55), 3) := by decide +kernel
theorem dX11_looked_60 : decode cX11_looked 60 = .ok (.bipush (-5), 2) := by decide +kernel
theorem dX11_looked_62 : decode cX11_looked 62 = .ok (.ireturn, 1) := by decide +kernel
theorem dX11_ranBody_0 : decode cX11_ranBody 0 = .ok (.aload_n 0, 1) := by decide +kernel
theorem dX11_ranBody_1 : decode cX11_ranBody 1 = .ok (.getfield 235, 3) := by decide +kernel
theorem dX11_ranBody_4 : decode cX11_ranBody 4 = .ok (.bipush 20, 2) := by decide +kernel
theorem dX11_ranBody_6 : decode cX11_ranBody 6 = .ok (.if_icmp .ge 13, 3) := by decide +kernel
theorem dX11_ranBody_9 : decode cX11_ranBody 9 = .ok (.aload_n 0, 1) := by decide +kernel
theorem dX11_ranBody_10 : decode cX11_ranBody 10 = .ok (.getfield 41, 3) := by decide +kernel
theorem dX11_ranBody_13 : decode cX11_ranBody 13 = .ok (.aload_n 0, 1) := by decide +kernel
theorem dX11_ranBody_14 : decode cX11_ranBody 14 = .ok (.getfield 235, 3) := by decide +kernel
theorem dX11_ranBody_17 : decode cX11_ranBody 17 = .ok (.iload_n 1, 1) := by decide +kernel
theorem dX11_ranBody_18 : decode cX11_ranBody 18 = .ok (.iastore, 1) := by decide +kernel
theorem dX11_ranBody_19 : decode cX11_ranBody 19 = .ok (.aload_n 0, 1) := by decide +kernel
theorem dX11_ranBody_20 : decode cX11_ranBody 20 = .ok (.dup, 1) := by decide +kernel
theorem dX11_ranBody_21 : decode cX11_ranBody 21 = .ok (.getfield 235, 3) := by decide +kernel
theorem dX11_ranBody_24 : decode cX11_ranBody 24 = .ok (.iconst 1, 1) := by decide +kernel
theorem dX11_ranBody_25 : decode cX11_ranBody 25 = .ok (.iadd, 1) := by decide +kernel
theorem dX11_ranBody_26 : decode cX11_ranBody 26 = .ok (.putfield 235, 3) := by decide +kernel
theorem dX11_ranBody_29 : decode cX11_ranBody 29 = .ok (.return_, 1) := by decide +kernel
theorem dX11_isUnder_0 : decode cX11_isUnder 0 = .ok (.iload_n 1, 1) := by decide +kernel
theorem dX11_isUnder_1 : decode cX11_isUnder 1 = .ok (.ifCond .eq 24, 3) := by decide +kernel
theorem dX11_isUnder_4 : decode cX11_isUnder 4 = .ok (.iload_n 1, 1) := by decide +kernel
theorem dX11_isUnder_5 : decode cX11_isUnder 5 = .ok (.iload_n 0, 1) := by decide +kernel
theorem dX11_isUnder_6 : decode cX11_isUnder 6 = .ok (.if_icmp .eq 19, 3) := by decide +kernel
theorem dX11_isUnder_9 : decode cX11_isUnder 9 = .ok (.iload_n 1, 1) := by decide +kernel
theorem dX11_isUnder_10 : decode cX11_isUnder 10 = .ok (.ifCond .le 19, 3) := by decide +kernel
theorem dX11_isUnder_13 : decode cX11_isUnder 13 = .ok (.iload_n 1, 1) := by decide +kernel
theorem dX11_isUnder_14 : decode cX11_isUnder 14 = .ok (.iconst 4, 1) := by decide +kernel
theorem dX11_isUnder_15 : decode cX11_isUnder 15 = .ok (.if_icmp .ge 14, 3) := by decide +kernel
theorem dX11_isUnder_18 : decode cX11_isUnder 18 = .ok (.iload_n 0, 1) := by decide +kernel
theorem dX11_isUnder_19 : decode cX11_isUnder 19 = .ok (.iload_n 1, 1) := by decide +kernel
theorem dX11_isUnder_20 : decode cX11_isUnder 20 = .ok (.iconst 3, 1) := by decide +kernel
theorem dX11_isUnder_21 : decode cX11_isUnder 21 = .ok (.iadd, 1) := by decide +kernel
theorem dX11_isUnder_22 : decode cX11_isUnder 22 = .ok (.if_icmp .ne 7, 3) := by decide +kernel
theorem dX11_isUnder_25 : decode cX11_isUnder 25 = .ok (.iconst 1, 1) := by decide +kernel
theorem dX11_isUnder_26 : decode cX11_isUnder 26 = .ok (.goto 4, 3) := by decide +kernel
theorem dX11_isUnder_29 : decode cX11_isUnder 29 = .ok (.iconst 0, 1) := by decide +kernel
theorem dX11_isUnder_30 : decode cX11_isUnder 30 = .ok (.ireturn, 1) := by decide +kernel
theorem dX11_plainHears_0 : decode cX11_plainHears 0 = .ok (.aload_n 0, 1) := by decide +kernel
theorem dX11_plainHears_1 : decode cX11_plainHears 1 = .ok (.iconst 1, 1) := by decide +kernel
theorem dX11_plainHears_2 : decode cX11_plainHears 2 = .ok (.invokevirtual 238, 3) := by decide +kernel
theorem dX11_plainHears_5 : decode cX11_plainHears 5 = .ok (.iload_n 1, 1) := by decide +kernel
theorem dX11_plainHears_6 : decode cX11_plainHears 6 = .ok (.aload_n 0, 1) := by decide +kernel
theorem dX11_plainHears_7 : decode cX11_plainHears 7 = .ok (.getfield 241, 3) := by decide +kernel
theorem dX11_plainHears_10 : decode cX11_plainHears 10 = .ok (.iadd, 1) := by decide +kernel
theorem dX11_plainHears_11 : decode cX11_plainHears 11 = .ok (.ireturn, 1) := by decide +kernel
theorem dX11_hearsActs_0 : decode cX11_hearsActs 0 = .ok (.aload_n 0, 1) := by decide +kernel
theorem dX11_hearsActs_1 : decode cX11_hearsActs 1 = .ok (.getfield 244, 3) := by decide +kernel
theorem dX11_hearsActs_4 : decode cX11_hearsActs 4 = .ok (.iconst 1, 1) := by decide +kernel
theorem dX11_hearsActs_5 : decode cX11_hearsActs 5 = .ok (.invokestatic 247, 3) := by decide +kernel
theorem dX11_hearsActs_8 : decode cX11_hearsActs 8 = .ok (.ifCond .eq 17, 3) := by decide +kernel
theorem dX11_hearsActs_11 : decode cX11_hearsActs 11 = .ok (.aload_n 0, 1) := by decide +kernel
theorem dX11_hearsActs_12 : decode cX11_hearsActs 12 = .ok (.bipush 11, 2) := by decide +kernel
theorem dX11_hearsActs_14 : decode cX11_hearsActs 14 = .ok (.invokevirtual 238, 3) := by decide +kernel
theorem dX11_hearsActs_17 : decode cX11_hearsActs 17 = .ok (.aload_n 0, 1) := by decide +kernel
theorem dX11_hearsActs_18 : decode cX11_hearsActs 18 = .ok (.iload_n 1, 1) := by decide +kernel
theorem dX11_hearsActs_19 : decode cX11_hearsActs 19 = .ok (.iconst 3, 1) := by decide +kernel
theorem dX11_hearsActs_20 : decode cX11_hearsActs 20 = .ok (.imul, 1) := by decide +kernel
theorem dX11_hearsActs_21 : decode cX11_hearsActs 21 = .ok (.invokevirtual 251, 3) := by decide +kernel
theorem dX11_hearsActs_24 : decode cX11_hearsActs 24 = .ok (.ireturn, 1) := by decide +kernel
theorem dX11_hearsActs_25 : decode cX11_hearsActs 25 = .ok (.aload_n 0, 1) := by decide +kernel
theorem dX11_hearsActs_26 : decode cX11_hearsActs 26 = .ok (.getfield 244, 3) := by decide +kernel
theorem dX11_hearsActs_29 : decode cX11_hearsActs 29 = .ok (.iconst 5, 1) := by decide +kernel
theorem dX11_hearsActs_30 : decode cX11_hearsActs 30 = .ok (.if_icmp .ne 20, 3) := by decide +kernel
theorem dX11_hearsActs_33 : decode cX11_hearsActs 33 = .ok (.aload_n 0, 1) := by decide +kernel
theorem dX11_hearsActs_34 : decode cX11_hearsActs 34 = .ok (.bipush 51, 2) := by decide +kernel
theorem dX11_hearsActs_36 : decode cX11_hearsActs 36 = .ok (.invokevirtual 238, 3) := by decide +kernel
theorem dX11_hearsActs_39 : decode cX11_hearsActs 39 = .ok (.aload_n 0, 1) := by decide +kernel
theorem dX11_hearsActs_40 : decode cX11_hearsActs 40 = .ok (.iload_n 1, 1) := by decide +kernel
theorem dX11_hearsActs_41 : decode cX11_hearsActs 41 = .ok (.invokevirtual 251, 3) := by decide +kernel
theorem dX11_hearsActs_44 : decode cX11_hearsActs 44 = .ok (.aload_n 0, 1) := by decide +kernel
theorem dX11_hearsActs_45 : decode cX11_hearsActs 45 = .ok (.getfield 241, 3) := by decide +kernel
theorem dX11_hearsActs_48 : decode cX11_hearsActs 48 = .ok (.ixor, 1) := by decide +kernel
theorem dX11_hearsActs_49 : decode cX11_hearsActs 49 = .ok (.ireturn, 1) := by decide +kernel
theorem dX11_hearsActs_50 : decode cX11_hearsActs 50 = .ok (.aload_n 0, 1) := by decide +kernel
theorem dX11_hearsActs_51 : decode cX11_hearsActs 51 = .ok (.iload_n 1, 1) := by decide +kernel
theorem dX11_hearsActs_52 : decode cX11_hearsActs 52 = .ok (.invokevirtual 251, 3) := by decide +kernel
theorem dX11_hearsActs_55 : decode cX11_hearsActs 55 = .ok (.ireturn, 1) := by decide +kernel
theorem dX11_plainTells_0 : decode cX11_plainTells 0 = .ok (.aload_n 0, 1) := by decide +kernel
theorem dX11_plainTells_1 : decode cX11_plainTells 1 = .ok (.iconst 2, 1) := by decide +kernel
theorem dX11_plainTells_2 : decode cX11_plainTells 2 = .ok (.invokevirtual 238, 3) := by decide +kernel
theorem dX11_plainTells_5 : decode cX11_plainTells 5 = .ok (.aload_n 0, 1) := by decide +kernel
theorem dX11_plainTells_6 : decode cX11_plainTells 6 = .ok (.iload_n 1, 1) := by decide +kernel
theorem dX11_plainTells_7 : decode cX11_plainTells 7 = .ok (.invokevirtual 254, 3) := by decide +kernel
theorem dX11_plainTells_10 : decode cX11_plainTells 10 = .ok (.aload_n 0, 1) := by decide +kernel
theorem dX11_plainTells_11 : decode cX11_plainTells 11 = .ok (.getfield 257, 3) := by decide +kernel
theorem dX11_plainTells_14 : decode cX11_plainTells 14 = .ok (.isub, 1) := by decide +kernel
theorem dX11_plainTells_15 : decode cX11_plainTells 15 = .ok (.ireturn, 1) := by decide +kernel
theorem dX11_tellsActs_0 : decode cX11_tellsActs 0 = .ok (.aload_n 0, 1) := by decide +kernel
theorem dX11_tellsActs_1 : decode cX11_tellsActs 1 = .ok (.getfield 244, 3) := by decide +kernel
theorem dX11_tellsActs_4 : decode cX11_tellsActs 4 = .ok (.iconst 2, 1) := by decide +kernel
theorem dX11_tellsActs_5 : decode cX11_tellsActs 5 = .ok (.invokestatic 247, 3) := by decide +kernel
theorem dX11_tellsActs_8 : decode cX11_tellsActs 8 = .ok (.ifCond .eq 16, 3) := by decide +kernel
theorem dX11_tellsActs_11 : decode cX11_tellsActs 11 = .ok (.aload_n 0, 1) := by decide +kernel
theorem dX11_tellsActs_12 : decode cX11_tellsActs 12 = .ok (.bipush 21, 2) := by decide +kernel
theorem dX11_tellsActs_14 : decode cX11_tellsActs 14 = .ok (.invokevirtual 238, 3) := by decide +kernel
theorem dX11_tellsActs_17 : decode cX11_tellsActs 17 = .ok (.aload_n 0, 1) := by decide +kernel
theorem dX11_tellsActs_18 : decode cX11_tellsActs 18 = .ok (.iload_n 1, 1) := by decide +kernel
theorem dX11_tellsActs_19 : decode cX11_tellsActs 19 = .ok (.invokevirtual 260, 3) := by decide +kernel
theorem dX11_tellsActs_22 : decode cX11_tellsActs 22 = .ok (.ineg, 1) := by decide +kernel
theorem dX11_tellsActs_23 : decode cX11_tellsActs 23 = .ok (.ireturn, 1) := by decide +kernel
theorem dX11_tellsActs_24 : decode cX11_tellsActs 24 = .ok (.aload_n 0, 1) := by decide +kernel
theorem dX11_tellsActs_25 : decode cX11_tellsActs 25 = .ok (.getfield 244, 3) := by decide +kernel
theorem dX11_tellsActs_28 : decode cX11_tellsActs 28 = .ok (.bipush 6, 2) := by decide +kernel
theorem dX11_tellsActs_30 : decode cX11_tellsActs 30 = .ok (.if_icmp .ne 20, 3) := by decide +kernel
theorem dX11_tellsActs_33 : decode cX11_tellsActs 33 = .ok (.aload_n 0, 1) := by decide +kernel
theorem dX11_tellsActs_34 : decode cX11_tellsActs 34 = .ok (.bipush 61, 2) := by decide +kernel
theorem dX11_tellsActs_36 : decode cX11_tellsActs 36 = .ok (.invokevirtual 238, 3) := by decide +kernel
theorem dX11_tellsActs_39 : decode cX11_tellsActs 39 = .ok (.aload_n 0, 1) := by decide +kernel
theorem dX11_tellsActs_40 : decode cX11_tellsActs 40 = .ok (.iload_n 1, 1) := by decide +kernel
theorem dX11_tellsActs_41 : decode cX11_tellsActs 41 = .ok (.invokevirtual 260, 3) := by decide +kernel
theorem dX11_tellsActs_44 : decode cX11_tellsActs 44 = .ok (.aload_n 0, 1) := by decide +kernel
theorem dX11_tellsActs_45 : decode cX11_tellsActs 45 = .ok (.getfield 257, 3) := by decide +kernel
theorem dX11_tellsActs_48 : decode cX11_tellsActs 48 = .ok (.iadd, 1) := by decide +kernel
theorem dX11_tellsActs_49 : decode cX11_tellsActs 49 = .ok (.ireturn, 1) := by decide +kernel
theorem dX11_tellsActs_50 : decode cX11_tellsActs 50 = .ok (.aload_n 0, 1) := by decide +kernel
theorem dX11_tellsActs_51 : decode cX11_tellsActs 51 = .ok (.iload_n 1, 1) := by decide +kernel
theorem dX11_tellsActs_52 : decode cX11_tellsActs 52 = .ok (.invokevirtual 260, 3) := by decide +kernel
theorem dX11_tellsActs_55 : decode cX11_tellsActs 55 = .ok (.ireturn, 1) := by decide +kernel
theorem dX11_plainPays_0 : decode cX11_plainPays 0 = .ok (.aload_n 0, 1) := by decide +kernel
theorem dX11_plainPays_1 : decode cX11_plainPays 1 = .ok (.iconst 3, 1) := by decide +kernel
theorem dX11_plainPays_2 : decode cX11_plainPays 2 = .ok (.invokevirtual 238, 3) := by decide +kernel
theorem dX11_plainPays_5 : decode cX11_plainPays 5 = .ok (.aload_n 0, 1) := by decide +kernel
theorem dX11_plainPays_6 : decode cX11_plainPays 6 = .ok (.iload_n 1, 1) := by decide +kernel
theorem dX11_plainPays_7 : decode cX11_plainPays 7 = .ok (.invokevirtual 263, 3) := by decide +kernel
theorem dX11_plainPays_10 : decode cX11_plainPays 10 = .ok (.iconst 2, 1) := by decide +kernel
theorem dX11_plainPays_11 : decode cX11_plainPays 11 = .ok (.imul, 1) := by decide +kernel
theorem dX11_plainPays_12 : decode cX11_plainPays 12 = .ok (.ireturn, 1) := by decide +kernel
theorem dX11_paysActs_0 : decode cX11_paysActs 0 = .ok (.aload_n 0, 1) := by decide +kernel
theorem dX11_paysActs_1 : decode cX11_paysActs 1 = .ok (.getfield 244, 3) := by decide +kernel
theorem dX11_paysActs_4 : decode cX11_paysActs 4 = .ok (.iconst 3, 1) := by decide +kernel
theorem dX11_paysActs_5 : decode cX11_paysActs 5 = .ok (.invokestatic 247, 3) := by decide +kernel
theorem dX11_paysActs_8 : decode cX11_paysActs 8 = .ok (.ifCond .eq 18, 3) := by decide +kernel
theorem dX11_paysActs_11 : decode cX11_paysActs 11 = .ok (.aload_n 0, 1) := by decide +kernel
theorem dX11_paysActs_12 : decode cX11_paysActs 12 = .ok (.bipush 31, 2) := by decide +kernel
theorem dX11_paysActs_14 : decode cX11_paysActs 14 = .ok (.invokevirtual 238, 3) := by decide +kernel
theorem dX11_paysActs_17 : decode cX11_paysActs 17 = .ok (.aload_n 0, 1) := by decide +kernel
theorem dX11_paysActs_18 : decode cX11_paysActs 18 = .ok (.iload_n 1, 1) := by decide +kernel
theorem dX11_paysActs_19 : decode cX11_paysActs 19 = .ok (.invokevirtual 266, 3) := by decide +kernel
theorem dX11_paysActs_22 : decode cX11_paysActs 22 = .ok (.bipush 7, 2) := by decide +kernel
theorem dX11_paysActs_24 : decode cX11_paysActs 24 = .ok (.ixor, 1) := by decide +kernel
theorem dX11_paysActs_25 : decode cX11_paysActs 25 = .ok (.ireturn, 1) := by decide +kernel
theorem dX11_paysActs_26 : decode cX11_paysActs 26 = .ok (.aload_n 0, 1) := by decide +kernel
theorem dX11_paysActs_27 : decode cX11_paysActs 27 = .ok (.getfield 244, 3) := by decide +kernel
theorem dX11_paysActs_30 : decode cX11_paysActs 30 = .ok (.iconst 4, 1) := by decide +kernel
theorem dX11_paysActs_31 : decode cX11_paysActs 31 = .ok (.if_icmp .ne 25, 3) := by decide +kernel
theorem dX11_paysActs_34 : decode cX11_paysActs 34 = .ok (.aload_n 0, 1) := by decide +kernel
theorem dX11_paysActs_35 : decode cX11_paysActs 35 = .ok (.bipush 41, 2) := by decide +kernel
theorem dX11_paysActs_37 : decode cX11_paysActs 37 = .ok (.invokevirtual 238, 3) := by decide +kernel
theorem dX11_paysActs_40 : decode cX11_paysActs 40 = .ok (.aload_n 0, 1) := by decide +kernel
theorem dX11_paysActs_41 : decode cX11_paysActs 41 = .ok (.iload_n 1, 1) := by decide +kernel
theorem dX11_paysActs_42 : decode cX11_paysActs 42 = .ok (.iconst 1, 1) := by decide +kernel
theorem dX11_paysActs_43 : decode cX11_paysActs 43 = .ok (.isub, 1) := by decide +kernel
theorem dX11_paysActs_44 : decode cX11_paysActs 44 = .ok (.invokevirtual 266, 3) := by decide +kernel
theorem dX11_paysActs_47 : decode cX11_paysActs 47 = .ok (.istore_n 2, 1) := by decide +kernel
theorem dX11_paysActs_48 : decode cX11_paysActs 48 = .ok (.iload_n 2, 1) := by decide +kernel
theorem dX11_paysActs_49 : decode cX11_paysActs 49 = .ok (.aload_n 0, 1) := by decide +kernel
theorem dX11_paysActs_50 : decode cX11_paysActs 50 = .ok (.iconst 2, 1) := by decide +kernel
theorem dX11_paysActs_51 : decode cX11_paysActs 51 = .ok (.invokevirtual 254, 3) := by decide +kernel
theorem dX11_paysActs_54 : decode cX11_paysActs 54 = .ok (.iadd, 1) := by decide +kernel
theorem dX11_paysActs_55 : decode cX11_paysActs 55 = .ok (.ireturn, 1) := by decide +kernel
theorem dX11_paysActs_56 : decode cX11_paysActs 56 = .ok (.aload_n 0, 1) := by decide +kernel
theorem dX11_paysActs_57 : decode cX11_paysActs 57 = .ok (.iload_n 1, 1) := by decide +kernel
theorem dX11_paysActs_58 : decode cX11_paysActs 58 = .ok (.invokevirtual 266, 3) := by decide +kernel
theorem dX11_paysActs_61 : decode cX11_paysActs 61 = .ok (.ireturn, 1) := by decide +kernel
theorem dX11_act_0 : decode cX11_act 0 = .ok (.aload_n 0, 1) := by decide +kernel
theorem dX11_act_1 : decode cX11_act 1 = .ok (.iconst 0, 1) := by decide +kernel
theorem dX11_act_2 : decode cX11_act 2 = .ok (.putfield 235, 3) := by decide +kernel
theorem dX11_act_5 : decode cX11_act 5 = .ok (.aload_n 0, 1) := by decide +kernel
theorem dX11_act_6 : decode cX11_act 6 = .ok (.iload_n 1, 1) := by decide +kernel
theorem dX11_act_7 : decode cX11_act 7 = .ok (.invokevirtual 160, 3) := by decide +kernel
theorem dX11_act_10 : decode cX11_act 10 = .ok (.ifCond .eq 12, 3) := by decide +kernel
theorem dX11_act_13 : decode cX11_act 13 = .ok (.iload_n 2, 1) := by decide +kernel
theorem dX11_act_14 : decode cX11_act 14 = .ok (.iconst 0, 1) := by decide +kernel
theorem dX11_act_15 : decode cX11_act 15 = .ok (.iconst 2, 1) := by decide +kernel
theorem dX11_act_16 : decode cX11_act 16 = .ok (.invokestatic 47, 3) := by decide +kernel
theorem dX11_act_19 : decode cX11_act 19 = .ok (.ifCond .ne 5, 3) := by decide +kernel
theorem dX11_act_22 : decode cX11_act 22 = .ok (.iconst 0, 1) := by decide +kernel
theorem dX11_act_23 : decode cX11_act 23 = .ok (.ireturn, 1) := by decide +kernel
theorem dX11_act_24 : decode cX11_act 24 = .ok (.aload_n 0, 1) := by decide +kernel
theorem dX11_act_25 : decode cX11_act 25 = .ok (.aload_n 0, 1) := by decide +kernel
theorem dX11_act_26 : decode cX11_act 26 = .ok (.getfield 9, 3) := by decide +kernel
theorem dX11_act_29 : decode cX11_act 29 = .ok (.bipush 24, 2) := by decide +kernel
theorem dX11_act_31 : decode cX11_act 31 = .ok (.iload_n 1, 1) := by decide +kernel
theorem dX11_act_32 : decode cX11_act 32 = .ok (.iadd, 1) := by decide +kernel
theorem dX11_act_33 : decode cX11_act 33 = .ok (.iaload, 1) := by decide +kernel
theorem dX11_act_34 : decode cX11_act 34 = .ok (.putfield 244, 3) := by decide +kernel
theorem dX11_act_37 : decode cX11_act 37 = .ok (.aload_n 0, 1) := by decide +kernel
theorem dX11_act_38 : decode cX11_act 38 = .ok (.iload_n 1, 1) := by decide +kernel
theorem dX11_act_39 : decode cX11_act 39 = .ok (.putfield 241, 3) := by decide +kernel
theorem dX11_act_42 : decode cX11_act 42 = .ok (.aload_n 0, 1) := by decide +kernel
theorem dX11_act_43 : decode cX11_act 43 = .ok (.aload_n 0, 1) := by decide +kernel
theorem dX11_act_44 : decode cX11_act 44 = .ok (.getfield 9, 3) := by decide +kernel
theorem dX11_act_47 : decode cX11_act 47 = .ok (.bipush 31, 2) := by decide +kernel
theorem dX11_act_49 : decode cX11_act 49 = .ok (.iload_n 1, 1) := by decide +kernel
theorem dX11_act_50 : decode cX11_act 50 = .ok (.iadd, 1) := by decide +kernel
theorem dX11_act_51 : decode cX11_act 51 = .ok (.iaload, 1) := by decide +kernel
theorem dX11_act_52 : decode cX11_act 52 = .ok (.putfield 257, 3) := by decide +kernel
theorem dX11_act_55 : decode cX11_act 55 = .ok (.iload_n 2, 1) := by decide +kernel
theorem dX11_act_56 : decode cX11_act 56 = .ok (.ifCond .ne 11, 3) := by decide +kernel
theorem dX11_act_59 : decode cX11_act 59 = .ok (.aload_n 0, 1) := by decide +kernel
theorem dX11_act_60 : decode cX11_act 60 = .ok (.iload_n 3, 1) := by decide +kernel
theorem dX11_act_61 : decode cX11_act 61 = .ok (.invokevirtual 254, 3) := by decide +kernel
theorem dX11_act_64 : decode cX11_act 64 = .ok (.goto 21, 3) := by decide +kernel
theorem dX11_act_67 : decode cX11_act 67 = .ok (.iload_n 2, 1) := by decide +kernel
theorem dX11_act_68 : decode cX11_act 68 = .ok (.iconst 1, 1) := by decide +kernel
theorem dX11_act_69 : decode cX11_act 69 = .ok (.if_icmp .ne 11, 3) := by decide +kernel
theorem dX11_act_72 : decode cX11_act 72 = .ok (.aload_n 0, 1) := by decide +kernel
theorem dX11_act_73 : decode cX11_act 73 = .ok (.iload_n 3, 1) := by decide +kernel
theorem dX11_act_74 : decode cX11_act 74 = .ok (.invokevirtual 263, 3) := by decide +kernel
theorem dX11_act_77 : decode cX11_act 77 = .ok (.goto 8, 3) := by decide +kernel
theorem dX11_act_80 : decode cX11_act 80 = .ok (.aload_n 0, 1) := by decide +kernel
theorem dX11_act_81 : decode cX11_act 81 = .ok (.iload_n 3, 1) := by decide +kernel
theorem dX11_act_82 : decode cX11_act 82 = .ok (.invokevirtual 269, 3) := by decide +kernel
theorem dX11_act_85 : decode cX11_act 85 = .ok (.ireturn, 1) := by decide +kernel
theorem dX11_trace_0 : decode cX11_trace 0 = .ok (.iload_n 1, 1) := by decide +kernel
theorem dX11_trace_1 : decode cX11_trace 1 = .ok (.iconst 0, 1) := by decide +kernel
theorem dX11_trace_2 : decode cX11_trace 2 = .ok (.aload_n 0, 1) := by decide +kernel
theorem dX11_trace_3 : decode cX11_trace 3 = .ok (.getfield 235, 3) := by decide +kernel
theorem dX11_trace_6 : decode cX11_trace 6 = .ok (.bipush 20, 2) := by decide +kernel
theorem dX11_trace_8 : decode cX11_trace 8 = .ok (.if_icmp .ge 10, 3) := by decide +kernel
theorem dX11_trace_11 : decode cX11_trace 11 = .ok (.aload_n 0, 1) := by decide +kernel
theorem dX11_trace_12 : decode cX11_trace 12 = .ok (.getfield 235, 3) := by decide +kernel
theorem dX11_trace_15 : decode cX11_trace 15 = .ok (.goto 5, 3) := by decide +kernel
theorem dX11_trace_18 : decode cX11_trace 18 = .ok (.bipush 20, 2) := by decide +kernel
theorem dX11_trace_20 : decode cX11_trace 20 = .ok (.iconst 1, 1) := by decide +kernel
theorem dX11_trace_21 : decode cX11_trace 21 = .ok (.isub, 1) := by decide +kernel
theorem dX11_trace_22 : decode cX11_trace 22 = .ok (.invokestatic 47, 3) := by decide +kernel
theorem dX11_trace_25 : decode cX11_trace 25 = .ok (.ifCond .eq 12, 3) := by decide +kernel
theorem dX11_trace_28 : decode cX11_trace 28 = .ok (.aload_n 0, 1) := by decide +kernel
theorem dX11_trace_29 : decode cX11_trace 29 = .ok (.getfield 41, 3) := by decide +kernel
theorem dX11_trace_32 : decode cX11_trace 32 = .ok (.iload_n 1, 1) := by decide +kernel
theorem dX11_trace_33 : decode cX11_trace 33 = .ok (.iaload, 1) := by decide +kernel
theorem dX11_trace_34 : decode cX11_trace 34 = .ok (.goto 4, 3) := by decide +kernel
theorem dX11_trace_37 : decode cX11_trace 37 = .ok (.iconst (-1), 1) := by decide +kernel
theorem dX11_trace_38 : decode cX11_trace 38 = .ok (.ireturn, 1) := by decide +kernel
theorem dX11_as_0 : decode cX11_as 0 = .ok (.aload_n 0, 1) := by decide +kernel
theorem dX11_as_1 : decode cX11_as 1 = .ok (.iload_n 1, 1) := by decide +kernel
theorem dX11_as_2 : decode cX11_as 2 = .ok (.invokevirtual 160, 3) := by decide +kernel
theorem dX11_as_5 : decode cX11_as 5 = .ok (.ifCond .eq 13, 3) := by decide +kernel
theorem dX11_as_8 : decode cX11_as 8 = .ok (.iload_n 2, 1) := by decide +kernel
theorem dX11_as_9 : decode cX11_as 9 = .ok (.iconst 0, 1) := by decide +kernel
theorem dX11_as_10 : decode cX11_as 10 = .ok (.bipush 6, 2) := by decide +kernel
theorem dX11_as_12 : decode cX11_as 12 = .ok (.invokestatic 47, 3) := by decide +kernel
theorem dX11_as_15 : decode cX11_as 15 = .ok (.ifCond .ne 5, 3) := by decide +kernel
theorem dX11_as_18 : decode cX11_as 18 = .ok (.iconst (-1), 1) := by decide +kernel
theorem dX11_as_19 : decode cX11_as 19 = .ok (.ireturn, 1) := by decide +kernel
theorem dX11_as_20 : decode cX11_as 20 = .ok (.aload_n 0, 1) := by decide +kernel
theorem dX11_as_21 : decode cX11_as 21 = .ok (.getfield 9, 3) := by decide +kernel
theorem dX11_as_24 : decode cX11_as 24 = .ok (.bipush 24, 2) := by decide +kernel
theorem dX11_as_26 : decode cX11_as 26 = .ok (.iload_n 1, 1) := by decide +kernel
theorem dX11_as_27 : decode cX11_as 27 = .ok (.iadd, 1) := by decide +kernel
theorem dX11_as_28 : decode cX11_as 28 = .ok (.iaload, 1) := by decide +kernel
theorem dX11_as_29 : decode cX11_as 29 = .ok (.iload_n 2, 1) := by decide +kernel
theorem dX11_as_30 : decode cX11_as 30 = .ok (.invokestatic 247, 3) := by decide +kernel
theorem dX11_as_33 : decode cX11_as 33 = .ok (.ifCond .eq 15, 3) := by decide +kernel
theorem dX11_as_36 : decode cX11_as 36 = .ok (.aload_n 0, 1) := by decide +kernel
theorem dX11_as_37 : decode cX11_as 37 = .ok (.getfield 9, 3) := by decide +kernel
theorem dX11_as_40 : decode cX11_as 40 = .ok (.bipush 31, 2) := by decide +kernel
theorem dX11_as_42 : decode cX11_as 42 = .ok (.iload_n 1, 1) := by decide +kernel
theorem dX11_as_43 : decode cX11_as 43 = .ok (.iadd, 1) := by decide +kernel
theorem dX11_as_44 : decode cX11_as 44 = .ok (.iaload, 1) := by decide +kernel
theorem dX11_as_45 : decode cX11_as 45 = .ok (.goto 5, 3) := by decide +kernel
theorem dX11_as_48 : decode cX11_as 48 = .ok (.bipush (-6), 2) := by decide +kernel
theorem dX11_as_50 : decode cX11_as 50 = .ok (.ireturn, 1) := by decide +kernel
theorem dX11_image_0 : decode cX11_image 0 = .ok (.iconst 0, 1) := by decide +kernel
theorem dX11_image_1 : decode cX11_image 1 = .ok (.istore_n 1, 1) := by decide +kernel
theorem dX11_image_2 : decode cX11_image 2 = .ok (.iload_n 1, 1) := by decide +kernel
theorem dX11_image_3 : decode cX11_image 3 = .ok (.sipush 944, 3) := by decide +kernel
theorem dX11_image_6 : decode cX11_image 6 = .ok (.if_icmp .ge 21, 3) := by decide +kernel
theorem dX11_image_9 : decode cX11_image 9 = .ok (.aload_n 0, 1) := by decide +kernel
theorem dX11_image_10 : decode cX11_image 10 = .ok (.getfield 15, 3) := by decide +kernel
theorem dX11_image_13 : decode cX11_image 13 = .ok (.iload_n 1, 1) := by decide +kernel
theorem dX11_image_14 : decode cX11_image 14 = .ok (.aload_n 0, 1) := by decide +kernel
theorem dX11_image_15 : decode cX11_image 15 = .ok (.getfield 9, 3) := by decide +kernel
theorem dX11_image_18 : decode cX11_image 18 = .ok (.iload_n 1, 1) := by decide +kernel
theorem dX11_image_19 : decode cX11_image 19 = .ok (.iaload, 1) := by decide +kernel
theorem dX11_image_20 : decode cX11_image 20 = .ok (.iastore, 1) := by decide +kernel
theorem dX11_image_21 : decode cX11_image 21 = .ok (.iinc 1 1, 3) := by decide +kernel
theorem dX11_image_24 : decode cX11_image 24 = .ok (.goto (-22), 3) := by decide +kernel
theorem dX11_image_27 : decode cX11_image 27 = .ok (.aload_n 0, 1) := by decide +kernel
theorem dX11_image_28 : decode cX11_image 28 = .ok (.iconst 1, 1) := by decide +kernel
theorem dX11_image_29 : decode cX11_image 29 = .ok (.putfield 272, 3) := by decide +kernel
theorem dX11_image_32 : decode cX11_image 32 = .ok (.aload_n 0, 1) := by decide +kernel
theorem dX11_image_33 : decode cX11_image 33 = .ok (.getfield 9, 3) := by decide +kernel
theorem dX11_image_36 : decode cX11_image 36 = .ok (.bipush 18, 2) := by decide +kernel
theorem dX11_image_38 : decode cX11_image 38 = .ok (.iaload, 1) := by decide +kernel
theorem dX11_image_39 : decode cX11_image 39 = .ok (.ireturn, 1) := by decide +kernel
theorem dX11_undo_0 : decode cX11_undo 0 = .ok (.aload_n 0, 1) := by decide +kernel
theorem dX11_undo_1 : decode cX11_undo 1 = .ok (.getfield 272, 3) := by decide +kernel
theorem dX11_undo_4 : decode cX11_undo 4 = .ok (.ifCond .ne 6, 3) := by decide +kernel
theorem dX11_undo_7 : decode cX11_undo 7 = .ok (.bipush (-3), 2) := by decide +kernel
theorem dX11_undo_9 : decode cX11_undo 9 = .ok (.ireturn, 1) := by decide +kernel
theorem dX11_undo_10 : decode cX11_undo 10 = .ok (.iconst 0, 1) := by decide +kernel
theorem dX11_undo_11 : decode cX11_undo 11 = .ok (.istore_n 1, 1) := by decide +kernel
theorem dX11_undo_12 : decode cX11_undo 12 = .ok (.iload_n 1, 1) := by decide +kernel
theorem dX11_undo_13 : decode cX11_undo 13 = .ok (.sipush 944, 3) := by decide +kernel
theorem dX11_undo_16 : decode cX11_undo 16 = .ok (.if_icmp .ge 21, 3) := by decide +kernel
theorem dX11_undo_19 : decode cX11_undo 19 = .ok (.aload_n 0, 1) := by decide +kernel
theorem dX11_undo_20 : decode cX11_undo 20 = .ok (.getfield 9, 3) := by decide +kernel
theorem dX11_undo_23 : decode cX11_undo 23 = .ok (.iload_n 1, 1) := by decide +kernel
theorem dX11_undo_24 : decode cX11_undo 24 = .ok (.aload_n 0, 1) := by decide +kernel
theorem dX11_undo_25 : decode cX11_undo 25 = .ok (.getfield 15, 3) := by decide +kernel
theorem dX11_undo_28 : decode cX11_undo 28 = .ok (.iload_n 1, 1) := by decide +kernel
theorem dX11_undo_29 : decode cX11_undo 29 = .ok (.iaload, 1) := by decide +kernel
theorem dX11_undo_30 : decode cX11_undo 30 = .ok (.iastore, 1) := by decide +kernel
theorem dX11_undo_31 : decode cX11_undo 31 = .ok (.iinc 1 1, 3) := by decide +kernel
theorem dX11_undo_34 : decode cX11_undo 34 = .ok (.goto (-22), 3) := by decide +kernel
theorem dX11_undo_37 : decode cX11_undo 37 = .ok (.aload_n 0, 1) := by decide +kernel
theorem dX11_undo_38 : decode cX11_undo 38 = .ok (.getfield 9, 3) := by decide +kernel
theorem dX11_undo_41 : decode cX11_undo 41 = .ok (.bipush 18, 2) := by decide +kernel
theorem dX11_undo_43 : decode cX11_undo 43 = .ok (.iaload, 1) := by decide +kernel
theorem dX11_undo_44 : decode cX11_undo 44 = .ok (.ireturn, 1) := by decide +kernel
theorem dX11_count_0 : decode cX11_count 0 = .ok (.iload_n 1, 1) := by decide +kernel
theorem dX11_count_1 : decode cX11_count 1 = .ok (.iconst 5, 1) := by decide +kernel
theorem dX11_count_2 : decode cX11_count 2 = .ok (.if_icmp .ne 10, 3) := by decide +kernel
theorem dX11_count_5 : decode cX11_count 5 = .ok (.aload_n 0, 1) := by decide +kernel
theorem dX11_count_6 : decode cX11_count 6 = .ok (.getfield 235, 3) := by decide +kernel
theorem dX11_count_9 : decode cX11_count 9 = .ok (.goto 25, 3) := by decide +kernel
theorem dX11_count_12 : decode cX11_count 12 = .ok (.iload_n 1, 1) := by decide +kernel
theorem dX11_count_13 : decode cX11_count 13 = .ok (.iconst 0, 1) := by decide +kernel
theorem dX11_count_14 : decode cX11_count 14 = .ok (.iconst 4, 1) := by decide +kernel
theorem dX11_count_15 : decode cX11_count 15 = .ok (.invokestatic 47, 3) := by decide +kernel
theorem dX11_count_18 : decode cX11_count 18 = .ok (.ifCond .eq 15, 3) := by decide +kernel
theorem dX11_count_21 : decode cX11_count 21 = .ok (.aload_n 0, 1) := by decide +kernel
theorem dX11_count_22 : decode cX11_count 22 = .ok (.getfield 9, 3) := by decide +kernel
theorem dX11_count_25 : decode cX11_count 25 = .ok (.bipush 18, 2) := by decide +kernel
theorem dX11_count_27 : decode cX11_count 27 = .ok (.iload_n 1, 1) := by decide +kernel
theorem dX11_count_28 : decode cX11_count 28 = .ok (.iadd, 1) := by decide +kernel
theorem dX11_count_29 : decode cX11_count 29 = .ok (.iaload, 1) := by decide +kernel
theorem dX11_count_30 : decode cX11_count 30 = .ok (.goto 4, 3) := by decide +kernel
theorem dX11_count_33 : decode cX11_count 33 = .ok (.iconst (-1), 1) := by decide +kernel
theorem dX11_count_34 : decode cX11_count 34 = .ok (.ireturn, 1) := by decide +kernel
theorem dJ6_bitCount_0f7a4_0 : decode cJ6_bitCount_0f7a4 0 = .ok (.iload_n 0, 1) := by decide +kernel
theorem dJ6_bitCount_0f7a4_1 : decode cJ6_bitCount_0f7a4 1 = .ok (.iload_n 0, 1) := by decide +kernel
theorem dJ6_bitCount_0f7a4_2 : decode cJ6_bitCount_0f7a4 2 = .ok (.iconst 1, 1) := by decide +kernel
theorem dJ6_bitCount_0f7a4_3 : decode cJ6_bitCount_0f7a4 3 = .ok (.iushr, 1) := by decide +kernel
theorem dJ6_bitCount_0f7a4_4 : decode cJ6_bitCount_0f7a4 4 = .ok (.ldc_w 265, 3) := by decide +kernel
theorem dJ6_bitCount_0f7a4_7 : decode cJ6_bitCount_0f7a4 7 = .ok (.iand, 1) := by decide +kernel
theorem dJ6_bitCount_0f7a4_8 : decode cJ6_bitCount_0f7a4 8 = .ok (.isub, 1) := by decide +kernel
theorem dJ6_bitCount_0f7a4_9 : decode cJ6_bitCount_0f7a4 9 = .ok (.istore_n 0, 1) := by decide +kernel
theorem dJ6_bitCount_0f7a4_10 : decode cJ6_bitCount_0f7a4 10 = .ok (.iload_n 0, 1) := by decide +kernel
theorem dJ6_bitCount_0f7a4_11 : decode cJ6_bitCount_0f7a4 11 = .ok (.ldc_w 266, 3) := by decide +kernel
theorem dJ6_bitCount_0f7a4_14 : decode cJ6_bitCount_0f7a4 14 = .ok (.iand, 1) := by decide +kernel
theorem dJ6_bitCount_0f7a4_15 : decode cJ6_bitCount_0f7a4 15 = .ok (.iload_n 0, 1) := by decide +kernel
theorem dJ6_bitCount_0f7a4_16 : decode cJ6_bitCount_0f7a4 16 = .ok (.iconst 2, 1) := by decide +kernel
theorem dJ6_bitCount_0f7a4_17 : decode cJ6_bitCount_0f7a4 17 = .ok (.iushr, 1) := by decide +kernel
theorem dJ6_bitCount_0f7a4_18 : decode cJ6_bitCount_0f7a4 18 = .ok (.ldc_w 266, 3) := by decide +kernel
theorem dJ6_bitCount_0f7a4_21 : decode cJ6_bitCount_0f7a4 21 = .ok (.iand, 1) := by decide +kernel
theorem dJ6_bitCount_0f7a4_22 : decode cJ6_bitCount_0f7a4 22 = .ok (.iadd, 1) := by decide +kernel
theorem dJ6_bitCount_0f7a4_23 : decode cJ6_bitCount_0f7a4 23 = .ok (.istore_n 0, 1) := by decide +kernel
theorem dJ6_bitCount_0f7a4_24 : decode cJ6_bitCount_0f7a4 24 = .ok (.iload_n 0, 1) := by decide +kernel
theorem dJ6_bitCount_0f7a4_25 : decode cJ6_bitCount_0f7a4 25 = .ok (.iload_n 0, 1) := by decide +kernel
theorem dJ6_bitCount_0f7a4_26 : decode cJ6_bitCount_0f7a4 26 = .ok (.iconst 4, 1) := by decide +kernel
theorem dJ6_bitCount_0f7a4_27 : decode cJ6_bitCount_0f7a4 27 = .ok (.iushr, 1) := by decide +kernel
theorem dJ6_bitCount_0f7a4_28 : decode cJ6_bitCount_0f7a4 28 = .ok (.iadd, 1) := by decide +kernel
theorem dJ6_bitCount_0f7a4_29 : decode cJ6_bitCount_0f7a4 29 = .ok (.ldc_w 267, 3) := by decide +kernel
theorem dJ6_bitCount_0f7a4_32 : decode cJ6_bitCount_0f7a4 32 = .ok (.iand, 1) := by decide +kernel
theorem dJ6_bitCount_0f7a4_33 : decode cJ6_bitCount_0f7a4 33 = .ok (.istore_n 0, 1) := by decide +kernel
theorem dJ6_bitCount_0f7a4_34 : decode cJ6_bitCount_0f7a4 34 = .ok (.iload_n 0, 1) := by decide +kernel
theorem dJ6_bitCount_0f7a4_35 : decode cJ6_bitCount_0f7a4 35 = .ok (.iload_n 0, 1) := by decide +kernel
theorem dJ6_bitCount_0f7a4_36 : decode cJ6_bitCount_0f7a4 36 = .ok (.bipush 8, 2) := by decide +kernel
theorem dJ6_bitCount_0f7a4_38 : decode cJ6_bitCount_0f7a4 38 = .ok (.iushr, 1) := by decide +kernel
theorem dJ6_bitCount_0f7a4_39 : decode cJ6_bitCount_0f7a4 39 = .ok (.iadd, 1) := by decide +kernel
theorem dJ6_bitCount_0f7a4_40 : decode cJ6_bitCount_0f7a4 40 = .ok (.istore_n 0, 1) := by decide +kernel
theorem dJ6_bitCount_0f7a4_41 : decode cJ6_bitCount_0f7a4 41 = .ok (.iload_n 0, 1) := by decide +kernel
theorem dJ6_bitCount_0f7a4_42 : decode cJ6_bitCount_0f7a4 42 = .ok (.iload_n 0, 1) := by decide +kernel
theorem dJ6_bitCount_0f7a4_43 : decode cJ6_bitCount_0f7a4 43 = .ok (.bipush 16, 2) := by decide +kernel
theorem dJ6_bitCount_0f7a4_45 : decode cJ6_bitCount_0f7a4 45 = .ok (.iushr, 1) := by decide +kernel
theorem dJ6_bitCount_0f7a4_46 : decode cJ6_bitCount_0f7a4 46 = .ok (.iadd, 1) := by decide +kernel
theorem dJ6_bitCount_0f7a4_47 : decode cJ6_bitCount_0f7a4 47 = .ok (.istore_n 0, 1) := by decide +kernel
theorem dJ6_bitCount_0f7a4_48 : decode cJ6_bitCount_0f7a4 48 = .ok (.iload_n 0, 1) := by decide +kernel
theorem dJ6_bitCount_0f7a4_49 : decode cJ6_bitCount_0f7a4 49 = .ok (.bipush 63, 2) := by decide +kernel
theorem dJ6_bitCount_0f7a4_51 : decode cJ6_bitCount_0f7a4 51 = .ok (.iand, 1) := by decide +kernel
theorem dJ6_bitCount_0f7a4_52 : decode cJ6_bitCount_0f7a4 52 = .ok (.ireturn, 1) := by decide +kernel
theorem dJ9_max_7cf53_0 : decode cJ9_max_7cf53 0 = .ok (.iload_n 0, 1) := by decide +kernel
theorem dJ9_max_7cf53_1 : decode cJ9_max_7cf53 1 = .ok (.iload_n 1, 1) := by decide +kernel
theorem dJ9_max_7cf53_2 : decode cJ9_max_7cf53 2 = .ok (.if_icmp .lt 7, 3) := by decide +kernel
theorem dJ9_max_7cf53_5 : decode cJ9_max_7cf53 5 = .ok (.iload_n 0, 1) := by decide +kernel
theorem dJ9_max_7cf53_6 : decode cJ9_max_7cf53 6 = .ok (.goto 4, 3) := by decide +kernel
theorem dJ9_max_7cf53_9 : decode cJ9_max_7cf53 9 = .ok (.iload_n 1, 1) := by decide +kernel
theorem dJ9_max_7cf53_10 : decode cJ9_max_7cf53 10 = .ok (.ireturn, 1) := by decide +kernel
theorem dJ9_min_7cf53_0 : decode cJ9_min_7cf53 0 = .ok (.iload_n 0, 1) := by decide +kernel
theorem dJ9_min_7cf53_1 : decode cJ9_min_7cf53 1 = .ok (.iload_n 1, 1) := by decide +kernel
theorem dJ9_min_7cf53_2 : decode cJ9_min_7cf53 2 = .ok (.if_icmp .gt 7, 3) := by decide +kernel
theorem dJ9_min_7cf53_5 : decode cJ9_min_7cf53 5 = .ok (.iload_n 0, 1) := by decide +kernel
theorem dJ9_min_7cf53_6 : decode cJ9_min_7cf53 6 = .ok (.goto 4, 3) := by decide +kernel
theorem dJ9_min_7cf53_9 : decode cJ9_min_7cf53 9 = .ok (.iload_n 1, 1) := by decide +kernel
theorem dJ9_min_7cf53_10 : decode cJ9_min_7cf53 10 = .ok (.ireturn, 1) := by decide +kernel
theorem dJ0_length_8abf5_0 : decode cJ0_length_8abf5 0 = .ok (.aload_n 0, 1) := by decide +kernel
theorem dJ0_length_8abf5_1 : decode cJ0_length_8abf5 1 = .ok (.getfield 9, 3) := by decide +kernel
theorem dJ0_length_8abf5_4 : decode cJ0_length_8abf5 4 = .ok (.arraylength, 1) := by decide +kernel
theorem dJ0_length_8abf5_5 : decode cJ0_length_8abf5 5 = .ok (.aload_n 0, 1) := by decide +kernel
theorem dJ0_length_8abf5_6 : decode cJ0_length_8abf5 6 = .ok (.invokevirtual 335, 3) := by decide +kernel
theorem dJ0_length_8abf5_9 : decode cJ0_length_8abf5 9 = .ok (.ishr, 1) := by decide +kernel
theorem dJ0_length_8abf5_10 : decode cJ0_length_8abf5 10 = .ok (.ireturn, 1) := by decide +kernel
theorem dJ0_charAt_5068e_0 : decode cJ0_charAt_5068e 0 = .ok (.aload_n 0, 1) := by decide +kernel
theorem dJ0_charAt_5068e_1 : decode cJ0_charAt_5068e 1 = .ok (.invokevirtual 492, 3) := by decide +kernel
theorem dJ0_charAt_5068e_4 : decode cJ0_charAt_5068e 4 = .ok (.ifCond .eq 12, 3) := by decide +kernel
theorem dJ0_charAt_5068e_7 : decode cJ0_charAt_5068e 7 = .ok (.aload_n 0, 1) := by decide +kernel
theorem dJ0_charAt_5068e_8 : decode cJ0_charAt_5068e 8 = .ok (.getfield 9, 3) := by decide +kernel
theorem dJ0_charAt_5068e_11 : decode cJ0_charAt_5068e 11 = .ok (.iload_n 1, 1) := by decide +kernel
theorem dJ0_charAt_5068e_12 : decode cJ0_charAt_5068e 12 = .ok (.invokestatic 495, 3) := by decide +kernel
theorem dJ0_charAt_5068e_15 : decode cJ0_charAt_5068e 15 = .ok (.ireturn, 1) := by decide +kernel
theorem dJ0_charAt_5068e_16 : decode cJ0_charAt_5068e 16 = .ok (.aload_n 0, 1) := by decide +kernel
theorem dJ0_charAt_5068e_17 : decode cJ0_charAt_5068e 17 = .ok (.getfield 9, 3) := by decide +kernel
theorem dJ0_charAt_5068e_20 : decode cJ0_charAt_5068e 20 = .ok (.iload_n 1, 1) := by decide +kernel
theorem dJ0_charAt_5068e_21 : decode cJ0_charAt_5068e 21 = .ok (.invokestatic 498, 3) := by decide +kernel
theorem dJ0_charAt_5068e_24 : decode cJ0_charAt_5068e 24 = .ok (.ireturn, 1) := by decide +kernel
theorem dJ0_coder_7d493_0 : decode cJ0_coder_7d493 0 = .ok (.getstatic 38, 3) := by decide +kernel
theorem dJ0_coder_7d493_3 : decode cJ0_coder_7d493 3 = .ok (.ifCond .eq 10, 3) := by decide +kernel
theorem dJ0_coder_7d493_6 : decode cJ0_coder_7d493 6 = .ok (.aload_n 0, 1) := by decide +kernel
theorem dJ0_coder_7d493_7 : decode cJ0_coder_7d493 7 = .ok (.getfield 15, 3) := by decide +kernel
theorem dJ0_coder_7d493_10 : decode cJ0_coder_7d493 10 = .ok (.goto 4, 3) := by decide +kernel
theorem dJ0_coder_7d493_13 : decode cJ0_coder_7d493 13 = .ok (.iconst 1, 1) := by decide +kernel
theorem dJ0_coder_7d493_14 : decode cJ0_coder_7d493 14 = .ok (.ireturn, 1) := by decide +kernel
theorem dJ0_isLatin1_aae02_0 : decode cJ0_isLatin1_aae02 0 = .ok (.getstatic 38, 3) := by decide +kernel
theorem dJ0_isLatin1_aae02_3 : decode cJ0_isLatin1_aae02 3 = .ok (.ifCond .eq 14, 3) := by decide +kernel
theorem dJ0_isLatin1_aae02_6 : decode cJ0_isLatin1_aae02 6 = .ok (.aload_n 0, 1) := by decide +kernel
theorem dJ0_isLatin1_aae02_7 : decode cJ0_isLatin1_aae02 7 = .ok (.getfield 15, 3) := by decide +kernel
theorem dJ0_isLatin1_aae02_10 : decode cJ0_isLatin1_aae02 10 = .ok (.ifCond .ne 7, 3) := by decide +kernel
theorem dJ0_isLatin1_aae02_13 : decode cJ0_isLatin1_aae02 13 = .ok (.iconst 1, 1) := by decide +kernel
theorem dJ0_isLatin1_aae02_14 : decode cJ0_isLatin1_aae02 14 = .ok (.goto 4, 3) := by decide +kernel
theorem dJ0_isLatin1_aae02_17 : decode cJ0_isLatin1_aae02 17 = .ok (.iconst 0, 1) := by decide +kernel
theorem dJ0_isLatin1_aae02_18 : decode cJ0_isLatin1_aae02 18 = .ok (.ireturn, 1) := by decide +kernel
theorem dJ0_checkIndex_df160_0 : decode cJ0_checkIndex_df160 0 = .ok (.iload_n 0, 1) := by decide +kernel
theorem dJ0_checkIndex_df160_1 : decode cJ0_checkIndex_df160 1 = .ok (.iload_n 1, 1) := by decide +kernel
theorem dJ0_checkIndex_df160_2 : decode cJ0_checkIndex_df160 2 = .ok (.getstatic 1053, 3) := by decide +kernel
theorem dJ0_checkIndex_df160_5 : decode cJ0_checkIndex_df160 5 = .ok (.invokestatic 1059, 3) := by decide +kernel
theorem dJ0_checkIndex_df160_8 : decode cJ0_checkIndex_df160 8 = .ok (.pop, 1) := by decide +kernel
theorem dJ0_checkIndex_df160_9 : decode cJ0_checkIndex_df160 9 = .ok (.return_, 1) := by decide +kernel
theorem dJ1_charAt_3b067_0 : decode cJ1_charAt_3b067 0 = .ok (.iload_n 1, 1) := by decide +kernel
theorem dJ1_charAt_3b067_1 : decode cJ1_charAt_3b067 1 = .ok (.aload_n 0, 1) := by decide +kernel
theorem dJ1_charAt_3b067_2 : decode cJ1_charAt_3b067 2 = .ok (.arraylength, 1) := by decide +kernel
theorem dJ1_charAt_3b067_3 : decode cJ1_charAt_3b067 3 = .ok (.invokestatic 9, 3) := by decide +kernel
theorem dJ1_charAt_3b067_6 : decode cJ1_charAt_3b067 6 = .ok (.aload_n 0, 1) := by decide +kernel
theorem dJ1_charAt_3b067_7 : decode cJ1_charAt_3b067 7 = .ok (.iload_n 1, 1) := by decide +kernel
theorem dJ1_charAt_3b067_8 : decode cJ1_charAt_3b067 8 = .ok (.baload, 1) := by decide +kernel
theorem dJ1_charAt_3b067_9 : decode cJ1_charAt_3b067 9 = .ok (.sipush 255, 3) := by decide +kernel
theorem dJ1_charAt_3b067_12 : decode cJ1_charAt_3b067 12 = .ok (.iand, 1) := by decide +kernel
theorem dJ1_charAt_3b067_13 : decode cJ1_charAt_3b067 13 = .ok (.i2c, 1) := by decide +kernel
theorem dJ1_charAt_3b067_14 : decode cJ1_charAt_3b067 14 = .ok (.ireturn, 1) := by decide +kernel
theorem dJ2_getChar_3b067_0 : decode cJ2_getChar_3b067 0 = .ok (.getstatic 44, 3) := by decide +kernel
theorem dJ2_getChar_3b067_3 : decode cJ2_getChar_3b067 3 = .ok (.ifCond .ne 25, 3) := by decide +kernel
theorem dJ2_getChar_3b067_6 : decode cJ2_getChar_3b067 6 = .ok (.iload_n 1, 1) := by decide +kernel
theorem dJ2_getChar_3b067_7 : decode cJ2_getChar_3b067 7 = .ok (.ifCond .lt 11, 3) := by decide +kernel
theorem dJ2_getChar_3b067_10 : decode cJ2_getChar_3b067 10 = .ok (.iload_n 1, 1) := by decide +kernel
theorem dJ2_getChar_3b067_11 : decode cJ2_getChar_3b067 11 = .ok (.aload_n 0, 1) := by decide +kernel
theorem dJ2_getChar_3b067_12 : decode cJ2_getChar_3b067 12 = .ok (.invokestatic 48, 3) := by decide +kernel
theorem dJ2_getChar_3b067_15 : decode cJ2_getChar_3b067 15 = .ok (.if_icmp .lt 13, 3) := by decide +kernel
theorem dJ2_getChar_3b067_18 : decode cJ2_getChar_3b067 18 = .ok (.new 52, 3) := by decide +kernel
theorem dJ2_getChar_3b067_21 : decode cJ2_getChar_3b067 21 = .ok (.dup, 1) := by decide +kernel
theorem dJ2_getChar_3b067_22 : decode cJ2_getChar_3b067 22 = .ok (.ldc 54, 2) := by decide +kernel
theorem dJ2_getChar_3b067_24 : decode cJ2_getChar_3b067 24 = .ok (.invokespecial 56, 3) := by decide +kernel
theorem dJ2_getChar_3b067_27 : decode cJ2_getChar_3b067 27 = .ok (.athrow, 1) := by decide +kernel
theorem dJ2_getChar_3b067_28 : decode cJ2_getChar_3b067 28 = .ok (.iload_n 1, 1) := by decide +kernel
theorem dJ2_getChar_3b067_29 : decode cJ2_getChar_3b067 29 = .ok (.iconst 1, 1) := by decide +kernel
theorem dJ2_getChar_3b067_30 : decode cJ2_getChar_3b067 30 = .ok (.ishl, 1) := by decide +kernel
theorem dJ2_getChar_3b067_31 : decode cJ2_getChar_3b067 31 = .ok (.istore_n 1, 1) := by decide +kernel
theorem dJ2_getChar_3b067_32 : decode cJ2_getChar_3b067 32 = .ok (.aload_n 0, 1) := by decide +kernel
theorem dJ2_getChar_3b067_33 : decode cJ2_getChar_3b067 33 = .ok (.iload_n 1, 1) := by decide +kernel
theorem dJ2_getChar_3b067_34 : decode cJ2_getChar_3b067 34 = .ok (.iinc 1 1, 3) := by decide +kernel
theorem dJ2_getChar_3b067_37 : decode cJ2_getChar_3b067 37 = .ok (.baload, 1) := by decide +kernel
theorem dJ2_getChar_3b067_38 : decode cJ2_getChar_3b067 38 = .ok (.sipush 255, 3) := by decide +kernel
theorem dJ2_getChar_3b067_41 : decode cJ2_getChar_3b067 41 = .ok (.iand, 1) := by decide +kernel
theorem dJ2_getChar_3b067_42 : decode cJ2_getChar_3b067 42 = .ok (.getstatic 59, 3) := by decide +kernel
theorem dJ2_getChar_3b067_45 : decode cJ2_getChar_3b067 45 = .ok (.ishl, 1) := by decide +kernel
theorem dJ2_getChar_3b067_46 : decode cJ2_getChar_3b067 46 = .ok (.aload_n 0, 1) := by decide +kernel
theorem dJ2_getChar_3b067_47 : decode cJ2_getChar_3b067 47 = .ok (.iload_n 1, 1) := by decide +kernel
theorem dJ2_getChar_3b067_48 : decode cJ2_getChar_3b067 48 = .ok (.baload, 1) := by decide +kernel
theorem dJ2_getChar_3b067_49 : decode cJ2_getChar_3b067 49 = .ok (.sipush 255, 3) := by decide +kernel
theorem dJ2_getChar_3b067_52 : decode cJ2_getChar_3b067 52 = .ok (.iand, 1) := by decide +kernel
theorem dJ2_getChar_3b067_53 : decode cJ2_getChar_3b067 53 = .ok (.getstatic 63, 3) := by decide +kernel
theorem dJ2_getChar_3b067_56 : decode cJ2_getChar_3b067 56 = .ok (.ishl, 1) := by decide +kernel
theorem dJ2_getChar_3b067_57 : decode cJ2_getChar_3b067 57 = .ok (.ior, 1) := by decide +kernel
theorem dJ2_getChar_3b067_58 : decode cJ2_getChar_3b067 58 = .ok (.i2c, 1) := by decide +kernel
theorem dJ2_getChar_3b067_59 : decode cJ2_getChar_3b067 59 = .ok (.ireturn, 1) := by decide +kernel
theorem dJ2_length_9d52b_0 : decode cJ2_length_9d52b 0 = .ok (.aload_n 0, 1) := by decide +kernel
theorem dJ2_length_9d52b_1 : decode cJ2_length_9d52b 1 = .ok (.arraylength, 1) := by decide +kernel
theorem dJ2_length_9d52b_2 : decode cJ2_length_9d52b 2 = .ok (.iconst 1, 1) := by decide +kernel
theorem dJ2_length_9d52b_3 : decode cJ2_length_9d52b 3 = .ok (.ishr, 1) := by decide +kernel
theorem dJ2_length_9d52b_4 : decode cJ2_length_9d52b 4 = .ok (.ireturn, 1) := by decide +kernel
theorem dJ2_charAt_3b067_0 : decode cJ2_charAt_3b067 0 = .ok (.iload_n 1, 1) := by decide +kernel
theorem dJ2_charAt_3b067_1 : decode cJ2_charAt_3b067 1 = .ok (.aload_n 0, 1) := by decide +kernel
theorem dJ2_charAt_3b067_2 : decode cJ2_charAt_3b067 2 = .ok (.invokestatic 67, 3) := by decide +kernel
theorem dJ2_charAt_3b067_5 : decode cJ2_charAt_3b067 5 = .ok (.aload_n 0, 1) := by decide +kernel
theorem dJ2_charAt_3b067_6 : decode cJ2_charAt_3b067 6 = .ok (.iload_n 1, 1) := by decide +kernel
theorem dJ2_charAt_3b067_7 : decode cJ2_charAt_3b067 7 = .ok (.invokestatic 71, 3) := by decide +kernel
theorem dJ2_charAt_3b067_10 : decode cJ2_charAt_3b067 10 = .ok (.ireturn, 1) := by decide +kernel
theorem dJ2_checkIndex_2214a_0 : decode cJ2_checkIndex_2214a 0 = .ok (.iload_n 0, 1) := by decide +kernel
theorem dJ2_checkIndex_2214a_1 : decode cJ2_checkIndex_2214a 1 = .ok (.aload_n 1, 1) := by decide +kernel
theorem dJ2_checkIndex_2214a_2 : decode cJ2_checkIndex_2214a 2 = .ok (.invokestatic 48, 3) := by decide +kernel
theorem dJ2_checkIndex_2214a_5 : decode cJ2_checkIndex_2214a 5 = .ok (.invokestatic 414, 3) := by decide +kernel
theorem dJ2_checkIndex_2214a_8 : decode cJ2_checkIndex_2214a 8 = .ok (.return_, 1) := by decide +kernel
theorem dJ3_checkIndex_8e157_0 : decode cJ3_checkIndex_8e157 0 = .ok (.iload_n 0, 1) := by decide +kernel
theorem dJ3_checkIndex_8e157_1 : decode cJ3_checkIndex_8e157 1 = .ok (.ifCond .lt 8, 3) := by decide +kernel
theorem dJ3_checkIndex_8e157_4 : decode cJ3_checkIndex_8e157 4 = .ok (.iload_n 0, 1) := by decide +kernel
theorem dJ3_checkIndex_8e157_5 : decode cJ3_checkIndex_8e157 5 = .ok (.iload_n 1, 1) := by decide +kernel
theorem dJ3_checkIndex_8e157_6 : decode cJ3_checkIndex_8e157 6 = .ok (.if_icmp .lt 10, 3) := by decide +kernel
theorem dJ3_checkIndex_8e157_9 : decode cJ3_checkIndex_8e157 9 = .ok (.aload_n 2, 1) := by decide +kernel
theorem dJ3_checkIndex_8e157_10 : decode cJ3_checkIndex_8e157 10 = .ok (.iload_n 0, 1) := by decide +kernel
theorem dJ3_checkIndex_8e157_11 : decode cJ3_checkIndex_8e157 11 = .ok (.iload_n 1, 1) := by decide +kernel
theorem dJ3_checkIndex_8e157_12 : decode cJ3_checkIndex_8e157 12 = .ok (.invokestatic 95, 3) := by decide +kernel
theorem dJ3_checkIndex_8e157_15 : decode cJ3_checkIndex_8e157 15 = .ok (.athrow, 1) := by decide +kernel
theorem dJ3_checkIndex_8e157_16 : decode cJ3_checkIndex_8e157 16 = .ok (.iload_n 0, 1) := by decide +kernel
theorem dJ3_checkIndex_8e157_17 : decode cJ3_checkIndex_8e157 17 = .ok (.ireturn, 1) := by decide +kernel
theorem dL_law_0 : decode cL_law 0 = .ok (.new 7, 3) := by decide +kernel
theorem dL_law_3 : decode cL_law 3 = .ok (.dup, 1) := by decide +kernel
theorem dL_law_4 : decode cL_law 4 = .ok (.invokespecial 9, 3) := by decide +kernel
theorem dL_law_7 : decode cL_law 7 = .ok (.astore_n 1, 1) := by decide +kernel
theorem dL_law_8 : decode cL_law 8 = .ok (.new 10, 3) := by decide +kernel
theorem dL_law_11 : decode cL_law 11 = .ok (.dup, 1) := by decide +kernel
theorem dL_law_12 : decode cL_law 12 = .ok (.invokespecial 12, 3) := by decide +kernel
theorem dL_law_15 : decode cL_law 15 = .ok (.astore_n 2, 1) := by decide +kernel
theorem dL_law_16 : decode cL_law 16 = .ok (.iconst 0, 1) := by decide +kernel
theorem dL_law_17 : decode cL_law 17 = .ok (.istore_n 3, 1) := by decide +kernel
theorem dL_law_18 : decode cL_law 18 = .ok (.iload_n 3, 1) := by decide +kernel
theorem dL_law_19 : decode cL_law 19 = .ok (.aload_n 0, 1) := by decide +kernel
theorem dL_law_20 : decode cL_law 20 = .ok (.arraylength, 1) := by decide +kernel
theorem dL_law_21 : decode cL_law 21 = .ok (.iconst 4, 1) := by decide +kernel
theorem dL_law_22 : decode cL_law 22 = .ok (.isub, 1) := by decide +kernel
theorem dL_law_23 : decode cL_law 23 = .ok (.if_icmp .gt 926, 3) := by decide +kernel
theorem dL_law_26 : decode cL_law 26 = .ok (.aload_n 0, 1) := by decide +kernel
theorem dL_law_27 : decode cL_law 27 = .ok (.iload_n 3, 1) := by decide +kernel
theorem dL_law_28 : decode cL_law 28 = .ok (.iaload, 1) := by decide +kernel
theorem dL_law_29 : decode cL_law 29 = .ok (.bipush 31, 2) := by decide +kernel
theorem dL_law_31 : decode cL_law 31 = .ok (.iand, 1) := by decide +kernel
theorem dL_law_32 : decode cL_law 32 = .ok (.tableswitch 911 0 27 #[128, 151, 164, 197, 230, 289, 322, 345, 378, 391, 415, 438, 461, 494, 527, 560, 593, 616, 639, 683, 717, 750, 763, 806, 829, 862, 875, 888], 128) := by decide +kernel
theorem dL_law_160 : decode cL_law 160 = .ok (.aload_n 1, 1) := by decide +kernel
theorem dL_law_161 : decode cL_law 161 = .ok (.aload_n 0, 1) := by decide +kernel
theorem dL_law_162 : decode cL_law 162 = .ok (.iload_n 3, 1) := by decide +kernel
theorem dL_law_163 : decode cL_law 163 = .ok (.iconst 1, 1) := by decide +kernel
theorem dL_law_164 : decode cL_law 164 = .ok (.iadd, 1) := by decide +kernel
theorem dL_law_165 : decode cL_law 165 = .ok (.iaload, 1) := by decide +kernel
theorem dL_law_166 : decode cL_law 166 = .ok (.invokevirtual 13, 3) := by decide +kernel
theorem dL_law_169 : decode cL_law 169 = .ok (.aload_n 2, 1) := by decide +kernel
theorem dL_law_170 : decode cL_law 170 = .ok (.aload_n 0, 1) := by decide +kernel
theorem dL_law_171 : decode cL_law 171 = .ok (.iload_n 3, 1) := by decide +kernel
theorem dL_law_172 : decode cL_law 172 = .ok (.iconst 1, 1) := by decide +kernel
theorem dL_law_173 : decode cL_law 173 = .ok (.iadd, 1) := by decide +kernel
theorem dL_law_174 : decode cL_law 174 = .ok (.iaload, 1) := by decide +kernel
theorem dL_law_175 : decode cL_law 175 = .ok (.invokevirtual 17, 3) := by decide +kernel
theorem dL_law_178 : decode cL_law 178 = .ok (.if_icmp .eq 765, 3) := by decide +kernel
theorem dL_law_181 : decode cL_law 181 = .ok (.iconst 0, 1) := by decide +kernel
theorem dL_law_182 : decode cL_law 182 = .ok (.ireturn, 1) := by decide +kernel
theorem dL_law_183 : decode cL_law 183 = .ok (.aload_n 1, 1) := by decide +kernel
theorem dL_law_184 : decode cL_law 184 = .ok (.invokevirtual 18, 3) := by decide +kernel
theorem dL_law_187 : decode cL_law 187 = .ok (.aload_n 2, 1) := by decide +kernel
theorem dL_law_188 : decode cL_law 188 = .ok (.invokevirtual 22, 3) := by decide +kernel
theorem dL_law_191 : decode cL_law 191 = .ok (.if_icmp .eq 752, 3) := by decide +kernel
theorem dL_law_194 : decode cL_law 194 = .ok (.iconst 0, 1) := by decide +kernel
theorem dL_law_195 : decode cL_law 195 = .ok (.ireturn, 1) := by decide +kernel
theorem dL_law_196 : decode cL_law 196 = .ok (.aload_n 1, 1) := by decide +kernel
theorem dL_law_197 : decode cL_law 197 = .ok (.aload_n 0, 1) := by decide +kernel
theorem dL_law_198 : decode cL_law 198 = .ok (.iload_n 3, 1) := by decide +kernel
theorem dL_law_199 : decode cL_law 199 = .ok (.iconst 1, 1) := by decide +kernel
theorem dL_law_200 : decode cL_law 200 = .ok (.iadd, 1) := by decide +kernel
theorem dL_law_201 : decode cL_law 201 = .ok (.iaload, 1) := by decide +kernel
theorem dL_law_202 : decode cL_law 202 = .ok (.aload_n 0, 1) := by decide +kernel
theorem dL_law_203 : decode cL_law 203 = .ok (.iload_n 3, 1) := by decide +kernel
theorem dL_law_204 : decode cL_law 204 = .ok (.iconst 2, 1) := by decide +kernel
theorem dL_law_205 : decode cL_law 205 = .ok (.iadd, 1) := by decide +kernel
theorem dL_law_206 : decode cL_law 206 = .ok (.iaload, 1) := by decide +kernel
theorem dL_law_207 : decode cL_law 207 = .ok (.invokevirtual 23, 3) := by decide +kernel
theorem dL_law_210 : decode cL_law 210 = .ok (.aload_n 2, 1) := by decide +kernel
theorem dL_law_211 : decode cL_law 211 = .ok (.aload_n 0, 1) := by decide +kernel
theorem dL_law_212 : decode cL_law 212 = .ok (.iload_n 3, 1) := by decide +kernel
theorem dL_law_213 : decode cL_law 213 = .ok (.iconst 1, 1) := by decide +kernel
theorem dL_law_214 : decode cL_law 214 = .ok (.iadd, 1) := by decide +kernel
theorem dL_law_215 : decode cL_law 215 = .ok (.iaload, 1) := by decide +kernel
theorem dL_law_216 : decode cL_law 216 = .ok (.aload_n 0, 1) := by decide +kernel
theorem dL_law_217 : decode cL_law 217 = .ok (.iload_n 3, 1) := by decide +kernel
theorem dL_law_218 : decode cL_law 218 = .ok (.iconst 2, 1) := by decide +kernel
theorem dL_law_219 : decode cL_law 219 = .ok (.iadd, 1) := by decide +kernel
theorem dL_law_220 : decode cL_law 220 = .ok (.iaload, 1) := by decide +kernel
theorem dL_law_221 : decode cL_law 221 = .ok (.invokevirtual 27, 3) := by decide +kernel
theorem dL_law_224 : decode cL_law 224 = .ok (.if_icmp .eq 719, 3) := by decide +kernel
theorem dL_law_227 : decode cL_law 227 = .ok (.iconst 0, 1) := by decide +kernel
theorem dL_law_228 : decode cL_law 228 = .ok (.ireturn, 1) := by decide +kernel
theorem dL_law_229 : decode cL_law 229 = .ok (.aload_n 1, 1) := by decide +kernel
theorem dL_law_230 : decode cL_law 230 = .ok (.aload_n 0, 1) := by decide +kernel
theorem dL_law_231 : decode cL_law 231 = .ok (.iload_n 3, 1) := by decide +kernel
theorem dL_law_232 : decode cL_law 232 = .ok (.iconst 1, 1) := by decide +kernel
theorem dL_law_233 : decode cL_law 233 = .ok (.iadd, 1) := by decide +kernel
theorem dL_law_234 : decode cL_law 234 = .ok (.iaload, 1) := by decide +kernel
theorem dL_law_235 : decode cL_law 235 = .ok (.aload_n 0, 1) := by decide +kernel
theorem dL_law_236 : decode cL_law 236 = .ok (.iload_n 3, 1) := by decide +kernel
theorem dL_law_237 : decode cL_law 237 = .ok (.iconst 2, 1) := by decide +kernel
theorem dL_law_238 : decode cL_law 238 = .ok (.iadd, 1) := by decide +kernel
theorem dL_law_239 : decode cL_law 239 = .ok (.iaload, 1) := by decide +kernel
theorem dL_law_240 : decode cL_law 240 = .ok (.invokevirtual 28, 3) := by decide +kernel
theorem dL_law_243 : decode cL_law 243 = .ok (.aload_n 2, 1) := by decide +kernel
theorem dL_law_244 : decode cL_law 244 = .ok (.aload_n 0, 1) := by decide +kernel
theorem dL_law_245 : decode cL_law 245 = .ok (.iload_n 3, 1) := by decide +kernel
theorem dL_law_246 : decode cL_law 246 = .ok (.iconst 1, 1) := by decide +kernel
theorem dL_law_247 : decode cL_law 247 = .ok (.iadd, 1) := by decide +kernel
theorem dL_law_248 : decode cL_law 248 = .ok (.iaload, 1) := by decide +kernel
theorem dL_law_249 : decode cL_law 249 = .ok (.aload_n 0, 1) := by decide +kernel
theorem dL_law_250 : decode cL_law 250 = .ok (.iload_n 3, 1) := by decide +kernel
theorem dL_law_251 : decode cL_law 251 = .ok (.iconst 2, 1) := by decide +kernel
theorem dL_law_252 : decode cL_law 252 = .ok (.iadd, 1) := by decide +kernel
theorem dL_law_253 : decode cL_law 253 = .ok (.iaload, 1) := by decide +kernel
theorem dL_law_254 : decode cL_law 254 = .ok (.invokevirtual 31, 3) := by decide +kernel
theorem dL_law_257 : decode cL_law 257 = .ok (.if_icmp .eq 686, 3) := by decide +kernel
theorem dL_law_260 : decode cL_law 260 = .ok (.iconst 0, 1) := by decide +kernel
theorem dL_law_261 : decode cL_law 261 = .ok (.ireturn, 1) := by decide +kernel
theorem dL_law_262 : decode cL_law 262 = .ok (.aload_n 1, 1) := by decide +kernel
theorem dL_law_263 : decode cL_law 263 = .ok (.aload_n 0, 1) := by decide +kernel
theorem dL_law_264 : decode cL_law 264 = .ok (.iload_n 3, 1) := by decide +kernel
theorem dL_law_265 : decode cL_law 265 = .ok (.iconst 1, 1) := by decide +kernel
theorem dL_law_266 : decode cL_law 266 = .ok (.iadd, 1) := by decide +kernel
theorem dL_law_267 : decode cL_law 267 = .ok (.iaload, 1) := by decide +kernel
theorem dL_law_268 : decode cL_law 268 = .ok (.aload_n 0, 1) := by decide +kernel
theorem dL_law_269 : decode cL_law 269 = .ok (.iload_n 3, 1) := by decide +kernel
theorem dL_law_270 : decode cL_law 270 = .ok (.iconst 2, 1) := by decide +kernel
theorem dL_law_271 : decode cL_law 271 = .ok (.iadd, 1) := by decide +kernel
theorem dL_law_272 : decode cL_law 272 = .ok (.iaload, 1) := by decide +kernel
theorem dL_law_273 : decode cL_law 273 = .ok (.aload_n 0, 1) := by decide +kernel
theorem dL_law_274 : decode cL_law 274 = .ok (.iload_n 3, 1) := by decide +kernel
theorem dL_law_275 : decode cL_law 275 = .ok (.iconst 3, 1) := by decide +kernel
theorem dL_law_276 : decode cL_law 276 = .ok (.iadd, 1) := by decide +kernel
theorem dL_law_277 : decode cL_law 277 = .ok (.iaload, 1) := by decide +kernel
theorem dL_law_278 : decode cL_law 278 = .ok (.ifCond .eq 7, 3) := by decide +kernel
theorem dL_law_281 : decode cL_law 281 = .ok (.iconst 1, 1) := by decide +kernel
theorem dL_law_282 : decode cL_law 282 = .ok (.goto 4, 3) := by decide +kernel
theorem dL_law_285 : decode cL_law 285 = .ok (.iconst 0, 1) := by decide +kernel
theorem dL_law_286 : decode cL_law 286 = .ok (.invokevirtual 32, 3) := by decide +kernel
theorem dL_law_289 : decode cL_law 289 = .ok (.aload_n 2, 1) := by decide +kernel
theorem dL_law_290 : decode cL_law 290 = .ok (.aload_n 0, 1) := by decide +kernel
theorem dL_law_291 : decode cL_law 291 = .ok (.iload_n 3, 1) := by decide +kernel
theorem dL_law_292 : decode cL_law 292 = .ok (.iconst 1, 1) := by decide +kernel
theorem dL_law_293 : decode cL_law 293 = .ok (.iadd, 1) := by decide +kernel
theorem dL_law_294 : decode cL_law 294 = .ok (.iaload, 1) := by decide +kernel
theorem dL_law_295 : decode cL_law 295 = .ok (.aload_n 0, 1) := by decide +kernel
theorem dL_law_296 : decode cL_law 296 = .ok (.iload_n 3, 1) := by decide +kernel
theorem dL_law_297 : decode cL_law 297 = .ok (.iconst 2, 1) := by decide +kernel
theorem dL_law_298 : decode cL_law 298 = .ok (.iadd, 1) := by decide +kernel
theorem dL_law_299 : decode cL_law 299 = .ok (.iaload, 1) := by decide +kernel
theorem dL_law_300 : decode cL_law 300 = .ok (.aload_n 0, 1) := by decide +kernel
theorem dL_law_301 : decode cL_law 301 = .ok (.iload_n 3, 1) := by decide +kernel
theorem dL_law_302 : decode cL_law 302 = .ok (.iconst 3, 1) := by decide +kernel
theorem dL_law_303 : decode cL_law 303 = .ok (.iadd, 1) := by decide +kernel
theorem dL_law_304 : decode cL_law 304 = .ok (.iaload, 1) := by decide +kernel
theorem dL_law_305 : decode cL_law 305 = .ok (.ifCond .eq 7, 3) := by decide +kernel
theorem dL_law_308 : decode cL_law 308 = .ok (.iconst 1, 1) := by decide +kernel
theorem dL_law_309 : decode cL_law 309 = .ok (.goto 4, 3) := by decide +kernel
theorem dL_law_312 : decode cL_law 312 = .ok (.iconst 0, 1) := by decide +kernel
theorem dL_law_313 : decode cL_law 313 = .ok (.invokevirtual 36, 3) := by decide +kernel
theorem dL_law_316 : decode cL_law 316 = .ok (.if_icmp .eq 627, 3) := by decide +kernel
theorem dL_law_319 : decode cL_law 319 = .ok (.iconst 0, 1) := by decide +kernel
theorem dL_law_320 : decode cL_law 320 = .ok (.ireturn, 1) := by decide +kernel
theorem dL_law_321 : decode cL_law 321 = .ok (.aload_n 1, 1) := by decide +kernel
theorem dL_law_322 : decode cL_law 322 = .ok (.aload_n 0, 1) := by decide +kernel
theorem dL_law_323 : decode cL_law 323 = .ok (.iload_n 3, 1) := by decide +kernel
theorem dL_law_324 : decode cL_law 324 = .ok (.iconst 1, 1) := by decide +kernel
theorem dL_law_325 : decode cL_law 325 = .ok (.iadd, 1) := by decide +kernel
theorem dL_law_326 : decode cL_law 326 = .ok (.iaload, 1) := by decide +kernel
theorem dL_law_327 : decode cL_law 327 = .ok (.aload_n 0, 1) := by decide +kernel
theorem dL_law_328 : decode cL_law 328 = .ok (.iload_n 3, 1) := by decide +kernel
theorem dL_law_329 : decode cL_law 329 = .ok (.iconst 2, 1) := by decide +kernel
theorem dL_law_330 : decode cL_law 330 = .ok (.iadd, 1) := by decide +kernel
theorem dL_law_331 : decode cL_law 331 = .ok (.iaload, 1) := by decide +kernel
theorem dL_law_332 : decode cL_law 332 = .ok (.invokevirtual 37, 3) := by decide +kernel
theorem dL_law_335 : decode cL_law 335 = .ok (.aload_n 2, 1) := by decide +kernel
theorem dL_law_336 : decode cL_law 336 = .ok (.aload_n 0, 1) := by decide +kernel
theorem dL_law_337 : decode cL_law 337 = .ok (.iload_n 3, 1) := by decide +kernel
theorem dL_law_338 : decode cL_law 338 = .ok (.iconst 1, 1) := by decide +kernel
theorem dL_law_339 : decode cL_law 339 = .ok (.iadd, 1) := by decide +kernel
theorem dL_law_340 : decode cL_law 340 = .ok (.iaload, 1) := by decide +kernel
theorem dL_law_341 : decode cL_law 341 = .ok (.aload_n 0, 1) := by decide +kernel
theorem dL_law_342 : decode cL_law 342 = .ok (.iload_n 3, 1) := by decide +kernel
theorem dL_law_343 : decode cL_law 343 = .ok (.iconst 2, 1) := by decide +kernel
theorem dL_law_344 : decode cL_law 344 = .ok (.iadd, 1) := by decide +kernel
theorem dL_law_345 : decode cL_law 345 = .ok (.iaload, 1) := by decide +kernel
theorem dL_law_346 : decode cL_law 346 = .ok (.invokevirtual 40, 3) := by decide +kernel
theorem dL_law_349 : decode cL_law 349 = .ok (.if_icmp .eq 594, 3) := by decide +kernel
theorem dL_law_352 : decode cL_law 352 = .ok (.iconst 0, 1) := by decide +kernel
theorem dL_law_353 : decode cL_law 353 = .ok (.ireturn, 1) := by decide +kernel
theorem dL_law_354 : decode cL_law 354 = .ok (.aload_n 1, 1) := by decide +kernel
theorem dL_law_355 : decode cL_law 355 = .ok (.aload_n 0, 1) := by decide +kernel
theorem dL_law_356 : decode cL_law 356 = .ok (.iload_n 3, 1) := by decide +kernel
theorem dL_law_357 : decode cL_law 357 = .ok (.iconst 1, 1) := by decide +kernel
theorem dL_law_358 : decode cL_law 358 = .ok (.iadd, 1) := by decide +kernel
theorem dL_law_359 : decode cL_law 359 = .ok (.iaload, 1) := by decide +kernel
theorem dL_law_360 : decode cL_law 360 = .ok (.invokevirtual 41, 3) := by decide +kernel
theorem dL_law_363 : decode cL_law 363 = .ok (.aload_n 2, 1) := by decide +kernel
theorem dL_law_364 : decode cL_law 364 = .ok (.aload_n 0, 1) := by decide +kernel
theorem dL_law_365 : decode cL_law 365 = .ok (.iload_n 3, 1) := by decide +kernel
theorem dL_law_366 : decode cL_law 366 = .ok (.iconst 1, 1) := by decide +kernel
theorem dL_law_367 : decode cL_law 367 = .ok (.iadd, 1) := by decide +kernel
theorem dL_law_368 : decode cL_law 368 = .ok (.iaload, 1) := by decide +kernel
theorem dL_law_369 : decode cL_law 369 = .ok (.invokevirtual 44, 3) := by decide +kernel
theorem dL_law_372 : decode cL_law 372 = .ok (.if_icmp .eq 571, 3) := by decide +kernel
theorem dL_law_375 : decode cL_law 375 = .ok (.iconst 0, 1) := by decide +kernel
theorem dL_law_376 : decode cL_law 376 = .ok (.ireturn, 1) := by decide +kernel
theorem dL_law_377 : decode cL_law 377 = .ok (.aload_n 1, 1) := by decide +kernel
theorem dL_law_378 : decode cL_law 378 = .ok (.aload_n 0, 1) := by decide +kernel
theorem dL_law_379 : decode cL_law 379 = .ok (.iload_n 3, 1) := by decide +kernel
theorem dL_law_380 : decode cL_law 380 = .ok (.iconst 1, 1) := by decide +kernel
theorem dL_law_381 : decode cL_law 381 = .ok (.iadd, 1) := by decide +kernel
theorem dL_law_382 : decode cL_law 382 = .ok (.iaload, 1) := by decide +kernel
theorem dL_law_383 : decode cL_law 383 = .ok (.aload_n 0, 1) := by decide +kernel
theorem dL_law_384 : decode cL_law 384 = .ok (.iload_n 3, 1) := by decide +kernel
theorem dL_law_385 : decode cL_law 385 = .ok (.iconst 2, 1) := by decide +kernel
theorem dL_law_386 : decode cL_law 386 = .ok (.iadd, 1) := by decide +kernel
theorem dL_law_387 : decode cL_law 387 = .ok (.iaload, 1) := by decide +kernel
theorem dL_law_388 : decode cL_law 388 = .ok (.invokevirtual 45, 3) := by decide +kernel
theorem dL_law_391 : decode cL_law 391 = .ok (.aload_n 2, 1) := by decide +kernel
theorem dL_law_392 : decode cL_law 392 = .ok (.aload_n 0, 1) := by decide +kernel
theorem dL_law_393 : decode cL_law 393 = .ok (.iload_n 3, 1) := by decide +kernel
theorem dL_law_394 : decode cL_law 394 = .ok (.iconst 1, 1) := by decide +kernel
theorem dL_law_395 : decode cL_law 395 = .ok (.iadd, 1) := by decide +kernel
theorem dL_law_396 : decode cL_law 396 = .ok (.iaload, 1) := by decide +kernel
theorem dL_law_397 : decode cL_law 397 = .ok (.aload_n 0, 1) := by decide +kernel
theorem dL_law_398 : decode cL_law 398 = .ok (.iload_n 3, 1) := by decide +kernel
theorem dL_law_399 : decode cL_law 399 = .ok (.iconst 2, 1) := by decide +kernel
theorem dL_law_400 : decode cL_law 400 = .ok (.iadd, 1) := by decide +kernel
theorem dL_law_401 : decode cL_law 401 = .ok (.iaload, 1) := by decide +kernel
theorem dL_law_402 : decode cL_law 402 = .ok (.invokevirtual 48, 3) := by decide +kernel
theorem dL_law_405 : decode cL_law 405 = .ok (.if_icmp .eq 538, 3) := by decide +kernel
theorem dL_law_408 : decode cL_law 408 = .ok (.iconst 0, 1) := by decide +kernel
theorem dL_law_409 : decode cL_law 409 = .ok (.ireturn, 1) := by decide +kernel
theorem dL_law_410 : decode cL_law 410 = .ok (.aload_n 1, 1) := by decide +kernel
theorem dL_law_411 : decode cL_law 411 = .ok (.invokevirtual 49, 3) := by decide +kernel
theorem dL_law_414 : decode cL_law 414 = .ok (.aload_n 2, 1) := by decide +kernel
theorem dL_law_415 : decode cL_law 415 = .ok (.invokevirtual 52, 3) := by decide +kernel
theorem dL_law_418 : decode cL_law 418 = .ok (.if_icmp .eq 525, 3) := by decide +kernel
theorem dL_law_421 : decode cL_law 421 = .ok (.iconst 0, 1) := by decide +kernel
theorem dL_law_422 : decode cL_law 422 = .ok (.ireturn, 1) := by decide +kernel
theorem dL_law_423 : decode cL_law 423 = .ok (.aload_n 1, 1) := by decide +kernel
theorem dL_law_424 : decode cL_law 424 = .ok (.aload_n 0, 1) := by decide +kernel
theorem dL_law_425 : decode cL_law 425 = .ok (.iload_n 3, 1) := by decide +kernel
theorem dL_law_426 : decode cL_law 426 = .ok (.iconst 1, 1) := by decide +kernel
theorem dL_law_427 : decode cL_law 427 = .ok (.iadd, 1) := by decide +kernel
theorem dL_law_428 : decode cL_law 428 = .ok (.iaload, 1) := by decide +kernel
theorem dL_law_429 : decode cL_law 429 = .ok (.invokevirtual 53, 3) := by decide +kernel
theorem dL_law_432 : decode cL_law 432 = .ok (.aload_n 2, 1) := by decide +kernel
theorem dL_law_433 : decode cL_law 433 = .ok (.aload_n 0, 1) := by decide +kernel
theorem dL_law_434 : decode cL_law 434 = .ok (.iload_n 3, 1) := by decide +kernel
theorem dL_law_435 : decode cL_law 435 = .ok (.iconst 1, 1) := by decide +kernel
theorem dL_law_436 : decode cL_law 436 = .ok (.iadd, 1) := by decide +kernel
theorem dL_law_437 : decode cL_law 437 = .ok (.iaload, 1) := by decide +kernel
theorem dL_law_438 : decode cL_law 438 = .ok (.invokevirtual 57, 3) := by decide +kernel
theorem dL_law_441 : decode cL_law 441 = .ok (.lcmp, 1) := by decide +kernel
theorem dL_law_442 : decode cL_law 442 = .ok (.ifCond .eq 501, 3) := by decide +kernel
theorem dL_law_445 : decode cL_law 445 = .ok (.iconst 0, 1) := by decide +kernel
theorem dL_law_446 : decode cL_law 446 = .ok (.ireturn, 1) := by decide +kernel
theorem dL_law_447 : decode cL_law 447 = .ok (.aload_n 1, 1) := by decide +kernel
theorem dL_law_448 : decode cL_law 448 = .ok (.aload_n 0, 1) := by decide +kernel
theorem dL_law_449 : decode cL_law 449 = .ok (.iload_n 3, 1) := by decide +kernel
theorem dL_law_450 : decode cL_law 450 = .ok (.iconst 1, 1) := by decide +kernel
theorem dL_law_451 : decode cL_law 451 = .ok (.iadd, 1) := by decide +kernel
theorem dL_law_452 : decode cL_law 452 = .ok (.iaload, 1) := by decide +kernel
theorem dL_law_453 : decode cL_law 453 = .ok (.invokevirtual 58, 3) := by decide +kernel
theorem dL_law_456 : decode cL_law 456 = .ok (.aload_n 2, 1) := by decide +kernel
theorem dL_law_457 : decode cL_law 457 = .ok (.aload_n 0, 1) := by decide +kernel
theorem dL_law_458 : decode cL_law 458 = .ok (.iload_n 3, 1) := by decide +kernel
theorem dL_law_459 : decode cL_law 459 = .ok (.iconst 1, 1) := by decide +kernel
theorem dL_law_460 : decode cL_law 460 = .ok (.iadd, 1) := by decide +kernel
theorem dL_law_461 : decode cL_law 461 = .ok (.iaload, 1) := by decide +kernel
theorem dL_law_462 : decode cL_law 462 = .ok (.invokevirtual 61, 3) := by decide +kernel
theorem dL_law_465 : decode cL_law 465 = .ok (.if_icmp .eq 478, 3) := by decide +kernel
theorem dL_law_468 : decode cL_law 468 = .ok (.iconst 0, 1) := by decide +kernel
theorem dL_law_469 : decode cL_law 469 = .ok (.ireturn, 1) := by decide +kernel
theorem dL_law_470 : decode cL_law 470 = .ok (.aload_n 1, 1) := by decide +kernel
theorem dL_law_471 : decode cL_law 471 = .ok (.aload_n 0, 1) := by decide +kernel
theorem dL_law_472 : decode cL_law 472 = .ok (.iload_n 3, 1) := by decide +kernel
theorem dL_law_473 : decode cL_law 473 = .ok (.iconst 1, 1) := by decide +kernel
theorem dL_law_474 : decode cL_law 474 = .ok (.iadd, 1) := by decide +kernel
theorem dL_law_475 : decode cL_law 475 = .ok (.iaload, 1) := by decide +kernel
theorem dL_law_476 : decode cL_law 476 = .ok (.invokevirtual 62, 3) := by decide +kernel
theorem dL_law_479 : decode cL_law 479 = .ok (.aload_n 2, 1) := by decide +kernel
theorem dL_law_480 : decode cL_law 480 = .ok (.aload_n 0, 1) := by decide +kernel
theorem dL_law_481 : decode cL_law 481 = .ok (.iload_n 3, 1) := by decide +kernel
theorem dL_law_482 : decode cL_law 482 = .ok (.iconst 1, 1) := by decide +kernel
theorem dL_law_483 : decode cL_law 483 = .ok (.iadd, 1) := by decide +kernel
theorem dL_law_484 : decode cL_law 484 = .ok (.iaload, 1) := by decide +kernel
theorem dL_law_485 : decode cL_law 485 = .ok (.invokevirtual 65, 3) := by decide +kernel
theorem dL_law_488 : decode cL_law 488 = .ok (.if_icmp .eq 455, 3) := by decide +kernel
theorem dL_law_491 : decode cL_law 491 = .ok (.iconst 0, 1) := by decide +kernel
theorem dL_law_492 : decode cL_law 492 = .ok (.ireturn, 1) := by decide +kernel
theorem dL_law_493 : decode cL_law 493 = .ok (.aload_n 1, 1) := by decide +kernel
theorem dL_law_494 : decode cL_law 494 = .ok (.aload_n 0, 1) := by decide +kernel
theorem dL_law_495 : decode cL_law 495 = .ok (.iload_n 3, 1) := by decide +kernel
theorem dL_law_496 : decode cL_law 496 = .ok (.iconst 1, 1) := by decide +kernel
theorem dL_law_497 : decode cL_law 497 = .ok (.iadd, 1) := by decide +kernel
theorem dL_law_498 : decode cL_law 498 = .ok (.iaload, 1) := by decide +kernel
theorem dL_law_499 : decode cL_law 499 = .ok (.aload_n 0, 1) := by decide +kernel
theorem dL_law_500 : decode cL_law 500 = .ok (.iload_n 3, 1) := by decide +kernel
theorem dL_law_501 : decode cL_law 501 = .ok (.iconst 2, 1) := by decide +kernel
theorem dL_law_502 : decode cL_law 502 = .ok (.iadd, 1) := by decide +kernel
theorem dL_law_503 : decode cL_law 503 = .ok (.iaload, 1) := by decide +kernel
theorem dL_law_504 : decode cL_law 504 = .ok (.invokevirtual 66, 3) := by decide +kernel
theorem dL_law_507 : decode cL_law 507 = .ok (.aload_n 2, 1) := by decide +kernel
theorem dL_law_508 : decode cL_law 508 = .ok (.aload_n 0, 1) := by decide +kernel
theorem dL_law_509 : decode cL_law 509 = .ok (.iload_n 3, 1) := by decide +kernel
theorem dL_law_510 : decode cL_law 510 = .ok (.iconst 1, 1) := by decide +kernel
theorem dL_law_511 : decode cL_law 511 = .ok (.iadd, 1) := by decide +kernel
theorem dL_law_512 : decode cL_law 512 = .ok (.iaload, 1) := by decide +kernel
theorem dL_law_513 : decode cL_law 513 = .ok (.aload_n 0, 1) := by decide +kernel
theorem dL_law_514 : decode cL_law 514 = .ok (.iload_n 3, 1) := by decide +kernel
theorem dL_law_515 : decode cL_law 515 = .ok (.iconst 2, 1) := by decide +kernel
theorem dL_law_516 : decode cL_law 516 = .ok (.iadd, 1) := by decide +kernel
theorem dL_law_517 : decode cL_law 517 = .ok (.iaload, 1) := by decide +kernel
theorem dL_law_518 : decode cL_law 518 = .ok (.invokevirtual 69, 3) := by decide +kernel
theorem dL_law_521 : decode cL_law 521 = .ok (.if_icmp .eq 422, 3) := by decide +kernel
theorem dL_law_524 : decode cL_law 524 = .ok (.iconst 0, 1) := by decide +kernel
theorem dL_law_525 : decode cL_law 525 = .ok (.ireturn, 1) := by decide +kernel
theorem dL_law_526 : decode cL_law 526 = .ok (.aload_n 1, 1) := by decide +kernel
theorem dL_law_527 : decode cL_law 527 = .ok (.aload_n 0, 1) := by decide +kernel
theorem dL_law_528 : decode cL_law 528 = .ok (.iload_n 3, 1) := by decide +kernel
theorem dL_law_529 : decode cL_law 529 = .ok (.iconst 1, 1) := by decide +kernel
theorem dL_law_530 : decode cL_law 530 = .ok (.iadd, 1) := by decide +kernel
theorem dL_law_531 : decode cL_law 531 = .ok (.iaload, 1) := by decide +kernel
theorem dL_law_532 : decode cL_law 532 = .ok (.aload_n 0, 1) := by decide +kernel
theorem dL_law_533 : decode cL_law 533 = .ok (.iload_n 3, 1) := by decide +kernel
theorem dL_law_534 : decode cL_law 534 = .ok (.iconst 2, 1) := by decide +kernel
theorem dL_law_535 : decode cL_law 535 = .ok (.iadd, 1) := by decide +kernel
theorem dL_law_536 : decode cL_law 536 = .ok (.iaload, 1) := by decide +kernel
theorem dL_law_537 : decode cL_law 537 = .ok (.invokevirtual 70, 3) := by decide +kernel
theorem dL_law_540 : decode cL_law 540 = .ok (.aload_n 2, 1) := by decide +kernel
theorem dL_law_541 : decode cL_law 541 = .ok (.aload_n 0, 1) := by decide +kernel
theorem dL_law_542 : decode cL_law 542 = .ok (.iload_n 3, 1) := by decide +kernel
theorem dL_law_543 : decode cL_law 543 = .ok (.iconst 1, 1) := by decide +kernel
theorem dL_law_544 : decode cL_law 544 = .ok (.iadd, 1) := by decide +kernel
theorem dL_law_545 : decode cL_law 545 = .ok (.iaload, 1) := by decide +kernel
theorem dL_law_546 : decode cL_law 546 = .ok (.aload_n 0, 1) := by decide +kernel
theorem dL_law_547 : decode cL_law 547 = .ok (.iload_n 3, 1) := by decide +kernel
theorem dL_law_548 : decode cL_law 548 = .ok (.iconst 2, 1) := by decide +kernel
theorem dL_law_549 : decode cL_law 549 = .ok (.iadd, 1) := by decide +kernel
theorem dL_law_550 : decode cL_law 550 = .ok (.iaload, 1) := by decide +kernel
theorem dL_law_551 : decode cL_law 551 = .ok (.invokevirtual 73, 3) := by decide +kernel
theorem dL_law_554 : decode cL_law 554 = .ok (.if_icmp .eq 389, 3) := by decide +kernel
theorem dL_law_557 : decode cL_law 557 = .ok (.iconst 0, 1) := by decide +kernel
theorem dL_law_558 : decode cL_law 558 = .ok (.ireturn, 1) := by decide +kernel
theorem dL_law_559 : decode cL_law 559 = .ok (.aload_n 1, 1) := by decide +kernel
theorem dL_law_560 : decode cL_law 560 = .ok (.aload_n 0, 1) := by decide +kernel
theorem dL_law_561 : decode cL_law 561 = .ok (.iload_n 3, 1) := by decide +kernel
theorem dL_law_562 : decode cL_law 562 = .ok (.iconst 1, 1) := by decide +kernel
theorem dL_law_563 : decode cL_law 563 = .ok (.iadd, 1) := by decide +kernel
theorem dL_law_564 : decode cL_law 564 = .ok (.iaload, 1) := by decide +kernel
theorem dL_law_565 : decode cL_law 565 = .ok (.aload_n 0, 1) := by decide +kernel
theorem dL_law_566 : decode cL_law 566 = .ok (.iload_n 3, 1) := by decide +kernel
theorem dL_law_567 : decode cL_law 567 = .ok (.iconst 2, 1) := by decide +kernel
theorem dL_law_568 : decode cL_law 568 = .ok (.iadd, 1) := by decide +kernel
theorem dL_law_569 : decode cL_law 569 = .ok (.iaload, 1) := by decide +kernel
theorem dL_law_570 : decode cL_law 570 = .ok (.invokevirtual 74, 3) := by decide +kernel
theorem dL_law_573 : decode cL_law 573 = .ok (.aload_n 2, 1) := by decide +kernel
theorem dL_law_574 : decode cL_law 574 = .ok (.aload_n 0, 1) := by decide +kernel
theorem dL_law_575 : decode cL_law 575 = .ok (.iload_n 3, 1) := by decide +kernel
theorem dL_law_576 : decode cL_law 576 = .ok (.iconst 1, 1) := by decide +kernel
theorem dL_law_577 : decode cL_law 577 = .ok (.iadd, 1) := by decide +kernel
theorem dL_law_578 : decode cL_law 578 = .ok (.iaload, 1) := by decide +kernel
theorem dL_law_579 : decode cL_law 579 = .ok (.aload_n 0, 1) := by decide +kernel
theorem dL_law_580 : decode cL_law 580 = .ok (.iload_n 3, 1) := by decide +kernel
theorem dL_law_581 : decode cL_law 581 = .ok (.iconst 2, 1) := by decide +kernel
theorem dL_law_582 : decode cL_law 582 = .ok (.iadd, 1) := by decide +kernel
theorem dL_law_583 : decode cL_law 583 = .ok (.iaload, 1) := by decide +kernel
theorem dL_law_584 : decode cL_law 584 = .ok (.invokevirtual 77, 3) := by decide +kernel
theorem dL_law_587 : decode cL_law 587 = .ok (.if_icmp .eq 356, 3) := by decide +kernel
theorem dL_law_590 : decode cL_law 590 = .ok (.iconst 0, 1) := by decide +kernel
theorem dL_law_591 : decode cL_law 591 = .ok (.ireturn, 1) := by decide +kernel
theorem dL_law_592 : decode cL_law 592 = .ok (.aload_n 1, 1) := by decide +kernel
theorem dL_law_593 : decode cL_law 593 = .ok (.aload_n 0, 1) := by decide +kernel
theorem dL_law_594 : decode cL_law 594 = .ok (.iload_n 3, 1) := by decide +kernel
theorem dL_law_595 : decode cL_law 595 = .ok (.iconst 1, 1) := by decide +kernel
theorem dL_law_596 : decode cL_law 596 = .ok (.iadd, 1) := by decide +kernel
theorem dL_law_597 : decode cL_law 597 = .ok (.iaload, 1) := by decide +kernel
theorem dL_law_598 : decode cL_law 598 = .ok (.aload_n 0, 1) := by decide +kernel
theorem dL_law_599 : decode cL_law 599 = .ok (.iload_n 3, 1) := by decide +kernel
theorem dL_law_600 : decode cL_law 600 = .ok (.iconst 2, 1) := by decide +kernel
theorem dL_law_601 : decode cL_law 601 = .ok (.iadd, 1) := by decide +kernel
theorem dL_law_602 : decode cL_law 602 = .ok (.iaload, 1) := by decide +kernel
theorem dL_law_603 : decode cL_law 603 = .ok (.invokevirtual 78, 3) := by decide +kernel
theorem dL_law_606 : decode cL_law 606 = .ok (.aload_n 2, 1) := by decide +kernel
theorem dL_law_607 : decode cL_law 607 = .ok (.aload_n 0, 1) := by decide +kernel
theorem dL_law_608 : decode cL_law 608 = .ok (.iload_n 3, 1) := by decide +kernel
theorem dL_law_609 : decode cL_law 609 = .ok (.iconst 1, 1) := by decide +kernel
theorem dL_law_610 : decode cL_law 610 = .ok (.iadd, 1) := by decide +kernel
theorem dL_law_611 : decode cL_law 611 = .ok (.iaload, 1) := by decide +kernel
theorem dL_law_612 : decode cL_law 612 = .ok (.aload_n 0, 1) := by decide +kernel
theorem dL_law_613 : decode cL_law 613 = .ok (.iload_n 3, 1) := by decide +kernel
theorem dL_law_614 : decode cL_law 614 = .ok (.iconst 2, 1) := by decide +kernel
theorem dL_law_615 : decode cL_law 615 = .ok (.iadd, 1) := by decide +kernel
theorem dL_law_616 : decode cL_law 616 = .ok (.iaload, 1) := by decide +kernel
theorem dL_law_617 : decode cL_law 617 = .ok (.invokevirtual 81, 3) := by decide +kernel
theorem dL_law_620 : decode cL_law 620 = .ok (.if_icmp .eq 323, 3) := by decide +kernel
theorem dL_law_623 : decode cL_law 623 = .ok (.iconst 0, 1) := by decide +kernel
theorem dL_law_624 : decode cL_law 624 = .ok (.ireturn, 1) := by decide +kernel
theorem dL_law_625 : decode cL_law 625 = .ok (.aload_n 1, 1) := by decide +kernel
theorem dL_law_626 : decode cL_law 626 = .ok (.aload_n 0, 1) := by decide +kernel
theorem dL_law_627 : decode cL_law 627 = .ok (.iload_n 3, 1) := by decide +kernel
theorem dL_law_628 : decode cL_law 628 = .ok (.iconst 1, 1) := by decide +kernel
theorem dL_law_629 : decode cL_law 629 = .ok (.iadd, 1) := by decide +kernel
theorem dL_law_630 : decode cL_law 630 = .ok (.iaload, 1) := by decide +kernel
theorem dL_law_631 : decode cL_law 631 = .ok (.invokevirtual 82, 3) := by decide +kernel
theorem dL_law_634 : decode cL_law 634 = .ok (.aload_n 2, 1) := by decide +kernel
theorem dL_law_635 : decode cL_law 635 = .ok (.aload_n 0, 1) := by decide +kernel
theorem dL_law_636 : decode cL_law 636 = .ok (.iload_n 3, 1) := by decide +kernel
theorem dL_law_637 : decode cL_law 637 = .ok (.iconst 1, 1) := by decide +kernel
theorem dL_law_638 : decode cL_law 638 = .ok (.iadd, 1) := by decide +kernel
theorem dL_law_639 : decode cL_law 639 = .ok (.iaload, 1) := by decide +kernel
theorem dL_law_640 : decode cL_law 640 = .ok (.invokevirtual 85, 3) := by decide +kernel
theorem dL_law_643 : decode cL_law 643 = .ok (.if_icmp .eq 300, 3) := by decide +kernel
theorem dL_law_646 : decode cL_law 646 = .ok (.iconst 0, 1) := by decide +kernel
theorem dL_law_647 : decode cL_law 647 = .ok (.ireturn, 1) := by decide +kernel
theorem dL_law_648 : decode cL_law 648 = .ok (.aload_n 1, 1) := by decide +kernel
theorem dL_law_649 : decode cL_law 649 = .ok (.aload_n 0, 1) := by decide +kernel
theorem dL_law_650 : decode cL_law 650 = .ok (.iload_n 3, 1) := by decide +kernel
theorem dL_law_651 : decode cL_law 651 = .ok (.iconst 1, 1) := by decide +kernel
theorem dL_law_652 : decode cL_law 652 = .ok (.iadd, 1) := by decide +kernel
theorem dL_law_653 : decode cL_law 653 = .ok (.iaload, 1) := by decide +kernel
theorem dL_law_654 : decode cL_law 654 = .ok (.invokevirtual 86, 3) := by decide +kernel
theorem dL_law_657 : decode cL_law 657 = .ok (.aload_n 2, 1) := by decide +kernel
theorem dL_law_658 : decode cL_law 658 = .ok (.aload_n 0, 1) := by decide +kernel
theorem dL_law_659 : decode cL_law 659 = .ok (.iload_n 3, 1) := by decide +kernel
theorem dL_law_660 : decode cL_law 660 = .ok (.iconst 1, 1) := by decide +kernel
theorem dL_law_661 : decode cL_law 661 = .ok (.iadd, 1) := by decide +kernel
theorem dL_law_662 : decode cL_law 662 = .ok (.iaload, 1) := by decide +kernel
theorem dL_law_663 : decode cL_law 663 = .ok (.invokevirtual 89, 3) := by decide +kernel
theorem dL_law_666 : decode cL_law 666 = .ok (.if_icmp .eq 277, 3) := by decide +kernel
theorem dL_law_669 : decode cL_law 669 = .ok (.iconst 0, 1) := by decide +kernel
theorem dL_law_670 : decode cL_law 670 = .ok (.ireturn, 1) := by decide +kernel
theorem dL_law_671 : decode cL_law 671 = .ok (.aload_n 1, 1) := by decide +kernel
theorem dL_law_672 : decode cL_law 672 = .ok (.aload_n 0, 1) := by decide +kernel
theorem dL_law_673 : decode cL_law 673 = .ok (.iload_n 3, 1) := by decide +kernel
theorem dL_law_674 : decode cL_law 674 = .ok (.iconst 1, 1) := by decide +kernel
theorem dL_law_675 : decode cL_law 675 = .ok (.iadd, 1) := by decide +kernel
theorem dL_law_676 : decode cL_law 676 = .ok (.iaload, 1) := by decide +kernel
theorem dL_law_677 : decode cL_law 677 = .ok (.aload_n 0, 1) := by decide +kernel
theorem dL_law_678 : decode cL_law 678 = .ok (.iload_n 3, 1) := by decide +kernel
theorem dL_law_679 : decode cL_law 679 = .ok (.iconst 2, 1) := by decide +kernel
theorem dL_law_680 : decode cL_law 680 = .ok (.iadd, 1) := by decide +kernel
theorem dL_law_681 : decode cL_law 681 = .ok (.iaload, 1) := by decide +kernel
theorem dL_law_682 : decode cL_law 682 = .ok (.aload_n 0, 1) := by decide +kernel
theorem dL_law_683 : decode cL_law 683 = .ok (.iload_n 3, 1) := by decide +kernel
theorem dL_law_684 : decode cL_law 684 = .ok (.iconst 3, 1) := by decide +kernel
theorem dL_law_685 : decode cL_law 685 = .ok (.iadd, 1) := by decide +kernel
theorem dL_law_686 : decode cL_law 686 = .ok (.iaload, 1) := by decide +kernel
theorem dL_law_687 : decode cL_law 687 = .ok (.invokevirtual 90, 3) := by decide +kernel
theorem dL_law_690 : decode cL_law 690 = .ok (.aload_n 2, 1) := by decide +kernel
theorem dL_law_691 : decode cL_law 691 = .ok (.aload_n 0, 1) := by decide +kernel
theorem dL_law_692 : decode cL_law 692 = .ok (.iload_n 3, 1) := by decide +kernel
theorem dL_law_693 : decode cL_law 693 = .ok (.iconst 1, 1) := by decide +kernel
theorem dL_law_694 : decode cL_law 694 = .ok (.iadd, 1) := by decide +kernel
theorem dL_law_695 : decode cL_law 695 = .ok (.iaload, 1) := by decide +kernel
theorem dL_law_696 : decode cL_law 696 = .ok (.aload_n 0, 1) := by decide +kernel
theorem dL_law_697 : decode cL_law 697 = .ok (.iload_n 3, 1) := by decide +kernel
theorem dL_law_698 : decode cL_law 698 = .ok (.iconst 2, 1) := by decide +kernel
theorem dL_law_699 : decode cL_law 699 = .ok (.iadd, 1) := by decide +kernel
theorem dL_law_700 : decode cL_law 700 = .ok (.iaload, 1) := by decide +kernel
theorem dL_law_701 : decode cL_law 701 = .ok (.aload_n 0, 1) := by decide +kernel
theorem dL_law_702 : decode cL_law 702 = .ok (.iload_n 3, 1) := by decide +kernel
theorem dL_law_703 : decode cL_law 703 = .ok (.iconst 3, 1) := by decide +kernel
theorem dL_law_704 : decode cL_law 704 = .ok (.iadd, 1) := by decide +kernel
theorem dL_law_705 : decode cL_law 705 = .ok (.iaload, 1) := by decide +kernel
theorem dL_law_706 : decode cL_law 706 = .ok (.invokevirtual 94, 3) := by decide +kernel
theorem dL_law_709 : decode cL_law 709 = .ok (.lcmp, 1) := by decide +kernel
theorem dL_law_710 : decode cL_law 710 = .ok (.ifCond .eq 233, 3) := by decide +kernel
theorem dL_law_713 : decode cL_law 713 = .ok (.iconst 0, 1) := by decide +kernel
theorem dL_law_714 : decode cL_law 714 = .ok (.ireturn, 1) := by decide +kernel
theorem dL_law_715 : decode cL_law 715 = .ok (.aload_n 1, 1) := by decide +kernel
theorem dL_law_716 : decode cL_law 716 = .ok (.aload_n 0, 1) := by decide +kernel
theorem dL_law_717 : decode cL_law 717 = .ok (.iload_n 3, 1) := by decide +kernel
theorem dL_law_718 : decode cL_law 718 = .ok (.iconst 1, 1) := by decide +kernel
theorem dL_law_719 : decode cL_law 719 = .ok (.iadd, 1) := by decide +kernel
theorem dL_law_720 : decode cL_law 720 = .ok (.iaload, 1) := by decide +kernel
theorem dL_law_721 : decode cL_law 721 = .ok (.aload_n 0, 1) := by decide +kernel
theorem dL_law_722 : decode cL_law 722 = .ok (.iload_n 3, 1) := by decide +kernel
theorem dL_law_723 : decode cL_law 723 = .ok (.iconst 2, 1) := by decide +kernel
theorem dL_law_724 : decode cL_law 724 = .ok (.iadd, 1) := by decide +kernel
theorem dL_law_725 : decode cL_law 725 = .ok (.iaload, 1) := by decide +kernel
theorem dL_law_726 : decode cL_law 726 = .ok (.invokevirtual 95, 3) := by decide +kernel
theorem dL_law_729 : decode cL_law 729 = .ok (.aload_n 2, 1) := by decide +kernel
theorem dL_law_730 : decode cL_law 730 = .ok (.aload_n 0, 1) := by decide +kernel
theorem dL_law_731 : decode cL_law 731 = .ok (.iload_n 3, 1) := by decide +kernel
theorem dL_law_732 : decode cL_law 732 = .ok (.iconst 1, 1) := by decide +kernel
theorem dL_law_733 : decode cL_law 733 = .ok (.iadd, 1) := by decide +kernel
theorem dL_law_734 : decode cL_law 734 = .ok (.iaload, 1) := by decide +kernel
theorem dL_law_735 : decode cL_law 735 = .ok (.aload_n 0, 1) := by decide +kernel
theorem dL_law_736 : decode cL_law 736 = .ok (.iload_n 3, 1) := by decide +kernel
theorem dL_law_737 : decode cL_law 737 = .ok (.iconst 2, 1) := by decide +kernel
theorem dL_law_738 : decode cL_law 738 = .ok (.iadd, 1) := by decide +kernel
theorem dL_law_739 : decode cL_law 739 = .ok (.iaload, 1) := by decide +kernel
theorem dL_law_740 : decode cL_law 740 = .ok (.invokevirtual 99, 3) := by decide +kernel
theorem dL_law_743 : decode cL_law 743 = .ok (.lcmp, 1) := by decide +kernel
theorem dL_law_744 : decode cL_law 744 = .ok (.ifCond .eq 199, 3) := by decide +kernel
theorem dL_law_747 : decode cL_law 747 = .ok (.iconst 0, 1) := by decide +kernel
theorem dL_law_748 : decode cL_law 748 = .ok (.ireturn, 1) := by decide +kernel
theorem dL_law_749 : decode cL_law 749 = .ok (.aload_n 1, 1) := by decide +kernel
theorem dL_law_750 : decode cL_law 750 = .ok (.aload_n 0, 1) := by decide +kernel
theorem dL_law_751 : decode cL_law 751 = .ok (.iload_n 3, 1) := by decide +kernel
theorem dL_law_752 : decode cL_law 752 = .ok (.iconst 1, 1) := by decide +kernel
theorem dL_law_753 : decode cL_law 753 = .ok (.iadd, 1) := by decide +kernel
theorem dL_law_754 : decode cL_law 754 = .ok (.iaload, 1) := by decide +kernel
theorem dL_law_755 : decode cL_law 755 = .ok (.aload_n 0, 1) := by decide +kernel
theorem dL_law_756 : decode cL_law 756 = .ok (.iload_n 3, 1) := by decide +kernel
theorem dL_law_757 : decode cL_law 757 = .ok (.iconst 2, 1) := by decide +kernel
theorem dL_law_758 : decode cL_law 758 = .ok (.iadd, 1) := by decide +kernel
theorem dL_law_759 : decode cL_law 759 = .ok (.iaload, 1) := by decide +kernel
theorem dL_law_760 : decode cL_law 760 = .ok (.invokevirtual 100, 3) := by decide +kernel
theorem dL_law_763 : decode cL_law 763 = .ok (.aload_n 2, 1) := by decide +kernel
theorem dL_law_764 : decode cL_law 764 = .ok (.aload_n 0, 1) := by decide +kernel
theorem dL_law_765 : decode cL_law 765 = .ok (.iload_n 3, 1) := by decide +kernel
theorem dL_law_766 : decode cL_law 766 = .ok (.iconst 1, 1) := by decide +kernel
theorem dL_law_767 : decode cL_law 767 = .ok (.iadd, 1) := by decide +kernel
theorem dL_law_768 : decode cL_law 768 = .ok (.iaload, 1) := by decide +kernel
theorem dL_law_769 : decode cL_law 769 = .ok (.aload_n 0, 1) := by decide +kernel
theorem dL_law_770 : decode cL_law 770 = .ok (.iload_n 3, 1) := by decide +kernel
theorem dL_law_771 : decode cL_law 771 = .ok (.iconst 2, 1) := by decide +kernel
theorem dL_law_772 : decode cL_law 772 = .ok (.iadd, 1) := by decide +kernel
theorem dL_law_773 : decode cL_law 773 = .ok (.iaload, 1) := by decide +kernel
theorem dL_law_774 : decode cL_law 774 = .ok (.invokevirtual 103, 3) := by decide +kernel
theorem dL_law_777 : decode cL_law 777 = .ok (.if_icmp .eq 166, 3) := by decide +kernel
theorem dL_law_780 : decode cL_law 780 = .ok (.iconst 0, 1) := by decide +kernel
theorem dL_law_781 : decode cL_law 781 = .ok (.ireturn, 1) := by decide +kernel
theorem dL_law_782 : decode cL_law 782 = .ok (.aload_n 1, 1) := by decide +kernel
theorem dL_law_783 : decode cL_law 783 = .ok (.invokevirtual 104, 3) := by decide +kernel
theorem dL_law_786 : decode cL_law 786 = .ok (.aload_n 2, 1) := by decide +kernel
theorem dL_law_787 : decode cL_law 787 = .ok (.invokevirtual 107, 3) := by decide +kernel
theorem dL_law_790 : decode cL_law 790 = .ok (.if_icmp .eq 153, 3) := by decide +kernel
theorem dL_law_793 : decode cL_law 793 = .ok (.iconst 0, 1) := by decide +kernel
theorem dL_law_794 : decode cL_law 794 = .ok (.ireturn, 1) := by decide +kernel
theorem dL_law_795 : decode cL_law 795 = .ok (.aload_n 1, 1) := by decide +kernel
theorem dL_law_796 : decode cL_law 796 = .ok (.aload_n 0, 1) := by decide +kernel
theorem dL_law_797 : decode cL_law 797 = .ok (.iload_n 3, 1) := by decide +kernel
theorem dL_law_798 : decode cL_law 798 = .ok (.iconst 1, 1) := by decide +kernel
theorem dL_law_799 : decode cL_law 799 = .ok (.iadd, 1) := by decide +kernel
theorem dL_law_800 : decode cL_law 800 = .ok (.iaload, 1) := by decide +kernel
theorem dL_law_801 : decode cL_law 801 = .ok (.aload_n 0, 1) := by decide +kernel
theorem dL_law_802 : decode cL_law 802 = .ok (.iload_n 3, 1) := by decide +kernel
theorem dL_law_803 : decode cL_law 803 = .ok (.iconst 2, 1) := by decide +kernel
theorem dL_law_804 : decode cL_law 804 = .ok (.iadd, 1) := by decide +kernel
theorem dL_law_805 : decode cL_law 805 = .ok (.iaload, 1) := by decide +kernel
theorem dL_law_806 : decode cL_law 806 = .ok (.aload_n 0, 1) := by decide +kernel
theorem dL_law_807 : decode cL_law 807 = .ok (.iload_n 3, 1) := by decide +kernel
theorem dL_law_808 : decode cL_law 808 = .ok (.iconst 3, 1) := by decide +kernel
theorem dL_law_809 : decode cL_law 809 = .ok (.iadd, 1) := by decide +kernel
theorem dL_law_810 : decode cL_law 810 = .ok (.iaload, 1) := by decide +kernel
theorem dL_law_811 : decode cL_law 811 = .ok (.invokevirtual 108, 3) := by decide +kernel
theorem dL_law_814 : decode cL_law 814 = .ok (.aload_n 2, 1) := by decide +kernel
theorem dL_law_815 : decode cL_law 815 = .ok (.aload_n 0, 1) := by decide +kernel
theorem dL_law_816 : decode cL_law 816 = .ok (.iload_n 3, 1) := by decide +kernel
theorem dL_law_817 : decode cL_law 817 = .ok (.iconst 1, 1) := by decide +kernel
theorem dL_law_818 : decode cL_law 818 = .ok (.iadd, 1) := by decide +kernel
theorem dL_law_819 : decode cL_law 819 = .ok (.iaload, 1) := by decide +kernel
theorem dL_law_820 : decode cL_law 820 = .ok (.aload_n 0, 1) := by decide +kernel
theorem dL_law_821 : decode cL_law 821 = .ok (.iload_n 3, 1) := by decide +kernel
theorem dL_law_822 : decode cL_law 822 = .ok (.iconst 2, 1) := by decide +kernel
theorem dL_law_823 : decode cL_law 823 = .ok (.iadd, 1) := by decide +kernel
theorem dL_law_824 : decode cL_law 824 = .ok (.iaload, 1) := by decide +kernel
theorem dL_law_825 : decode cL_law 825 = .ok (.aload_n 0, 1) := by decide +kernel
theorem dL_law_826 : decode cL_law 826 = .ok (.iload_n 3, 1) := by decide +kernel
theorem dL_law_827 : decode cL_law 827 = .ok (.iconst 3, 1) := by decide +kernel
theorem dL_law_828 : decode cL_law 828 = .ok (.iadd, 1) := by decide +kernel
theorem dL_law_829 : decode cL_law 829 = .ok (.iaload, 1) := by decide +kernel
theorem dL_law_830 : decode cL_law 830 = .ok (.invokevirtual 112, 3) := by decide +kernel
theorem dL_law_833 : decode cL_law 833 = .ok (.if_icmp .eq 110, 3) := by decide +kernel
theorem dL_law_836 : decode cL_law 836 = .ok (.iconst 0, 1) := by decide +kernel
theorem dL_law_837 : decode cL_law 837 = .ok (.ireturn, 1) := by decide +kernel
theorem dL_law_838 : decode cL_law 838 = .ok (.aload_n 1, 1) := by decide +kernel
theorem dL_law_839 : decode cL_law 839 = .ok (.aload_n 0, 1) := by decide +kernel
theorem dL_law_840 : decode cL_law 840 = .ok (.iload_n 3, 1) := by decide +kernel
theorem dL_law_841 : decode cL_law 841 = .ok (.iconst 1, 1) := by decide +kernel
theorem dL_law_842 : decode cL_law 842 = .ok (.iadd, 1) := by decide +kernel
theorem dL_law_843 : decode cL_law 843 = .ok (.iaload, 1) := by decide +kernel
theorem dL_law_844 : decode cL_law 844 = .ok (.invokevirtual 113, 3) := by decide +kernel
theorem dL_law_847 : decode cL_law 847 = .ok (.aload_n 2, 1) := by decide +kernel
theorem dL_law_848 : decode cL_law 848 = .ok (.aload_n 0, 1) := by decide +kernel
theorem dL_law_849 : decode cL_law 849 = .ok (.iload_n 3, 1) := by decide +kernel
theorem dL_law_850 : decode cL_law 850 = .ok (.iconst 1, 1) := by decide +kernel
theorem dL_law_851 : decode cL_law 851 = .ok (.iadd, 1) := by decide +kernel
theorem dL_law_852 : decode cL_law 852 = .ok (.iaload, 1) := by decide +kernel
theorem dL_law_853 : decode cL_law 853 = .ok (.invokevirtual 116, 3) := by decide +kernel
theorem dL_law_856 : decode cL_law 856 = .ok (.if_icmp .eq 87, 3) := by decide +kernel
theorem dL_law_859 : decode cL_law 859 = .ok (.iconst 0, 1) := by decide +kernel
theorem dL_law_860 : decode cL_law 860 = .ok (.ireturn, 1) := by decide +kernel
theorem dL_law_861 : decode cL_law 861 = .ok (.aload_n 1, 1) := by decide +kernel
theorem dL_law_862 : decode cL_law 862 = .ok (.aload_n 0, 1) := by decide +kernel
theorem dL_law_863 : decode cL_law 863 = .ok (.iload_n 3, 1) := by decide +kernel
theorem dL_law_864 : decode cL_law 864 = .ok (.iconst 1, 1) := by decide +kernel
theorem dL_law_865 : decode cL_law 865 = .ok (.iadd, 1) := by decide +kernel
theorem dL_law_866 : decode cL_law 866 = .ok (.iaload, 1) := by decide +kernel
theorem dL_law_867 : decode cL_law 867 = .ok (.aload_n 0, 1) := by decide +kernel
theorem dL_law_868 : decode cL_law 868 = .ok (.iload_n 3, 1) := by decide +kernel
theorem dL_law_869 : decode cL_law 869 = .ok (.iconst 2, 1) := by decide +kernel
theorem dL_law_870 : decode cL_law 870 = .ok (.iadd, 1) := by decide +kernel
theorem dL_law_871 : decode cL_law 871 = .ok (.iaload, 1) := by decide +kernel
theorem dL_law_872 : decode cL_law 872 = .ok (.invokevirtual 117, 3) := by decide +kernel
theorem dL_law_875 : decode cL_law 875 = .ok (.aload_n 2, 1) := by decide +kernel
theorem dL_law_876 : decode cL_law 876 = .ok (.aload_n 0, 1) := by decide +kernel
theorem dL_law_877 : decode cL_law 877 = .ok (.iload_n 3, 1) := by decide +kernel
theorem dL_law_878 : decode cL_law 878 = .ok (.iconst 1, 1) := by decide +kernel
theorem dL_law_879 : decode cL_law 879 = .ok (.iadd, 1) := by decide +kernel
theorem dL_law_880 : decode cL_law 880 = .ok (.iaload, 1) := by decide +kernel
theorem dL_law_881 : decode cL_law 881 = .ok (.aload_n 0, 1) := by decide +kernel
theorem dL_law_882 : decode cL_law 882 = .ok (.iload_n 3, 1) := by decide +kernel
theorem dL_law_883 : decode cL_law 883 = .ok (.iconst 2, 1) := by decide +kernel
theorem dL_law_884 : decode cL_law 884 = .ok (.iadd, 1) := by decide +kernel
theorem dL_law_885 : decode cL_law 885 = .ok (.iaload, 1) := by decide +kernel
theorem dL_law_886 : decode cL_law 886 = .ok (.invokevirtual 120, 3) := by decide +kernel
theorem dL_law_889 : decode cL_law 889 = .ok (.if_icmp .eq 54, 3) := by decide +kernel
theorem dL_law_892 : decode cL_law 892 = .ok (.iconst 0, 1) := by decide +kernel
theorem dL_law_893 : decode cL_law 893 = .ok (.ireturn, 1) := by decide +kernel
theorem dL_law_894 : decode cL_law 894 = .ok (.aload_n 1, 1) := by decide +kernel
theorem dL_law_895 : decode cL_law 895 = .ok (.invokevirtual 121, 3) := by decide +kernel
theorem dL_law_898 : decode cL_law 898 = .ok (.aload_n 2, 1) := by decide +kernel
theorem dL_law_899 : decode cL_law 899 = .ok (.invokevirtual 124, 3) := by decide +kernel
theorem dL_law_902 : decode cL_law 902 = .ok (.if_icmp .eq 41, 3) := by decide +kernel
theorem dL_law_905 : decode cL_law 905 = .ok (.iconst 0, 1) := by decide +kernel
theorem dL_law_906 : decode cL_law 906 = .ok (.ireturn, 1) := by decide +kernel
theorem dL_law_907 : decode cL_law 907 = .ok (.aload_n 1, 1) := by decide +kernel
theorem dL_law_908 : decode cL_law 908 = .ok (.invokevirtual 125, 3) := by decide +kernel
theorem dL_law_911 : decode cL_law 911 = .ok (.aload_n 2, 1) := by decide +kernel
theorem dL_law_912 : decode cL_law 912 = .ok (.invokevirtual 128, 3) := by decide +kernel
theorem dL_law_915 : decode cL_law 915 = .ok (.if_icmp .eq 28, 3) := by decide +kernel
theorem dL_law_918 : decode cL_law 918 = .ok (.iconst 0, 1) := by decide +kernel
theorem dL_law_919 : decode cL_law 919 = .ok (.ireturn, 1) := by decide +kernel
theorem dL_law_920 : decode cL_law 920 = .ok (.aload_n 1, 1) := by decide +kernel
theorem dL_law_921 : decode cL_law 921 = .ok (.aload_n 0, 1) := by decide +kernel
theorem dL_law_922 : decode cL_law 922 = .ok (.iload_n 3, 1) := by decide +kernel
theorem dL_law_923 : decode cL_law 923 = .ok (.iconst 1, 1) := by decide +kernel
theorem dL_law_924 : decode cL_law 924 = .ok (.iadd, 1) := by decide +kernel
theorem dL_law_925 : decode cL_law 925 = .ok (.iaload, 1) := by decide +kernel
theorem dL_law_926 : decode cL_law 926 = .ok (.invokevirtual 129, 3) := by decide +kernel
theorem dL_law_929 : decode cL_law 929 = .ok (.aload_n 2, 1) := by decide +kernel
theorem dL_law_930 : decode cL_law 930 = .ok (.aload_n 0, 1) := by decide +kernel
theorem dL_law_931 : decode cL_law 931 = .ok (.iload_n 3, 1) := by decide +kernel
theorem dL_law_932 : decode cL_law 932 = .ok (.iconst 1, 1) := by decide +kernel
theorem dL_law_933 : decode cL_law 933 = .ok (.iadd, 1) := by decide +kernel
theorem dL_law_934 : decode cL_law 934 = .ok (.iaload, 1) := by decide +kernel
theorem dL_law_935 : decode cL_law 935 = .ok (.invokevirtual 132, 3) := by decide +kernel
theorem dL_law_938 : decode cL_law 938 = .ok (.if_icmp .eq 5, 3) := by decide +kernel
theorem dL_law_941 : decode cL_law 941 = .ok (.iconst 0, 1) := by decide +kernel
theorem dL_law_942 : decode cL_law 942 = .ok (.ireturn, 1) := by decide +kernel
theorem dL_law_943 : decode cL_law 943 = .ok (.iinc 3 4, 3) := by decide +kernel
theorem dL_law_946 : decode cL_law 946 = .ok (.goto (-928), 3) := by decide +kernel
theorem dL_law_949 : decode cL_law 949 = .ok (.iconst 1, 1) := by decide +kernel
theorem dL_law_950 : decode cL_law 950 = .ok (.ireturn, 1) := by decide +kernel
