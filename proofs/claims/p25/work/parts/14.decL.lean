theorem dL_cell_0 : decode cL_cell 0 = .ok (.iload_n 1, 1) := by decide +kernel
theorem dL_cell_1 : decode cL_cell 1 = .ok (.aload_n 0, 1) := by decide +kernel
theorem dL_cell_2 : decode cL_cell 2 = .ok (.arraylength, 1) := by decide +kernel
theorem dL_cell_3 : decode cL_cell 3 = .ok (.if_icmp .ge 9, 3) := by decide +kernel
theorem dL_cell_6 : decode cL_cell 6 = .ok (.aload_n 0, 1) := by decide +kernel
theorem dL_cell_7 : decode cL_cell 7 = .ok (.iload_n 1, 1) := by decide +kernel
theorem dL_cell_8 : decode cL_cell 8 = .ok (.iaload, 1) := by decide +kernel
theorem dL_cell_9 : decode cL_cell 9 = .ok (.goto 11, 3) := by decide +kernel
theorem dL_cell_12 : decode cL_cell 12 = .ok (.ldc 7, 2) := by decide +kernel
theorem dL_cell_14 : decode cL_cell 14 = .ok (.iload_n 1, 1) := by decide +kernel
theorem dL_cell_15 : decode cL_cell 15 = .ok (.imul, 1) := by decide +kernel
theorem dL_cell_16 : decode cL_cell 16 = .ok (.sipush 977, 3) := by decide +kernel
theorem dL_cell_19 : decode cL_cell 19 = .ok (.iadd, 1) := by decide +kernel
theorem dL_cell_20 : decode cL_cell 20 = .ok (.ireturn, 1) := by decide +kernel
theorem dL_low_0 : decode cL_low 0 = .ok (.iload_n 0, 1) := by decide +kernel
theorem dL_low_1 : decode cL_low 1 = .ok (.ldc 8, 2) := by decide +kernel
theorem dL_low_3 : decode cL_low 3 = .ok (.iand, 1) := by decide +kernel
theorem dL_low_4 : decode cL_low 4 = .ok (.iload_n 1, 1) := by decide +kernel
theorem dL_low_5 : decode cL_low 5 = .ok (.irem, 1) := by decide +kernel
theorem dL_low_6 : decode cL_low 6 = .ok (.ireturn, 1) := by decide +kernel
theorem dL_change_0 : decode cL_change 0 = .ok (.aload_n 0, 1) := by decide +kernel
theorem dL_change_1 : decode cL_change 1 = .ok (.iconst 4, 1) := by decide +kernel
theorem dL_change_2 : decode cL_change 2 = .ok (.invokevirtual 9, 3) := by decide +kernel
theorem dL_change_5 : decode cL_change 5 = .ok (.istore 4, 2) := by decide +kernel
theorem dL_change_7 : decode cL_change 7 = .ok (.iload_n 1, 1) := by decide +kernel
theorem dL_change_8 : decode cL_change 8 = .ok (.tableswitch 223 0 9 #[56, 56, 56, 56, 56, 151, 151, 167, 184, 200], 56) := by decide +kernel
theorem dL_change_64 : decode cL_change 64 = .ok (.aload_n 0, 1) := by decide +kernel
theorem dL_change_65 : decode cL_change 65 = .ok (.bipush 48, 2) := by decide +kernel
theorem dL_change_67 : decode cL_change 67 = .ok (.iload_n 2, 1) := by decide +kernel
theorem dL_change_68 : decode cL_change 68 = .ok (.iconst 5, 1) := by decide +kernel
theorem dL_change_69 : decode cL_change 69 = .ok (.invokestatic 15, 3) := by decide +kernel
theorem dL_change_72 : decode cL_change 72 = .ok (.iadd, 1) := by decide +kernel
theorem dL_change_73 : decode cL_change 73 = .ok (.i2l, 1) := by decide +kernel
theorem dL_change_74 : decode cL_change 74 = .ok (.invokevirtual 21, 3) := by decide +kernel
theorem dL_change_77 : decode cL_change 77 = .ok (.pop, 1) := by decide +kernel
theorem dL_change_78 : decode cL_change 78 = .ok (.aload_n 0, 1) := by decide +kernel
theorem dL_change_79 : decode cL_change 79 = .ok (.iload_n 2, 1) := by decide +kernel
theorem dL_change_80 : decode cL_change 80 = .ok (.iconst 3, 1) := by decide +kernel
theorem dL_change_81 : decode cL_change 81 = .ok (.ishr, 1) := by decide +kernel
theorem dL_change_82 : decode cL_change 82 = .ok (.iconst 1, 1) := by decide +kernel
theorem dL_change_83 : decode cL_change 83 = .ok (.iand, 1) := by decide +kernel
theorem dL_change_84 : decode cL_change 84 = .ok (.ifCond .ne 9, 3) := by decide +kernel
theorem dL_change_87 : decode cL_change 87 = .ok (.ldc2_w 25, 3) := by decide +kernel
theorem dL_change_90 : decode cL_change 90 = .ok (.goto 6, 3) := by decide +kernel
theorem dL_change_93 : decode cL_change 93 = .ok (.ldc2_w 27, 3) := by decide +kernel
theorem dL_change_96 : decode cL_change 96 = .ok (.invokevirtual 21, 3) := by decide +kernel
theorem dL_change_99 : decode cL_change 99 = .ok (.pop, 1) := by decide +kernel
theorem dL_change_100 : decode cL_change 100 = .ok (.iconst 0, 1) := by decide +kernel
theorem dL_change_101 : decode cL_change 101 = .ok (.istore 5, 2) := by decide +kernel
theorem dL_change_103 : decode cL_change 103 = .ok (.iload 5, 2) := by decide +kernel
theorem dL_change_105 : decode cL_change 105 = .ok (.iconst 1, 1) := by decide +kernel
theorem dL_change_106 : decode cL_change 106 = .ok (.iload_n 2, 1) := by decide +kernel
theorem dL_change_107 : decode cL_change 107 = .ok (.iconst 4, 1) := by decide +kernel
theorem dL_change_108 : decode cL_change 108 = .ok (.ishr, 1) := by decide +kernel
theorem dL_change_109 : decode cL_change 109 = .ok (.bipush 8, 2) := by decide +kernel
theorem dL_change_111 : decode cL_change 111 = .ok (.invokestatic 15, 3) := by decide +kernel
theorem dL_change_114 : decode cL_change 114 = .ok (.iadd, 1) := by decide +kernel
theorem dL_change_115 : decode cL_change 115 = .ok (.if_icmp .ge 29, 3) := by decide +kernel
theorem dL_change_118 : decode cL_change 118 = .ok (.aload_n 0, 1) := by decide +kernel
theorem dL_change_119 : decode cL_change 119 = .ok (.bipush 97, 2) := by decide +kernel
theorem dL_change_121 : decode cL_change 121 = .ok (.iload_n 3, 1) := by decide +kernel
theorem dL_change_122 : decode cL_change 122 = .ok (.iconst 3, 1) := by decide +kernel
theorem dL_change_123 : decode cL_change 123 = .ok (.iload 5, 2) := by decide +kernel
theorem dL_change_125 : decode cL_change 125 = .ok (.imul, 1) := by decide +kernel
theorem dL_change_126 : decode cL_change 126 = .ok (.ishr, 1) := by decide +kernel
theorem dL_change_127 : decode cL_change 127 = .ok (.bipush 8, 2) := by decide +kernel
theorem dL_change_129 : decode cL_change 129 = .ok (.invokestatic 15, 3) := by decide +kernel
theorem dL_change_132 : decode cL_change 132 = .ok (.iadd, 1) := by decide +kernel
theorem dL_change_133 : decode cL_change 133 = .ok (.i2l, 1) := by decide +kernel
theorem dL_change_134 : decode cL_change 134 = .ok (.invokevirtual 21, 3) := by decide +kernel
theorem dL_change_137 : decode cL_change 137 = .ok (.pop, 1) := by decide +kernel
theorem dL_change_138 : decode cL_change 138 = .ok (.iinc 5 1, 3) := by decide +kernel
theorem dL_change_141 : decode cL_change 141 = .ok (.goto (-38), 3) := by decide +kernel
theorem dL_change_144 : decode cL_change 144 = .ok (.aload_n 0, 1) := by decide +kernel
theorem dL_change_145 : decode cL_change 145 = .ok (.invokevirtual 29, 3) := by decide +kernel
theorem dL_change_148 : decode cL_change 148 = .ok (.istore 5, 2) := by decide +kernel
theorem dL_change_150 : decode cL_change 150 = .ok (.aload_n 0, 1) := by decide +kernel
theorem dL_change_151 : decode cL_change 151 = .ok (.invokevirtual 33, 3) := by decide +kernel
theorem dL_change_154 : decode cL_change 154 = .ok (.istore 6, 2) := by decide +kernel
theorem dL_change_156 : decode cL_change 156 = .ok (.iload 5, 2) := by decide +kernel
theorem dL_change_158 : decode cL_change 158 = .ok (.ireturn, 1) := by decide +kernel
theorem dL_change_159 : decode cL_change 159 = .ok (.aload_n 0, 1) := by decide +kernel
theorem dL_change_160 : decode cL_change 160 = .ok (.iload_n 2, 1) := by decide +kernel
theorem dL_change_161 : decode cL_change 161 = .ok (.iconst 5, 1) := by decide +kernel
theorem dL_change_162 : decode cL_change 162 = .ok (.invokestatic 15, 3) := by decide +kernel
theorem dL_change_165 : decode cL_change 165 = .ok (.iload_n 3, 1) := by decide +kernel
theorem dL_change_166 : decode cL_change 166 = .ok (.bipush 8, 2) := by decide +kernel
theorem dL_change_168 : decode cL_change 168 = .ok (.invokestatic 15, 3) := by decide +kernel
theorem dL_change_171 : decode cL_change 171 = .ok (.invokevirtual 36, 3) := by decide +kernel
theorem dL_change_174 : decode cL_change 174 = .ok (.ireturn, 1) := by decide +kernel
theorem dL_change_175 : decode cL_change 175 = .ok (.aload_n 0, 1) := by decide +kernel
theorem dL_change_176 : decode cL_change 176 = .ok (.iload_n 2, 1) := by decide +kernel
theorem dL_change_177 : decode cL_change 177 = .ok (.bipush 8, 2) := by decide +kernel
theorem dL_change_179 : decode cL_change 179 = .ok (.invokestatic 15, 3) := by decide +kernel
theorem dL_change_182 : decode cL_change 182 = .ok (.iload_n 3, 1) := by decide +kernel
theorem dL_change_183 : decode cL_change 183 = .ok (.bipush 9, 2) := by decide +kernel
theorem dL_change_185 : decode cL_change 185 = .ok (.invokestatic 15, 3) := by decide +kernel
theorem dL_change_188 : decode cL_change 188 = .ok (.invokevirtual 39, 3) := by decide +kernel
theorem dL_change_191 : decode cL_change 191 = .ok (.ireturn, 1) := by decide +kernel
theorem dL_change_192 : decode cL_change 192 = .ok (.aload_n 0, 1) := by decide +kernel
theorem dL_change_193 : decode cL_change 193 = .ok (.iload_n 2, 1) := by decide +kernel
theorem dL_change_194 : decode cL_change 194 = .ok (.iconst 4, 1) := by decide +kernel
theorem dL_change_195 : decode cL_change 195 = .ok (.invokestatic 15, 3) := by decide +kernel
theorem dL_change_198 : decode cL_change 198 = .ok (.iload_n 3, 1) := by decide +kernel
theorem dL_change_199 : decode cL_change 199 = .ok (.bipush 10, 2) := by decide +kernel
theorem dL_change_201 : decode cL_change 201 = .ok (.invokestatic 15, 3) := by decide +kernel
theorem dL_change_204 : decode cL_change 204 = .ok (.invokevirtual 42, 3) := by decide +kernel
theorem dL_change_207 : decode cL_change 207 = .ok (.ireturn, 1) := by decide +kernel
theorem dL_change_208 : decode cL_change 208 = .ok (.iload_n 3, 1) := by decide +kernel
theorem dL_change_209 : decode cL_change 209 = .ok (.iconst 3, 1) := by decide +kernel
theorem dL_change_210 : decode cL_change 210 = .ok (.iand, 1) := by decide +kernel
theorem dL_change_211 : decode cL_change 211 = .ok (.ifCond .ne 18, 3) := by decide +kernel
theorem dL_change_214 : decode cL_change 214 = .ok (.aload_n 0, 1) := by decide +kernel
theorem dL_change_215 : decode cL_change 215 = .ok (.iload_n 2, 1) := by decide +kernel
theorem dL_change_216 : decode cL_change 216 = .ok (.iload 4, 2) := by decide +kernel
theorem dL_change_218 : decode cL_change 218 = .ok (.iconst 1, 1) := by decide +kernel
theorem dL_change_219 : decode cL_change 219 = .ok (.iadd, 1) := by decide +kernel
theorem dL_change_220 : decode cL_change 220 = .ok (.invokestatic 15, 3) := by decide +kernel
theorem dL_change_223 : decode cL_change 223 = .ok (.invokevirtual 45, 3) := by decide +kernel
theorem dL_change_226 : decode cL_change 226 = .ok (.goto 4, 3) := by decide +kernel
theorem dL_change_229 : decode cL_change 229 = .ok (.iconst (-1), 1) := by decide +kernel
theorem dL_change_230 : decode cL_change 230 = .ok (.ireturn, 1) := by decide +kernel
theorem dL_change_231 : decode cL_change 231 = .ok (.aload_n 0, 1) := by decide +kernel
theorem dL_change_232 : decode cL_change 232 = .ok (.iconst 1, 1) := by decide +kernel
theorem dL_change_233 : decode cL_change 233 = .ok (.iload_n 2, 1) := by decide +kernel
theorem dL_change_234 : decode cL_change 234 = .ok (.iconst 3, 1) := by decide +kernel
theorem dL_change_235 : decode cL_change 235 = .ok (.invokestatic 15, 3) := by decide +kernel
theorem dL_change_238 : decode cL_change 238 = .ok (.iadd, 1) := by decide +kernel
theorem dL_change_239 : decode cL_change 239 = .ok (.invokestatic 48, 3) := by decide +kernel
theorem dL_change_242 : decode cL_change 242 = .ok (.ireturn, 1) := by decide +kernel
theorem dL_passes_0 : decode cL_passes 0 = .ok (.aload_n 0, 1) := by decide +kernel
theorem dL_passes_1 : decode cL_passes 1 = .ok (.iload_n 1, 1) := by decide +kernel
theorem dL_passes_2 : decode cL_passes 2 = .ok (.iconst 0, 1) := by decide +kernel
theorem dL_passes_3 : decode cL_passes 3 = .ok (.invokevirtual 52, 3) := by decide +kernel
theorem dL_passes_6 : decode cL_passes 6 = .ok (.istore_n 2, 1) := by decide +kernel
theorem dL_passes_7 : decode cL_passes 7 = .ok (.aload_n 0, 1) := by decide +kernel
theorem dL_passes_8 : decode cL_passes 8 = .ok (.iload_n 1, 1) := by decide +kernel
theorem dL_passes_9 : decode cL_passes 9 = .ok (.iconst 1, 1) := by decide +kernel
theorem dL_passes_10 : decode cL_passes 10 = .ok (.invokevirtual 52, 3) := by decide +kernel
theorem dL_passes_13 : decode cL_passes 13 = .ok (.istore_n 3, 1) := by decide +kernel
theorem dL_passes_14 : decode cL_passes 14 = .ok (.aload_n 0, 1) := by decide +kernel
theorem dL_passes_15 : decode cL_passes 15 = .ok (.iload_n 1, 1) := by decide +kernel
theorem dL_passes_16 : decode cL_passes 16 = .ok (.iconst 2, 1) := by decide +kernel
theorem dL_passes_17 : decode cL_passes 17 = .ok (.invokevirtual 52, 3) := by decide +kernel
theorem dL_passes_20 : decode cL_passes 20 = .ok (.istore 4, 2) := by decide +kernel
theorem dL_passes_22 : decode cL_passes 22 = .ok (.aload_n 0, 1) := by decide +kernel
theorem dL_passes_23 : decode cL_passes 23 = .ok (.bipush 6, 2) := by decide +kernel
theorem dL_passes_25 : decode cL_passes 25 = .ok (.invokevirtual 9, 3) := by decide +kernel
theorem dL_passes_28 : decode cL_passes 28 = .ok (.istore 5, 2) := by decide +kernel
theorem dL_passes_30 : decode cL_passes 30 = .ok (.aload_n 0, 1) := by decide +kernel
theorem dL_passes_31 : decode cL_passes 31 = .ok (.bipush 7, 2) := by decide +kernel
theorem dL_passes_33 : decode cL_passes 33 = .ok (.invokevirtual 9, 3) := by decide +kernel
theorem dL_passes_36 : decode cL_passes 36 = .ok (.istore 6, 2) := by decide +kernel
theorem dL_passes_38 : decode cL_passes 38 = .ok (.aload_n 0, 1) := by decide +kernel
theorem dL_passes_39 : decode cL_passes 39 = .ok (.bipush 12, 2) := by decide +kernel
theorem dL_passes_41 : decode cL_passes 41 = .ok (.invokevirtual 9, 3) := by decide +kernel
theorem dL_passes_44 : decode cL_passes 44 = .ok (.istore 7, 2) := by decide +kernel
theorem dL_passes_46 : decode cL_passes 46 = .ok (.aload_n 0, 1) := by decide +kernel
theorem dL_passes_47 : decode cL_passes 47 = .ok (.iconst 3, 1) := by decide +kernel
theorem dL_passes_48 : decode cL_passes 48 = .ok (.invokevirtual 9, 3) := by decide +kernel
theorem dL_passes_51 : decode cL_passes 51 = .ok (.istore 8, 2) := by decide +kernel
theorem dL_passes_53 : decode cL_passes 53 = .ok (.iconst 1, 1) := by decide +kernel
theorem dL_passes_54 : decode cL_passes 54 = .ok (.istore 9, 2) := by decide +kernel
theorem dL_passes_56 : decode cL_passes 56 = .ok (.bipush 40, 2) := by decide +kernel
theorem dL_passes_58 : decode cL_passes 58 = .ok (.newarray .int, 2) := by decide +kernel
theorem dL_passes_60 : decode cL_passes 60 = .ok (.astore 10, 2) := by decide +kernel
theorem dL_passes_62 : decode cL_passes 62 = .ok (.iconst 0, 1) := by decide +kernel
theorem dL_passes_63 : decode cL_passes 63 = .ok (.istore 11, 2) := by decide +kernel
theorem dL_passes_65 : decode cL_passes 65 = .ok (.iload 11, 2) := by decide +kernel
theorem dL_passes_67 : decode cL_passes 67 = .ok (.aload_n 0, 1) := by decide +kernel
theorem dL_passes_68 : decode cL_passes 68 = .ok (.iconst 4, 1) := by decide +kernel
theorem dL_passes_69 : decode cL_passes 69 = .ok (.invokevirtual 9, 3) := by decide +kernel
theorem dL_passes_72 : decode cL_passes 72 = .ok (.if_icmp .ge 82, 3) := by decide +kernel
theorem dL_passes_75 : decode cL_passes 75 = .ok (.aload 10, 2) := by decide +kernel
theorem dL_passes_77 : decode cL_passes 77 = .ok (.iload 11, 2) := by decide +kernel
theorem dL_passes_79 : decode cL_passes 79 = .ok (.aload_n 0, 1) := by decide +kernel
theorem dL_passes_80 : decode cL_passes 80 = .ok (.iload 11, 2) := by decide +kernel
theorem dL_passes_82 : decode cL_passes 82 = .ok (.invokevirtual 55, 3) := by decide +kernel
theorem dL_passes_85 : decode cL_passes 85 = .ok (.iastore, 1) := by decide +kernel
theorem dL_passes_86 : decode cL_passes 86 = .ok (.iload 9, 2) := by decide +kernel
theorem dL_passes_88 : decode cL_passes 88 = .ok (.ifCond .eq 57, 3) := by decide +kernel
theorem dL_passes_91 : decode cL_passes 91 = .ok (.aload_n 0, 1) := by decide +kernel
theorem dL_passes_92 : decode cL_passes 92 = .ok (.iload 11, 2) := by decide +kernel
theorem dL_passes_94 : decode cL_passes 94 = .ok (.invokevirtual 58, 3) := by decide +kernel
theorem dL_passes_97 : decode cL_passes 97 = .ok (.ifCond .ne 7, 3) := by decide +kernel
theorem dL_passes_100 : decode cL_passes 100 = .ok (.iconst 1, 1) := by decide +kernel
theorem dL_passes_101 : decode cL_passes 101 = .ok (.goto 4, 3) := by decide +kernel
theorem dL_passes_104 : decode cL_passes 104 = .ok (.iconst 0, 1) := by decide +kernel
theorem dL_passes_105 : decode cL_passes 105 = .ok (.aload 10, 2) := by decide +kernel
theorem dL_passes_107 : decode cL_passes 107 = .ok (.iload 11, 2) := by decide +kernel
theorem dL_passes_109 : decode cL_passes 109 = .ok (.iaload, 1) := by decide +kernel
theorem dL_passes_110 : decode cL_passes 110 = .ok (.iconst 1, 1) := by decide +kernel
theorem dL_passes_111 : decode cL_passes 111 = .ok (.if_icmp .ne 7, 3) := by decide +kernel
theorem dL_passes_114 : decode cL_passes 114 = .ok (.iconst 1, 1) := by decide +kernel
theorem dL_passes_115 : decode cL_passes 115 = .ok (.goto 4, 3) := by decide +kernel
theorem dL_passes_118 : decode cL_passes 118 = .ok (.iconst 0, 1) := by decide +kernel
theorem dL_passes_119 : decode cL_passes 119 = .ok (.if_icmp .ne 26, 3) := by decide +kernel
theorem dL_passes_122 : decode cL_passes 122 = .ok (.aload_n 0, 1) := by decide +kernel
theorem dL_passes_123 : decode cL_passes 123 = .ok (.iload 11, 2) := by decide +kernel
theorem dL_passes_125 : decode cL_passes 125 = .ok (.invokevirtual 58, 3) := by decide +kernel
theorem dL_passes_128 : decode cL_passes 128 = .ok (.iconst 5, 1) := by decide +kernel
theorem dL_passes_129 : decode cL_passes 129 = .ok (.if_icmp .ne 12, 3) := by decide +kernel
theorem dL_passes_132 : decode cL_passes 132 = .ok (.aload_n 0, 1) := by decide +kernel
theorem dL_passes_133 : decode cL_passes 133 = .ok (.iconst 1, 1) := by decide +kernel
theorem dL_passes_134 : decode cL_passes 134 = .ok (.iconst 1, 1) := by decide +kernel
theorem dL_passes_135 : decode cL_passes 135 = .ok (.invokevirtual 52, 3) := by decide +kernel
theorem dL_passes_138 : decode cL_passes 138 = .ok (.ifCond .le 7, 3) := by decide +kernel
theorem dL_passes_141 : decode cL_passes 141 = .ok (.iconst 1, 1) := by decide +kernel
theorem dL_passes_142 : decode cL_passes 142 = .ok (.goto 4, 3) := by decide +kernel
theorem dL_passes_145 : decode cL_passes 145 = .ok (.iconst 0, 1) := by decide +kernel
theorem dL_passes_146 : decode cL_passes 146 = .ok (.istore 9, 2) := by decide +kernel
theorem dL_passes_148 : decode cL_passes 148 = .ok (.iinc 11 1, 3) := by decide +kernel
theorem dL_passes_151 : decode cL_passes 151 = .ok (.goto (-86), 3) := by decide +kernel
theorem dL_passes_154 : decode cL_passes 154 = .ok (.aload_n 0, 1) := by decide +kernel
theorem dL_passes_155 : decode cL_passes 155 = .ok (.iload_n 1, 1) := by decide +kernel
theorem dL_passes_156 : decode cL_passes 156 = .ok (.invokevirtual 61, 3) := by decide +kernel
theorem dL_passes_159 : decode cL_passes 159 = .ok (.istore 11, 2) := by decide +kernel
theorem dL_passes_161 : decode cL_passes 161 = .ok (.iload 9, 2) := by decide +kernel
theorem dL_passes_163 : decode cL_passes 163 = .ok (.ifCond .eq 65, 3) := by decide +kernel
theorem dL_passes_166 : decode cL_passes 166 = .ok (.iload 11, 2) := by decide +kernel
theorem dL_passes_168 : decode cL_passes 168 = .ok (.iload_n 2, 1) := by decide +kernel
theorem dL_passes_169 : decode cL_passes 169 = .ok (.if_icmp .ne 59, 3) := by decide +kernel
theorem dL_passes_172 : decode cL_passes 172 = .ok (.aload_n 0, 1) := by decide +kernel
theorem dL_passes_173 : decode cL_passes 173 = .ok (.bipush 6, 2) := by decide +kernel
theorem dL_passes_175 : decode cL_passes 175 = .ok (.invokevirtual 9, 3) := by decide +kernel
theorem dL_passes_178 : decode cL_passes 178 = .ok (.iload 5, 2) := by decide +kernel
theorem dL_passes_180 : decode cL_passes 180 = .ok (.iload_n 2, 1) := by decide +kernel
theorem dL_passes_181 : decode cL_passes 181 = .ok (.iadd, 1) := by decide +kernel
theorem dL_passes_182 : decode cL_passes 182 = .ok (.if_icmp .ne 46, 3) := by decide +kernel
theorem dL_passes_185 : decode cL_passes 185 = .ok (.aload_n 0, 1) := by decide +kernel
theorem dL_passes_186 : decode cL_passes 186 = .ok (.bipush 7, 2) := by decide +kernel
theorem dL_passes_188 : decode cL_passes 188 = .ok (.invokevirtual 9, 3) := by decide +kernel
theorem dL_passes_191 : decode cL_passes 191 = .ok (.iload 6, 2) := by decide +kernel
theorem dL_passes_193 : decode cL_passes 193 = .ok (.iload_n 3, 1) := by decide +kernel
theorem dL_passes_194 : decode cL_passes 194 = .ok (.iadd, 1) := by decide +kernel
theorem dL_passes_195 : decode cL_passes 195 = .ok (.if_icmp .ne 33, 3) := by decide +kernel
theorem dL_passes_198 : decode cL_passes 198 = .ok (.aload_n 0, 1) := by decide +kernel
theorem dL_passes_199 : decode cL_passes 199 = .ok (.bipush 12, 2) := by decide +kernel
theorem dL_passes_201 : decode cL_passes 201 = .ok (.invokevirtual 9, 3) := by decide +kernel
theorem dL_passes_204 : decode cL_passes 204 = .ok (.iload 7, 2) := by decide +kernel
theorem dL_passes_206 : decode cL_passes 206 = .ok (.iload 4, 2) := by decide +kernel
theorem dL_passes_208 : decode cL_passes 208 = .ok (.iadd, 1) := by decide +kernel
theorem dL_passes_209 : decode cL_passes 209 = .ok (.if_icmp .ne 19, 3) := by decide +kernel
theorem dL_passes_212 : decode cL_passes 212 = .ok (.aload_n 0, 1) := by decide +kernel
theorem dL_passes_213 : decode cL_passes 213 = .ok (.iconst 3, 1) := by decide +kernel
theorem dL_passes_214 : decode cL_passes 214 = .ok (.invokevirtual 9, 3) := by decide +kernel
theorem dL_passes_217 : decode cL_passes 217 = .ok (.iload 8, 2) := by decide +kernel
theorem dL_passes_219 : decode cL_passes 219 = .ok (.iload_n 1, 1) := by decide +kernel
theorem dL_passes_220 : decode cL_passes 220 = .ok (.iadd, 1) := by decide +kernel
theorem dL_passes_221 : decode cL_passes 221 = .ok (.if_icmp .ne 7, 3) := by decide +kernel
theorem dL_passes_224 : decode cL_passes 224 = .ok (.iconst 1, 1) := by decide +kernel
theorem dL_passes_225 : decode cL_passes 225 = .ok (.goto 4, 3) := by decide +kernel
theorem dL_passes_228 : decode cL_passes 228 = .ok (.iconst 0, 1) := by decide +kernel
theorem dL_passes_229 : decode cL_passes 229 = .ok (.istore 9, 2) := by decide +kernel
theorem dL_passes_231 : decode cL_passes 231 = .ok (.iconst 0, 1) := by decide +kernel
theorem dL_passes_232 : decode cL_passes 232 = .ok (.istore 12, 2) := by decide +kernel
theorem dL_passes_234 : decode cL_passes 234 = .ok (.iload 12, 2) := by decide +kernel
theorem dL_passes_236 : decode cL_passes 236 = .ok (.aload_n 0, 1) := by decide +kernel
theorem dL_passes_237 : decode cL_passes 237 = .ok (.iconst 4, 1) := by decide +kernel
theorem dL_passes_238 : decode cL_passes 238 = .ok (.invokevirtual 9, 3) := by decide +kernel
theorem dL_passes_241 : decode cL_passes 241 = .ok (.if_icmp .ge 97, 3) := by decide +kernel
theorem dL_passes_244 : decode cL_passes 244 = .ok (.iload 9, 2) := by decide +kernel
theorem dL_passes_246 : decode cL_passes 246 = .ok (.ifCond .eq 92, 3) := by decide +kernel
theorem dL_passes_249 : decode cL_passes 249 = .ok (.aload_n 0, 1) := by decide +kernel
theorem dL_passes_250 : decode cL_passes 250 = .ok (.iload 12, 2) := by decide +kernel
theorem dL_passes_252 : decode cL_passes 252 = .ok (.invokevirtual 55, 3) := by decide +kernel
theorem dL_passes_255 : decode cL_passes 255 = .ok (.istore 13, 2) := by decide +kernel
theorem dL_passes_257 : decode cL_passes 257 = .ok (.aload 10, 2) := by decide +kernel
theorem dL_passes_259 : decode cL_passes 259 = .ok (.iload 12, 2) := by decide +kernel
theorem dL_passes_261 : decode cL_passes 261 = .ok (.iaload, 1) := by decide +kernel
theorem dL_passes_262 : decode cL_passes 262 = .ok (.bipush (-6), 2) := by decide +kernel
theorem dL_passes_264 : decode cL_passes 264 = .ok (.if_icmp .ne 27, 3) := by decide +kernel
theorem dL_passes_267 : decode cL_passes 267 = .ok (.iload 13, 2) := by decide +kernel
theorem dL_passes_269 : decode cL_passes 269 = .ok (.bipush (-6), 2) := by decide +kernel
theorem dL_passes_271 : decode cL_passes 271 = .ok (.if_icmp .eq 12, 3) := by decide +kernel
theorem dL_passes_274 : decode cL_passes 274 = .ok (.iload 13, 2) := by decide +kernel
theorem dL_passes_276 : decode cL_passes 276 = .ok (.bipush 100, 2) := by decide +kernel
theorem dL_passes_278 : decode cL_passes 278 = .ok (.iload_n 1, 1) := by decide +kernel
theorem dL_passes_279 : decode cL_passes 279 = .ok (.isub, 1) := by decide +kernel
theorem dL_passes_280 : decode cL_passes 280 = .ok (.if_icmp .le 7, 3) := by decide +kernel
theorem dL_passes_283 : decode cL_passes 283 = .ok (.iconst 1, 1) := by decide +kernel
theorem dL_passes_284 : decode cL_passes 284 = .ok (.goto 46, 3) := by decide +kernel
theorem dL_passes_287 : decode cL_passes 287 = .ok (.iconst 0, 1) := by decide +kernel
theorem dL_passes_288 : decode cL_passes 288 = .ok (.goto 42, 3) := by decide +kernel
theorem dL_passes_291 : decode cL_passes 291 = .ok (.aload 10, 2) := by decide +kernel
theorem dL_passes_293 : decode cL_passes 293 = .ok (.iload 12, 2) := by decide +kernel
theorem dL_passes_295 : decode cL_passes 295 = .ok (.iaload, 1) := by decide +kernel
theorem dL_passes_296 : decode cL_passes 296 = .ok (.iload_n 1, 1) := by decide +kernel
theorem dL_passes_297 : decode cL_passes 297 = .ok (.if_icmp .gt 16, 3) := by decide +kernel
theorem dL_passes_300 : decode cL_passes 300 = .ok (.iload 13, 2) := by decide +kernel
theorem dL_passes_302 : decode cL_passes 302 = .ok (.ifCond .ne 7, 3) := by decide +kernel
theorem dL_passes_305 : decode cL_passes 305 = .ok (.iconst 1, 1) := by decide +kernel
theorem dL_passes_306 : decode cL_passes 306 = .ok (.goto 24, 3) := by decide +kernel
theorem dL_passes_309 : decode cL_passes 309 = .ok (.iconst 0, 1) := by decide +kernel
theorem dL_passes_310 : decode cL_passes 310 = .ok (.goto 20, 3) := by decide +kernel
theorem dL_passes_313 : decode cL_passes 313 = .ok (.iload 13, 2) := by decide +kernel
theorem dL_passes_315 : decode cL_passes 315 = .ok (.aload 10, 2) := by decide +kernel
theorem dL_passes_317 : decode cL_passes 317 = .ok (.iload 12, 2) := by decide +kernel
theorem dL_passes_319 : decode cL_passes 319 = .ok (.iaload, 1) := by decide +kernel
theorem dL_passes_320 : decode cL_passes 320 = .ok (.iload_n 1, 1) := by decide +kernel
theorem dL_passes_321 : decode cL_passes 321 = .ok (.isub, 1) := by decide +kernel
theorem dL_passes_322 : decode cL_passes 322 = .ok (.if_icmp .ne 7, 3) := by decide +kernel
theorem dL_passes_325 : decode cL_passes 325 = .ok (.iconst 1, 1) := by decide +kernel
theorem dL_passes_326 : decode cL_passes 326 = .ok (.goto 4, 3) := by decide +kernel
theorem dL_passes_329 : decode cL_passes 329 = .ok (.iconst 0, 1) := by decide +kernel
theorem dL_passes_330 : decode cL_passes 330 = .ok (.istore 9, 2) := by decide +kernel
theorem dL_passes_332 : decode cL_passes 332 = .ok (.iinc 12 1, 3) := by decide +kernel
theorem dL_passes_335 : decode cL_passes 335 = .ok (.goto (-101), 3) := by decide +kernel
theorem dL_passes_338 : decode cL_passes 338 = .ok (.iload 9, 2) := by decide +kernel
theorem dL_passes_340 : decode cL_passes 340 = .ok (.ifCond .eq 8, 3) := by decide +kernel
theorem dL_passes_343 : decode cL_passes 343 = .ok (.iload 11, 2) := by decide +kernel
theorem dL_passes_345 : decode cL_passes 345 = .ok (.goto 5, 3) := by decide +kernel
theorem dL_passes_350 : decode cL_passes 350 = .ok (.ireturn, 1) := by decide +kernel
theorem dL_bits_0 : decode cL_bits 0 = .ok (.iconst 0, 1) := by decide +kernel
theorem dL_bits_1 : decode cL_bits 1 = .ok (.istore_n 1, 1) := by decide +kernel
theorem dL_bits_2 : decode cL_bits 2 = .ok (.iconst 0, 1) := by decide +kernel
theorem dL_bits_3 : decode cL_bits 3 = .ok (.istore_n 2, 1) := by decide +kernel
theorem dL_bits_4 : decode cL_bits 4 = .ok (.iload_n 2, 1) := by decide +kernel
theorem dL_bits_5 : decode cL_bits 5 = .ok (.bipush 26, 2) := by decide +kernel
theorem dL_bits_7 : decode cL_bits 7 = .ok (.if_icmp .ge 17, 3) := by decide +kernel
theorem dL_bits_10 : decode cL_bits 10 = .ok (.iload_n 1, 1) := by decide +kernel
theorem dL_bits_11 : decode cL_bits 11 = .ok (.iload_n 0, 1) := by decide +kernel
theorem dL_bits_12 : decode cL_bits 12 = .ok (.iload_n 2, 1) := by decide +kernel
theorem dL_bits_13 : decode cL_bits 13 = .ok (.ishr, 1) := by decide +kernel
theorem dL_bits_14 : decode cL_bits 14 = .ok (.iconst 1, 1) := by decide +kernel
theorem dL_bits_15 : decode cL_bits 15 = .ok (.iand, 1) := by decide +kernel
theorem dL_bits_16 : decode cL_bits 16 = .ok (.iadd, 1) := by decide +kernel
theorem dL_bits_17 : decode cL_bits 17 = .ok (.istore_n 1, 1) := by decide +kernel
theorem dL_bits_18 : decode cL_bits 18 = .ok (.iinc 2 1, 3) := by decide +kernel
theorem dL_bits_21 : decode cL_bits 21 = .ok (.goto (-17), 3) := by decide +kernel
theorem dL_bits_24 : decode cL_bits 24 = .ok (.iload_n 1, 1) := by decide +kernel
theorem dL_bits_25 : decode cL_bits 25 = .ok (.ireturn, 1) := by decide +kernel
theorem dL_isLetter_0 : decode cL_isLetter 0 = .ok (.aload_n 0, 1) := by decide +kernel
theorem dL_isLetter_1 : decode cL_isLetter 1 = .ok (.iload_n 1, 1) := by decide +kernel
theorem dL_isLetter_2 : decode cL_isLetter 2 = .ok (.iconst 2, 1) := by decide +kernel
theorem dL_isLetter_3 : decode cL_isLetter 3 = .ok (.invokevirtual 64, 3) := by decide +kernel
theorem dL_isLetter_6 : decode cL_isLetter 6 = .ok (.istore_n 2, 1) := by decide +kernel
theorem dL_isLetter_7 : decode cL_isLetter 7 = .ok (.aload_n 0, 1) := by decide +kernel
theorem dL_isLetter_8 : decode cL_isLetter 8 = .ok (.iload_n 1, 1) := by decide +kernel
theorem dL_isLetter_9 : decode cL_isLetter 9 = .ok (.iconst 3, 1) := by decide +kernel
theorem dL_isLetter_10 : decode cL_isLetter 10 = .ok (.invokevirtual 64, 3) := by decide +kernel
theorem dL_isLetter_13 : decode cL_isLetter 13 = .ok (.istore_n 3, 1) := by decide +kernel
theorem dL_isLetter_14 : decode cL_isLetter 14 = .ok (.iconst 0, 1) := by decide +kernel
theorem dL_isLetter_15 : decode cL_isLetter 15 = .ok (.istore 4, 2) := by decide +kernel
theorem dL_isLetter_17 : decode cL_isLetter 17 = .ok (.iconst 0, 1) := by decide +kernel
theorem dL_isLetter_18 : decode cL_isLetter 18 = .ok (.istore 5, 2) := by decide +kernel
theorem dL_isLetter_20 : decode cL_isLetter 20 = .ok (.iload 5, 2) := by decide +kernel
theorem dL_isLetter_22 : decode cL_isLetter 22 = .ok (.aload_n 0, 1) := by decide +kernel
theorem dL_isLetter_23 : decode cL_isLetter 23 = .ok (.iload_n 1, 1) := by decide +kernel
theorem dL_isLetter_24 : decode cL_isLetter 24 = .ok (.bipush 10, 2) := by decide +kernel
theorem dL_isLetter_26 : decode cL_isLetter 26 = .ok (.invokevirtual 64, 3) := by decide +kernel
theorem dL_isLetter_29 : decode cL_isLetter 29 = .ok (.if_icmp .ge 58, 3) := by decide +kernel
theorem dL_isLetter_32 : decode cL_isLetter 32 = .ok (.aload_n 0, 1) := by decide +kernel
theorem dL_isLetter_33 : decode cL_isLetter 33 = .ok (.iload_n 1, 1) := by decide +kernel
theorem dL_isLetter_34 : decode cL_isLetter 34 = .ok (.iload 5, 2) := by decide +kernel
theorem dL_isLetter_36 : decode cL_isLetter 36 = .ok (.invokevirtual 67, 3) := by decide +kernel
theorem dL_isLetter_39 : decode cL_isLetter 39 = .ok (.istore 6, 2) := by decide +kernel
theorem dL_isLetter_41 : decode cL_isLetter 41 = .ok (.iload 4, 2) := by decide +kernel
theorem dL_isLetter_43 : decode cL_isLetter 43 = .ok (.iload 6, 2) := by decide +kernel
theorem dL_isLetter_45 : decode cL_isLetter 45 = .ok (.bipush 42, 2) := by decide +kernel
theorem dL_isLetter_47 : decode cL_isLetter 47 = .ok (.if_icmp .ne 7, 3) := by decide +kernel
theorem dL_isLetter_50 : decode cL_isLetter 50 = .ok (.iconst 1, 1) := by decide +kernel
theorem dL_isLetter_51 : decode cL_isLetter 51 = .ok (.goto 4, 3) := by decide +kernel
theorem dL_isLetter_54 : decode cL_isLetter 54 = .ok (.iconst 0, 1) := by decide +kernel
theorem dL_isLetter_55 : decode cL_isLetter 55 = .ok (.iadd, 1) := by decide +kernel
theorem dL_isLetter_56 : decode cL_isLetter 56 = .ok (.istore 4, 2) := by decide +kernel
theorem dL_isLetter_58 : decode cL_isLetter 58 = .ok (.iload 6, 2) := by decide +kernel
theorem dL_isLetter_60 : decode cL_isLetter 60 = .ok (.bipush 42, 2) := by decide +kernel
theorem dL_isLetter_62 : decode cL_isLetter 62 = .ok (.if_icmp .eq 19, 3) := by decide +kernel
theorem dL_isLetter_65 : decode cL_isLetter 65 = .ok (.iload 6, 2) := by decide +kernel
theorem dL_isLetter_67 : decode cL_isLetter 67 = .ok (.bipush 97, 2) := by decide +kernel
theorem dL_isLetter_69 : decode cL_isLetter 69 = .ok (.if_icmp .lt 10, 3) := by decide +kernel
theorem dL_isLetter_72 : decode cL_isLetter 72 = .ok (.iload 6, 2) := by decide +kernel
theorem dL_isLetter_74 : decode cL_isLetter 74 = .ok (.bipush 122, 2) := by decide +kernel
theorem dL_isLetter_76 : decode cL_isLetter 76 = .ok (.if_icmp .le 5, 3) := by decide +kernel
theorem dL_isLetter_79 : decode cL_isLetter 79 = .ok (.iconst 0, 1) := by decide +kernel
theorem dL_isLetter_81 : decode cL_isLetter 81 = .ok (.iinc 5 1, 3) := by decide +kernel
theorem dL_isLetter_84 : decode cL_isLetter 84 = .ok (.goto (-64), 3) := by decide +kernel
theorem dL_isLetter_87 : decode cL_isLetter 87 = .ok (.bipush (-6), 2) := by decide +kernel
theorem dL_isLetter_89 : decode cL_isLetter 89 = .ok (.istore 5, 2) := by decide +kernel
theorem dL_isLetter_91 : decode cL_isLetter 91 = .ok (.iconst 0, 1) := by decide +kernel
theorem dL_isLetter_92 : decode cL_isLetter 92 = .ok (.istore 6, 2) := by decide +kernel
theorem dL_isLetter_94 : decode cL_isLetter 94 = .ok (.iconst 0, 1) := by decide +kernel
theorem dL_isLetter_95 : decode cL_isLetter 95 = .ok (.istore 7, 2) := by decide +kernel
theorem dL_isLetter_97 : decode cL_isLetter 97 = .ok (.iload 7, 2) := by decide +kernel
theorem dL_isLetter_99 : decode cL_isLetter 99 = .ok (.iload_n 1, 1) := by decide +kernel
theorem dL_isLetter_100 : decode cL_isLetter 100 = .ok (.if_icmp .ge 73, 3) := by decide +kernel
theorem dL_isLetter_103 : decode cL_isLetter 103 = .ok (.aload_n 0, 1) := by decide +kernel
theorem dL_isLetter_104 : decode cL_isLetter 104 = .ok (.iload 7, 2) := by decide +kernel
theorem dL_isLetter_106 : decode cL_isLetter 106 = .ok (.iconst 0, 1) := by decide +kernel
theorem dL_isLetter_107 : decode cL_isLetter 107 = .ok (.invokevirtual 64, 3) := by decide +kernel
theorem dL_isLetter_110 : decode cL_isLetter 110 = .ok (.aload_n 0, 1) := by decide +kernel
theorem dL_isLetter_111 : decode cL_isLetter 111 = .ok (.iload_n 1, 1) := by decide +kernel
theorem dL_isLetter_112 : decode cL_isLetter 112 = .ok (.iconst 0, 1) := by decide +kernel
theorem dL_isLetter_113 : decode cL_isLetter 113 = .ok (.invokevirtual 64, 3) := by decide +kernel
theorem dL_isLetter_116 : decode cL_isLetter 116 = .ok (.if_icmp .ne 7, 3) := by decide +kernel
theorem dL_isLetter_119 : decode cL_isLetter 119 = .ok (.iconst 1, 1) := by decide +kernel
theorem dL_isLetter_120 : decode cL_isLetter 120 = .ok (.goto 4, 3) := by decide +kernel
theorem dL_isLetter_123 : decode cL_isLetter 123 = .ok (.iconst 0, 1) := by decide +kernel
theorem dL_isLetter_124 : decode cL_isLetter 124 = .ok (.istore 8, 2) := by decide +kernel
theorem dL_isLetter_126 : decode cL_isLetter 126 = .ok (.iload 8, 2) := by decide +kernel
theorem dL_isLetter_128 : decode cL_isLetter 128 = .ok (.ifCond .eq 8, 3) := by decide +kernel
theorem dL_isLetter_131 : decode cL_isLetter 131 = .ok (.iload 7, 2) := by decide +kernel
theorem dL_isLetter_133 : decode cL_isLetter 133 = .ok (.goto 5, 3) := by decide +kernel
theorem dL_isLetter_136 : decode cL_isLetter 136 = .ok (.iload 5, 2) := by decide +kernel
theorem dL_isLetter_138 : decode cL_isLetter 138 = .ok (.istore 5, 2) := by decide +kernel
theorem dL_isLetter_140 : decode cL_isLetter 140 = .ok (.iload 6, 2) := by decide +kernel
theorem dL_isLetter_142 : decode cL_isLetter 142 = .ok (.ifCond .ne 18, 3) := by decide +kernel
theorem dL_isLetter_145 : decode cL_isLetter 145 = .ok (.iload 8, 2) := by decide +kernel
theorem dL_isLetter_147 : decode cL_isLetter 147 = .ok (.ifCond .eq 17, 3) := by decide +kernel
theorem dL_isLetter_150 : decode cL_isLetter 150 = .ok (.aload_n 0, 1) := by decide +kernel
theorem dL_isLetter_151 : decode cL_isLetter 151 = .ok (.iload 7, 2) := by decide +kernel
theorem dL_isLetter_153 : decode cL_isLetter 153 = .ok (.iconst 2, 1) := by decide +kernel
theorem dL_isLetter_154 : decode cL_isLetter 154 = .ok (.invokevirtual 64, 3) := by decide +kernel
theorem dL_isLetter_157 : decode cL_isLetter 157 = .ok (.ifCond .ne 7, 3) := by decide +kernel
theorem dL_isLetter_160 : decode cL_isLetter 160 = .ok (.iconst 1, 1) := by decide +kernel
theorem dL_isLetter_161 : decode cL_isLetter 161 = .ok (.goto 4, 3) := by decide +kernel
theorem dL_isLetter_164 : decode cL_isLetter 164 = .ok (.iconst 0, 1) := by decide +kernel
theorem dL_isLetter_165 : decode cL_isLetter 165 = .ok (.istore 6, 2) := by decide +kernel
theorem dL_isLetter_167 : decode cL_isLetter 167 = .ok (.iinc 7 1, 3) := by decide +kernel
theorem dL_isLetter_170 : decode cL_isLetter 170 = .ok (.goto (-73), 3) := by decide +kernel
theorem dL_isLetter_173 : decode cL_isLetter 173 = .ok (.aload_n 0, 1) := by decide +kernel
theorem dL_isLetter_174 : decode cL_isLetter 174 = .ok (.iload_n 1, 1) := by decide +kernel
theorem dL_isLetter_175 : decode cL_isLetter 175 = .ok (.invokevirtual 58, 3) := by decide +kernel
theorem dL_isLetter_178 : decode cL_isLetter 178 = .ok (.istore 7, 2) := by decide +kernel
theorem dL_isLetter_180 : decode cL_isLetter 180 = .ok (.iload_n 2, 1) := by decide +kernel
theorem dL_isLetter_181 : decode cL_isLetter 181 = .ok (.ifCond .ne 7, 3) := by decide +kernel
theorem dL_isLetter_184 : decode cL_isLetter 184 = .ok (.iconst 1, 1) := by decide +kernel
theorem dL_isLetter_185 : decode cL_isLetter 185 = .ok (.goto 4, 3) := by decide +kernel
theorem dL_isLetter_188 : decode cL_isLetter 188 = .ok (.iconst 0, 1) := by decide +kernel
theorem dL_isLetter_189 : decode cL_isLetter 189 = .ok (.iload_n 3, 1) := by decide +kernel
theorem dL_isLetter_190 : decode cL_isLetter 190 = .ok (.ifCond .lt 7, 3) := by decide +kernel
theorem dL_isLetter_193 : decode cL_isLetter 193 = .ok (.iconst 1, 1) := by decide +kernel
theorem dL_isLetter_194 : decode cL_isLetter 194 = .ok (.goto 4, 3) := by decide +kernel
theorem dL_isLetter_197 : decode cL_isLetter 197 = .ok (.iconst 0, 1) := by decide +kernel
theorem dL_isLetter_198 : decode cL_isLetter 198 = .ok (.if_icmp .ne 116, 3) := by decide +kernel
theorem dL_isLetter_201 : decode cL_isLetter 201 = .ok (.iload_n 2, 1) := by decide +kernel
theorem dL_isLetter_202 : decode cL_isLetter 202 = .ok (.iconst 1, 1) := by decide +kernel
theorem dL_isLetter_203 : decode cL_isLetter 203 = .ok (.if_icmp .ne 7, 3) := by decide +kernel
theorem dL_isLetter_206 : decode cL_isLetter 206 = .ok (.iconst 1, 1) := by decide +kernel
theorem dL_isLetter_207 : decode cL_isLetter 207 = .ok (.goto 4, 3) := by decide +kernel
theorem dL_isLetter_210 : decode cL_isLetter 210 = .ok (.iconst 0, 1) := by decide +kernel
theorem dL_isLetter_211 : decode cL_isLetter 211 = .ok (.aload_n 0, 1) := by decide +kernel
theorem dL_isLetter_212 : decode cL_isLetter 212 = .ok (.iload_n 1, 1) := by decide +kernel
theorem dL_isLetter_213 : decode cL_isLetter 213 = .ok (.iconst 5, 1) := by decide +kernel
theorem dL_isLetter_214 : decode cL_isLetter 214 = .ok (.invokevirtual 64, 3) := by decide +kernel
theorem dL_isLetter_217 : decode cL_isLetter 217 = .ok (.bipush (-6), 2) := by decide +kernel
theorem dL_isLetter_219 : decode cL_isLetter 219 = .ok (.if_icmp .eq 7, 3) := by decide +kernel
theorem dL_isLetter_222 : decode cL_isLetter 222 = .ok (.iconst 1, 1) := by decide +kernel
theorem dL_isLetter_223 : decode cL_isLetter 223 = .ok (.goto 4, 3) := by decide +kernel
theorem dL_isLetter_226 : decode cL_isLetter 226 = .ok (.iconst 0, 1) := by decide +kernel
theorem dL_isLetter_227 : decode cL_isLetter 227 = .ok (.if_icmp .ne 87, 3) := by decide +kernel
theorem dL_isLetter_230 : decode cL_isLetter 230 = .ok (.iload_n 2, 1) := by decide +kernel
theorem dL_isLetter_231 : decode cL_isLetter 231 = .ok (.iconst 1, 1) := by decide +kernel
theorem dL_isLetter_232 : decode cL_isLetter 232 = .ok (.if_icmp .ne 7, 3) := by decide +kernel
theorem dL_isLetter_235 : decode cL_isLetter 235 = .ok (.iconst 1, 1) := by decide +kernel
theorem dL_isLetter_236 : decode cL_isLetter 236 = .ok (.goto 4, 3) := by decide +kernel
theorem dL_isLetter_239 : decode cL_isLetter 239 = .ok (.iconst 0, 1) := by decide +kernel
theorem dL_isLetter_240 : decode cL_isLetter 240 = .ok (.aload_n 0, 1) := by decide +kernel
theorem dL_isLetter_241 : decode cL_isLetter 241 = .ok (.iload_n 1, 1) := by decide +kernel
theorem dL_isLetter_242 : decode cL_isLetter 242 = .ok (.bipush 8, 2) := by decide +kernel
theorem dL_isLetter_244 : decode cL_isLetter 244 = .ok (.invokevirtual 64, 3) := by decide +kernel
theorem dL_isLetter_247 : decode cL_isLetter 247 = .ok (.bipush (-6), 2) := by decide +kernel
theorem dL_isLetter_249 : decode cL_isLetter 249 = .ok (.if_icmp .eq 7, 3) := by decide +kernel
theorem dL_isLetter_252 : decode cL_isLetter 252 = .ok (.iconst 1, 1) := by decide +kernel
theorem dL_isLetter_253 : decode cL_isLetter 253 = .ok (.goto 4, 3) := by decide +kernel
theorem dL_isLetter_256 : decode cL_isLetter 256 = .ok (.iconst 0, 1) := by decide +kernel
theorem dL_isLetter_257 : decode cL_isLetter 257 = .ok (.if_icmp .ne 57, 3) := by decide +kernel
theorem dL_isLetter_260 : decode cL_isLetter 260 = .ok (.iload 4, 2) := by decide +kernel
theorem dL_isLetter_262 : decode cL_isLetter 262 = .ok (.aload_n 0, 1) := by decide +kernel
theorem dL_isLetter_263 : decode cL_isLetter 263 = .ok (.iload_n 1, 1) := by decide +kernel
theorem dL_isLetter_264 : decode cL_isLetter 264 = .ok (.bipush 6, 2) := by decide +kernel
theorem dL_isLetter_266 : decode cL_isLetter 266 = .ok (.invokevirtual 64, 3) := by decide +kernel
theorem dL_isLetter_269 : decode cL_isLetter 269 = .ok (.if_icmp .ne 45, 3) := by decide +kernel
theorem dL_isLetter_272 : decode cL_isLetter 272 = .ok (.iload_n 2, 1) := by decide +kernel
theorem dL_isLetter_273 : decode cL_isLetter 273 = .ok (.iconst 1, 1) := by decide +kernel
theorem dL_isLetter_274 : decode cL_isLetter 274 = .ok (.if_icmp .eq 8, 3) := by decide +kernel
theorem dL_isLetter_277 : decode cL_isLetter 277 = .ok (.iload 4, 2) := by decide +kernel
theorem dL_isLetter_279 : decode cL_isLetter 279 = .ok (.ifCond .ne 35, 3) := by decide +kernel
theorem dL_isLetter_282 : decode cL_isLetter 282 = .ok (.aload_n 0, 1) := by decide +kernel
theorem dL_isLetter_283 : decode cL_isLetter 283 = .ok (.iload_n 1, 1) := by decide +kernel
theorem dL_isLetter_284 : decode cL_isLetter 284 = .ok (.bipush 9, 2) := by decide +kernel
theorem dL_isLetter_286 : decode cL_isLetter 286 = .ok (.invokevirtual 64, 3) := by decide +kernel
theorem dL_isLetter_289 : decode cL_isLetter 289 = .ok (.iload 5, 2) := by decide +kernel
theorem dL_isLetter_291 : decode cL_isLetter 291 = .ok (.if_icmp .ne 23, 3) := by decide +kernel
theorem dL_isLetter_294 : decode cL_isLetter 294 = .ok (.aload_n 0, 1) := by decide +kernel
theorem dL_isLetter_295 : decode cL_isLetter 295 = .ok (.iload_n 1, 1) := by decide +kernel
theorem dL_isLetter_296 : decode cL_isLetter 296 = .ok (.aload_n 0, 1) := by decide +kernel
theorem dL_isLetter_297 : decode cL_isLetter 297 = .ok (.iload_n 1, 1) := by decide +kernel
theorem dL_isLetter_298 : decode cL_isLetter 298 = .ok (.bipush 10, 2) := by decide +kernel
theorem dL_isLetter_300 : decode cL_isLetter 300 = .ok (.invokevirtual 64, 3) := by decide +kernel
theorem dL_isLetter_303 : decode cL_isLetter 303 = .ok (.invokevirtual 67, 3) := by decide +kernel
theorem dL_isLetter_306 : decode cL_isLetter 306 = .ok (.iconst (-1), 1) := by decide +kernel
theorem dL_isLetter_307 : decode cL_isLetter 307 = .ok (.if_icmp .ne 7, 3) := by decide +kernel
theorem dL_isLetter_310 : decode cL_isLetter 310 = .ok (.iconst 1, 1) := by decide +kernel
theorem dL_isLetter_311 : decode cL_isLetter 311 = .ok (.goto 4, 3) := by decide +kernel
theorem dL_isLetter_314 : decode cL_isLetter 314 = .ok (.iconst 0, 1) := by decide +kernel
theorem dL_isLetter_315 : decode cL_isLetter 315 = .ok (.istore 8, 2) := by decide +kernel
theorem dL_isLetter_317 : decode cL_isLetter 317 = .ok (.iload 8, 2) := by decide +kernel
theorem dL_isLetter_319 : decode cL_isLetter 319 = .ok (.ifCond .eq 86, 3) := by decide +kernel
theorem dL_isLetter_322 : decode cL_isLetter 322 = .ok (.iload 7, 2) := by decide +kernel
theorem dL_isLetter_324 : decode cL_isLetter 324 = .ok (.iconst 1, 1) := by decide +kernel
theorem dL_isLetter_325 : decode cL_isLetter 325 = .ok (.if_icmp .ne 7, 3) := by decide +kernel
theorem dL_isLetter_328 : decode cL_isLetter 328 = .ok (.iconst 1, 1) := by decide +kernel
theorem dL_isLetter_329 : decode cL_isLetter 329 = .ok (.goto 4, 3) := by decide +kernel
theorem dL_isLetter_332 : decode cL_isLetter 332 = .ok (.iconst 0, 1) := by decide +kernel
theorem dL_isLetter_333 : decode cL_isLetter 333 = .ok (.iload_n 2, 1) := by decide +kernel
theorem dL_isLetter_334 : decode cL_isLetter 334 = .ok (.ifCond .eq 7, 3) := by decide +kernel
theorem dL_isLetter_337 : decode cL_isLetter 337 = .ok (.iconst 1, 1) := by decide +kernel
theorem dL_isLetter_338 : decode cL_isLetter 338 = .ok (.goto 4, 3) := by decide +kernel
theorem dL_isLetter_341 : decode cL_isLetter 341 = .ok (.iconst 0, 1) := by decide +kernel
theorem dL_isLetter_342 : decode cL_isLetter 342 = .ok (.if_icmp .ne 63, 3) := by decide +kernel
theorem dL_isLetter_345 : decode cL_isLetter 345 = .ok (.iload_n 2, 1) := by decide +kernel
theorem dL_isLetter_346 : decode cL_isLetter 346 = .ok (.ifCond .ne 19, 3) := by decide +kernel
theorem dL_isLetter_349 : decode cL_isLetter 349 = .ok (.iload 7, 2) := by decide +kernel
theorem dL_isLetter_351 : decode cL_isLetter 351 = .ok (.iconst 2, 1) := by decide +kernel
theorem dL_isLetter_352 : decode cL_isLetter 352 = .ok (.if_icmp .ne 7, 3) := by decide +kernel
theorem dL_isLetter_355 : decode cL_isLetter 355 = .ok (.iconst 1, 1) := by decide +kernel
theorem dL_isLetter_356 : decode cL_isLetter 356 = .ok (.goto 4, 3) := by decide +kernel
theorem dL_isLetter_359 : decode cL_isLetter 359 = .ok (.iconst 0, 1) := by decide +kernel
theorem dL_isLetter_360 : decode cL_isLetter 360 = .ok (.iload 6, 2) := by decide +kernel
theorem dL_isLetter_362 : decode cL_isLetter 362 = .ok (.if_icmp .ne 43, 3) := by decide +kernel
theorem dL_isLetter_365 : decode cL_isLetter 365 = .ok (.iload_n 2, 1) := by decide +kernel
theorem dL_isLetter_366 : decode cL_isLetter 366 = .ok (.iconst 1, 1) := by decide +kernel
theorem dL_isLetter_367 : decode cL_isLetter 367 = .ok (.if_icmp .ne 34, 3) := by decide +kernel
theorem dL_isLetter_370 : decode cL_isLetter 370 = .ok (.aload_n 0, 1) := by decide +kernel
theorem dL_isLetter_371 : decode cL_isLetter 371 = .ok (.iload_n 1, 1) := by decide +kernel
theorem dL_isLetter_372 : decode cL_isLetter 372 = .ok (.iconst 5, 1) := by decide +kernel
theorem dL_isLetter_373 : decode cL_isLetter 373 = .ok (.invokevirtual 64, 3) := by decide +kernel
theorem dL_isLetter_376 : decode cL_isLetter 376 = .ok (.iconst 1, 1) := by decide +kernel
theorem dL_isLetter_377 : decode cL_isLetter 377 = .ok (.if_icmp .lt 28, 3) := by decide +kernel
theorem dL_isLetter_380 : decode cL_isLetter 380 = .ok (.aload_n 0, 1) := by decide +kernel
theorem dL_isLetter_381 : decode cL_isLetter 381 = .ok (.iload_n 1, 1) := by decide +kernel
theorem dL_isLetter_382 : decode cL_isLetter 382 = .ok (.iconst 5, 1) := by decide +kernel
theorem dL_isLetter_383 : decode cL_isLetter 383 = .ok (.invokevirtual 64, 3) := by decide +kernel
theorem dL_isLetter_386 : decode cL_isLetter 386 = .ok (.aload_n 0, 1) := by decide +kernel
theorem dL_isLetter_387 : decode cL_isLetter 387 = .ok (.iconst 3, 1) := by decide +kernel
theorem dL_isLetter_388 : decode cL_isLetter 388 = .ok (.invokevirtual 9, 3) := by decide +kernel
theorem dL_isLetter_391 : decode cL_isLetter 391 = .ok (.aload_n 0, 1) := by decide +kernel
theorem dL_isLetter_392 : decode cL_isLetter 392 = .ok (.iload_n 1, 1) := by decide +kernel
theorem dL_isLetter_393 : decode cL_isLetter 393 = .ok (.iconst 4, 1) := by decide +kernel
theorem dL_isLetter_394 : decode cL_isLetter 394 = .ok (.invokevirtual 64, 3) := by decide +kernel
theorem dL_isLetter_397 : decode cL_isLetter 397 = .ok (.isub, 1) := by decide +kernel
theorem dL_isLetter_398 : decode cL_isLetter 398 = .ok (.if_icmp .gt 7, 3) := by decide +kernel
theorem dL_isLetter_401 : decode cL_isLetter 401 = .ok (.iconst 1, 1) := by decide +kernel
theorem dL_isLetter_402 : decode cL_isLetter 402 = .ok (.goto 4, 3) := by decide +kernel
theorem dL_isLetter_405 : decode cL_isLetter 405 = .ok (.iconst 0, 1) := by decide +kernel
theorem dL_isLetter_406 : decode cL_isLetter 406 = .ok (.istore 8, 2) := by decide +kernel
theorem dL_isLetter_408 : decode cL_isLetter 408 = .ok (.iload 8, 2) := by decide +kernel
theorem dL_isLetter_410 : decode cL_isLetter 410 = .ok (.ifCond .eq 39, 3) := by decide +kernel
theorem dL_isLetter_413 : decode cL_isLetter 413 = .ok (.iload_n 1, 1) := by decide +kernel
theorem dL_isLetter_414 : decode cL_isLetter 414 = .ok (.iconst 4, 1) := by decide +kernel
theorem dL_isLetter_415 : decode cL_isLetter 415 = .ok (.irem, 1) := by decide +kernel
theorem dL_isLetter_416 : decode cL_isLetter 416 = .ok (.ifCond .ne 29, 3) := by decide +kernel
theorem dL_isLetter_419 : decode cL_isLetter 419 = .ok (.iload_n 2, 1) := by decide +kernel
theorem dL_isLetter_420 : decode cL_isLetter 420 = .ok (.iconst 1, 1) := by decide +kernel
theorem dL_isLetter_421 : decode cL_isLetter 421 = .ok (.if_icmp .ne 7, 3) := by decide +kernel
theorem dL_isLetter_424 : decode cL_isLetter 424 = .ok (.iconst 1, 1) := by decide +kernel
theorem dL_isLetter_425 : decode cL_isLetter 425 = .ok (.goto 4, 3) := by decide +kernel
theorem dL_isLetter_428 : decode cL_isLetter 428 = .ok (.iconst 0, 1) := by decide +kernel
theorem dL_isLetter_429 : decode cL_isLetter 429 = .ok (.aload_n 0, 1) := by decide +kernel
theorem dL_isLetter_430 : decode cL_isLetter 430 = .ok (.iload_n 1, 1) := by decide +kernel
theorem dL_isLetter_431 : decode cL_isLetter 431 = .ok (.invokevirtual 55, 3) := by decide +kernel
theorem dL_isLetter_434 : decode cL_isLetter 434 = .ok (.ifCond .ne 7, 3) := by decide +kernel
theorem dL_isLetter_437 : decode cL_isLetter 437 = .ok (.iconst 1, 1) := by decide +kernel
theorem dL_isLetter_438 : decode cL_isLetter 438 = .ok (.goto 4, 3) := by decide +kernel
theorem dL_isLetter_441 : decode cL_isLetter 441 = .ok (.iconst 0, 1) := by decide +kernel
theorem dL_isLetter_442 : decode cL_isLetter 442 = .ok (.if_icmp .ne 7, 3) := by decide +kernel
theorem dL_isLetter_445 : decode cL_isLetter 445 = .ok (.iconst 1, 1) := by decide +kernel
theorem dL_isLetter_446 : decode cL_isLetter 446 = .ok (.goto 4, 3) := by decide +kernel
theorem dL_isLetter_449 : decode cL_isLetter 449 = .ok (.iconst 0, 1) := by decide +kernel
theorem dL_isLetter_450 : decode cL_isLetter 450 = .ok (.ireturn, 1) := by decide +kernel
theorem dL_holds_0 : decode cL_holds 0 = .ok (.aload_n 0, 1) := by decide +kernel
theorem dL_holds_1 : decode cL_holds 1 = .ok (.iconst 4, 1) := by decide +kernel
theorem dL_holds_2 : decode cL_holds 2 = .ok (.invokevirtual 9, 3) := by decide +kernel
theorem dL_holds_5 : decode cL_holds 5 = .ok (.istore_n 1, 1) := by decide +kernel
theorem dL_holds_6 : decode cL_holds 6 = .ok (.iconst 0, 1) := by decide +kernel
theorem dL_holds_7 : decode cL_holds 7 = .ok (.istore_n 2, 1) := by decide +kernel
theorem dL_holds_8 : decode cL_holds 8 = .ok (.iconst 0, 1) := by decide +kernel
theorem dL_holds_9 : decode cL_holds 9 = .ok (.istore_n 3, 1) := by decide +kernel
theorem dL_holds_10 : decode cL_holds 10 = .ok (.iconst 0, 1) := by decide +kernel
theorem dL_holds_11 : decode cL_holds 11 = .ok (.istore 4, 2) := by decide +kernel
theorem dL_holds_13 : decode cL_holds 13 = .ok (.iconst 0, 1) := by decide +kernel
theorem dL_holds_14 : decode cL_holds 14 = .ok (.istore 5, 2) := by decide +kernel
theorem dL_holds_16 : decode cL_holds 16 = .ok (.iconst 3, 1) := by decide +kernel
theorem dL_holds_17 : decode cL_holds 17 = .ok (.newarray .int, 2) := by decide +kernel
theorem dL_holds_19 : decode cL_holds 19 = .ok (.astore 6, 2) := by decide +kernel
theorem dL_holds_21 : decode cL_holds 21 = .ok (.iconst 2, 1) := by decide +kernel
theorem dL_holds_22 : decode cL_holds 22 = .ok (.newarray .int, 2) := by decide +kernel
theorem dL_holds_24 : decode cL_holds 24 = .ok (.astore 7, 2) := by decide +kernel
theorem dL_holds_26 : decode cL_holds 26 = .ok (.iconst 0, 1) := by decide +kernel
theorem dL_holds_27 : decode cL_holds 27 = .ok (.istore 8, 2) := by decide +kernel
theorem dL_holds_29 : decode cL_holds 29 = .ok (.aload_n 0, 1) := by decide +kernel
theorem dL_holds_30 : decode cL_holds 30 = .ok (.iload_n 1, 1) := by decide +kernel
theorem dL_holds_31 : decode cL_holds 31 = .ok (.iconst 0, 1) := by decide +kernel
theorem dL_holds_32 : decode cL_holds 32 = .ok (.invokevirtual 64, 3) := by decide +kernel
theorem dL_holds_35 : decode cL_holds 35 = .ok (.iconst (-1), 1) := by decide +kernel
theorem dL_holds_36 : decode cL_holds 36 = .ok (.if_icmp .ne 13, 3) := by decide +kernel
theorem dL_holds_39 : decode cL_holds 39 = .ok (.iload_n 1, 1) := by decide +kernel
theorem dL_holds_40 : decode cL_holds 40 = .ok (.bipush 40, 2) := by decide +kernel
theorem dL_holds_42 : decode cL_holds 42 = .ok (.if_icmp .gt 7, 3) := by decide +kernel
theorem dL_holds_45 : decode cL_holds 45 = .ok (.iconst 1, 1) := by decide +kernel
theorem dL_holds_46 : decode cL_holds 46 = .ok (.goto 4, 3) := by decide +kernel
theorem dL_holds_49 : decode cL_holds 49 = .ok (.iconst 0, 1) := by decide +kernel
theorem dL_holds_50 : decode cL_holds 50 = .ok (.istore 9, 2) := by decide +kernel
theorem dL_holds_52 : decode cL_holds 52 = .ok (.iconst 0, 1) := by decide +kernel
theorem dL_holds_53 : decode cL_holds 53 = .ok (.istore 10, 2) := by decide +kernel
theorem dL_holds_55 : decode cL_holds 55 = .ok (.iload 10, 2) := by decide +kernel
theorem dL_holds_57 : decode cL_holds 57 = .ok (.iload_n 1, 1) := by decide +kernel
theorem dL_holds_58 : decode cL_holds 58 = .ok (.if_icmp .ge 157, 3) := by decide +kernel
theorem dL_holds_61 : decode cL_holds 61 = .ok (.iload 9, 2) := by decide +kernel
theorem dL_holds_63 : decode cL_holds 63 = .ok (.ifCond .eq 152, 3) := by decide +kernel
theorem dL_holds_66 : decode cL_holds 66 = .ok (.aload_n 0, 1) := by decide +kernel
theorem dL_holds_67 : decode cL_holds 67 = .ok (.iload 10, 2) := by decide +kernel
theorem dL_holds_69 : decode cL_holds 69 = .ok (.invokestatic 70, 3) := by decide +kernel
theorem dL_holds_72 : decode cL_holds 72 = .ok (.istore 9, 2) := by decide +kernel
theorem dL_holds_74 : decode cL_holds 74 = .ok (.aload_n 0, 1) := by decide +kernel
theorem dL_holds_75 : decode cL_holds 75 = .ok (.iload 10, 2) := by decide +kernel
theorem dL_holds_77 : decode cL_holds 77 = .ok (.iconst 2, 1) := by decide +kernel
theorem dL_holds_78 : decode cL_holds 78 = .ok (.invokevirtual 64, 3) := by decide +kernel
theorem dL_holds_81 : decode cL_holds 81 = .ok (.istore 11, 2) := by decide +kernel
theorem dL_holds_83 : decode cL_holds 83 = .ok (.iload 11, 2) := by decide +kernel
theorem dL_holds_85 : decode cL_holds 85 = .ok (.iconst 1, 1) := by decide +kernel
theorem dL_holds_86 : decode cL_holds 86 = .ok (.if_icmp .ne 13, 3) := by decide +kernel
theorem dL_holds_89 : decode cL_holds 89 = .ok (.aload_n 0, 1) := by decide +kernel
theorem dL_holds_90 : decode cL_holds 90 = .ok (.iload 10, 2) := by decide +kernel
theorem dL_holds_92 : decode cL_holds 92 = .ok (.iconst 5, 1) := by decide +kernel
theorem dL_holds_93 : decode cL_holds 93 = .ok (.invokevirtual 64, 3) := by decide +kernel
theorem dL_holds_96 : decode cL_holds 96 = .ok (.goto 4, 3) := by decide +kernel
theorem dL_holds_99 : decode cL_holds 99 = .ok (.iconst 0, 1) := by decide +kernel
theorem dL_holds_100 : decode cL_holds 100 = .ok (.istore 12, 2) := by decide +kernel
theorem dL_holds_102 : decode cL_holds 102 = .ok (.aload 6, 2) := by decide +kernel
theorem dL_holds_104 : decode cL_holds 104 = .ok (.iload 11, 2) := by decide +kernel
theorem dL_holds_106 : decode cL_holds 106 = .ok (.dup2, 1) := by decide +kernel
theorem dL_holds_107 : decode cL_holds 107 = .ok (.iaload, 1) := by decide +kernel
theorem dL_holds_108 : decode cL_holds 108 = .ok (.iconst 1, 1) := by decide +kernel
theorem dL_holds_109 : decode cL_holds 109 = .ok (.iadd, 1) := by decide +kernel
theorem dL_holds_110 : decode cL_holds 110 = .ok (.iastore, 1) := by decide +kernel
theorem dL_holds_111 : decode cL_holds 111 = .ok (.aload 7, 2) := by decide +kernel
theorem dL_holds_113 : decode cL_holds 113 = .ok (.aload_n 0, 1) := by decide +kernel
theorem dL_holds_114 : decode cL_holds 114 = .ok (.iload 10, 2) := by decide +kernel
theorem dL_holds_116 : decode cL_holds 116 = .ok (.iconst 1, 1) := by decide +kernel
theorem dL_holds_117 : decode cL_holds 117 = .ok (.invokevirtual 64, 3) := by decide +kernel
theorem dL_holds_120 : decode cL_holds 120 = .ok (.dup2, 1) := by decide +kernel
theorem dL_holds_121 : decode cL_holds 121 = .ok (.iaload, 1) := by decide +kernel
theorem dL_holds_122 : decode cL_holds 122 = .ok (.iload 11, 2) := by decide +kernel
theorem dL_holds_124 : decode cL_holds 124 = .ok (.ifCond .ne 7, 3) := by decide +kernel
theorem dL_holds_127 : decode cL_holds 127 = .ok (.iconst 1, 1) := by decide +kernel
theorem dL_holds_128 : decode cL_holds 128 = .ok (.goto 4, 3) := by decide +kernel
theorem dL_holds_131 : decode cL_holds 131 = .ok (.iconst 0, 1) := by decide +kernel
theorem dL_holds_132 : decode cL_holds 132 = .ok (.iadd, 1) := by decide +kernel
theorem dL_holds_133 : decode cL_holds 133 = .ok (.iastore, 1) := by decide +kernel
theorem dL_holds_134 : decode cL_holds 134 = .ok (.iload 8, 2) := by decide +kernel
theorem dL_holds_136 : decode cL_holds 136 = .ok (.iload 11, 2) := by decide +kernel
theorem dL_holds_138 : decode cL_holds 138 = .ok (.ifCond .ne 13, 3) := by decide +kernel
theorem dL_holds_141 : decode cL_holds 141 = .ok (.aload_n 0, 1) := by decide +kernel
theorem dL_holds_142 : decode cL_holds 142 = .ok (.iload 10, 2) := by decide +kernel
theorem dL_holds_144 : decode cL_holds 144 = .ok (.iconst 3, 1) := by decide +kernel
theorem dL_holds_145 : decode cL_holds 145 = .ok (.invokevirtual 64, 3) := by decide +kernel
theorem dL_holds_148 : decode cL_holds 148 = .ok (.goto 4, 3) := by decide +kernel
theorem dL_holds_151 : decode cL_holds 151 = .ok (.iconst 0, 1) := by decide +kernel
theorem dL_holds_152 : decode cL_holds 152 = .ok (.iadd, 1) := by decide +kernel
theorem dL_holds_153 : decode cL_holds 153 = .ok (.istore 8, 2) := by decide +kernel
theorem dL_holds_155 : decode cL_holds 155 = .ok (.iload_n 2, 1) := by decide +kernel
theorem dL_holds_156 : decode cL_holds 156 = .ok (.iload 12, 2) := by decide +kernel
theorem dL_holds_158 : decode cL_holds 158 = .ok (.iadd, 1) := by decide +kernel
theorem dL_holds_159 : decode cL_holds 159 = .ok (.istore_n 2, 1) := by decide +kernel
theorem dL_holds_160 : decode cL_holds 160 = .ok (.iload 12, 2) := by decide +kernel
theorem dL_holds_162 : decode cL_holds 162 = .ok (.iload_n 3, 1) := by decide +kernel
theorem dL_holds_163 : decode cL_holds 163 = .ok (.if_icmp .le 8, 3) := by decide +kernel
theorem dL_holds_166 : decode cL_holds 166 = .ok (.iload 12, 2) := by decide +kernel
theorem dL_holds_168 : decode cL_holds 168 = .ok (.goto 4, 3) := by decide +kernel
theorem dL_holds_171 : decode cL_holds 171 = .ok (.iload_n 3, 1) := by decide +kernel
theorem dL_holds_172 : decode cL_holds 172 = .ok (.istore_n 3, 1) := by decide +kernel
theorem dL_holds_173 : decode cL_holds 173 = .ok (.iload 4, 2) := by decide +kernel
theorem dL_holds_175 : decode cL_holds 175 = .ok (.aload_n 0, 1) := by decide +kernel
theorem dL_holds_176 : decode cL_holds 176 = .ok (.iload 10, 2) := by decide +kernel
theorem dL_holds_178 : decode cL_holds 178 = .ok (.bipush 6, 2) := by decide +kernel
theorem dL_holds_180 : decode cL_holds 180 = .ok (.invokevirtual 64, 3) := by decide +kernel
theorem dL_holds_183 : decode cL_holds 183 = .ok (.iadd, 1) := by decide +kernel
theorem dL_holds_184 : decode cL_holds 184 = .ok (.istore 4, 2) := by decide +kernel
theorem dL_holds_186 : decode cL_holds 186 = .ok (.iload 5, 2) := by decide +kernel
theorem dL_holds_188 : decode cL_holds 188 = .ok (.iload 11, 2) := by decide +kernel
theorem dL_holds_190 : decode cL_holds 190 = .ok (.ifCond .ne 15, 3) := by decide +kernel
theorem dL_holds_193 : decode cL_holds 193 = .ok (.iconst 1, 1) := by decide +kernel
theorem dL_holds_194 : decode cL_holds 194 = .ok (.aload_n 0, 1) := by decide +kernel
theorem dL_holds_195 : decode cL_holds 195 = .ok (.iload 10, 2) := by decide +kernel
theorem dL_holds_197 : decode cL_holds 197 = .ok (.iconst 0, 1) := by decide +kernel
theorem dL_holds_198 : decode cL_holds 198 = .ok (.invokevirtual 64, 3) := by decide +kernel
theorem dL_holds_201 : decode cL_holds 201 = .ok (.ishl, 1) := by decide +kernel
theorem dL_holds_202 : decode cL_holds 202 = .ok (.goto 4, 3) := by decide +kernel
theorem dL_holds_205 : decode cL_holds 205 = .ok (.iconst 0, 1) := by decide +kernel
theorem dL_holds_206 : decode cL_holds 206 = .ok (.ior, 1) := by decide +kernel
theorem dL_holds_207 : decode cL_holds 207 = .ok (.istore 5, 2) := by decide +kernel
theorem dL_holds_209 : decode cL_holds 209 = .ok (.iinc 10 1, 3) := by decide +kernel
theorem dL_holds_212 : decode cL_holds 212 = .ok (.goto (-157), 3) := by decide +kernel
theorem dL_holds_215 : decode cL_holds 215 = .ok (.iconst 0, 1) := by decide +kernel
theorem dL_holds_216 : decode cL_holds 216 = .ok (.istore 10, 2) := by decide +kernel
theorem dL_holds_218 : decode cL_holds 218 = .ok (.iconst 0, 1) := by decide +kernel
theorem dL_holds_219 : decode cL_holds 219 = .ok (.istore 11, 2) := by decide +kernel
theorem dL_holds_221 : decode cL_holds 221 = .ok (.iload 11, 2) := by decide +kernel
theorem dL_holds_223 : decode cL_holds 223 = .ok (.iconst 4, 1) := by decide +kernel
theorem dL_holds_224 : decode cL_holds 224 = .ok (.if_icmp .ge 70, 3) := by decide +kernel
theorem dL_holds_227 : decode cL_holds 227 = .ok (.iload 9, 2) := by decide +kernel
theorem dL_holds_229 : decode cL_holds 229 = .ok (.ifCond .eq 65, 3) := by decide +kernel
theorem dL_holds_232 : decode cL_holds 232 = .ok (.iload 10, 2) := by decide +kernel
theorem dL_holds_234 : decode cL_holds 234 = .ok (.aload_n 0, 1) := by decide +kernel
theorem dL_holds_235 : decode cL_holds 235 = .ok (.iload 11, 2) := by decide +kernel
theorem dL_holds_237 : decode cL_holds 237 = .ok (.iconst 1, 1) := by decide +kernel
theorem dL_holds_238 : decode cL_holds 238 = .ok (.invokevirtual 74, 3) := by decide +kernel
theorem dL_holds_241 : decode cL_holds 241 = .ok (.iadd, 1) := by decide +kernel
theorem dL_holds_242 : decode cL_holds 242 = .ok (.istore 10, 2) := by decide +kernel
theorem dL_holds_244 : decode cL_holds 244 = .ok (.aload_n 0, 1) := by decide +kernel
theorem dL_holds_245 : decode cL_holds 245 = .ok (.iload 11, 2) := by decide +kernel
theorem dL_holds_247 : decode cL_holds 247 = .ok (.iconst 0, 1) := by decide +kernel
theorem dL_holds_248 : decode cL_holds 248 = .ok (.invokevirtual 74, 3) := by decide +kernel
theorem dL_holds_251 : decode cL_holds 251 = .ok (.ifCond .lt 34, 3) := by decide +kernel
theorem dL_holds_254 : decode cL_holds 254 = .ok (.aload_n 0, 1) := by decide +kernel
theorem dL_holds_255 : decode cL_holds 255 = .ok (.iload 11, 2) := by decide +kernel
theorem dL_holds_257 : decode cL_holds 257 = .ok (.iconst 4, 1) := by decide +kernel
theorem dL_holds_258 : decode cL_holds 258 = .ok (.invokevirtual 74, 3) := by decide +kernel
theorem dL_holds_261 : decode cL_holds 261 = .ok (.aload_n 0, 1) := by decide +kernel
theorem dL_holds_262 : decode cL_holds 262 = .ok (.iload 11, 2) := by decide +kernel
theorem dL_holds_264 : decode cL_holds 264 = .ok (.iconst 2, 1) := by decide +kernel
theorem dL_holds_265 : decode cL_holds 265 = .ok (.invokevirtual 74, 3) := by decide +kernel
theorem dL_holds_268 : decode cL_holds 268 = .ok (.if_icmp .gt 17, 3) := by decide +kernel
theorem dL_holds_271 : decode cL_holds 271 = .ok (.aload_n 0, 1) := by decide +kernel
theorem dL_holds_272 : decode cL_holds 272 = .ok (.iconst 4, 1) := by decide +kernel
theorem dL_holds_273 : decode cL_holds 273 = .ok (.iconst 0, 1) := by decide +kernel
theorem dL_holds_274 : decode cL_holds 274 = .ok (.invokevirtual 74, 3) := by decide +kernel
theorem dL_holds_277 : decode cL_holds 277 = .ok (.iconst (-1), 1) := by decide +kernel
theorem dL_holds_278 : decode cL_holds 278 = .ok (.if_icmp .ne 7, 3) := by decide +kernel
theorem dL_holds_281 : decode cL_holds 281 = .ok (.iconst 1, 1) := by decide +kernel
theorem dL_holds_282 : decode cL_holds 282 = .ok (.goto 4, 3) := by decide +kernel
theorem dL_holds_285 : decode cL_holds 285 = .ok (.iconst 0, 1) := by decide +kernel
theorem dL_holds_286 : decode cL_holds 286 = .ok (.istore 9, 2) := by decide +kernel
theorem dL_holds_288 : decode cL_holds 288 = .ok (.iinc 11 1, 3) := by decide +kernel
theorem dL_holds_291 : decode cL_holds 291 = .ok (.goto (-70), 3) := by decide +kernel
theorem dL_holds_294 : decode cL_holds 294 = .ok (.iload 9, 2) := by decide +kernel
theorem dL_holds_296 : decode cL_holds 296 = .ok (.ifCond .eq 110, 3) := by decide +kernel
theorem dL_holds_299 : decode cL_holds 299 = .ok (.iload 10, 2) := by decide +kernel
theorem dL_holds_301 : decode cL_holds 301 = .ok (.bipush 8, 2) := by decide +kernel
theorem dL_holds_303 : decode cL_holds 303 = .ok (.if_icmp .ne 103, 3) := by decide +kernel
theorem dL_holds_306 : decode cL_holds 306 = .ok (.aload 6, 2) := by decide +kernel
theorem dL_holds_308 : decode cL_holds 308 = .ok (.iconst 0, 1) := by decide +kernel
theorem dL_holds_309 : decode cL_holds 309 = .ok (.iaload, 1) := by decide +kernel
theorem dL_holds_310 : decode cL_holds 310 = .ok (.aload_n 0, 1) := by decide +kernel
theorem dL_holds_311 : decode cL_holds 311 = .ok (.iconst 5, 1) := by decide +kernel
theorem dL_holds_312 : decode cL_holds 312 = .ok (.invokevirtual 9, 3) := by decide +kernel
theorem dL_holds_315 : decode cL_holds 315 = .ok (.if_icmp .ne 91, 3) := by decide +kernel
theorem dL_holds_318 : decode cL_holds 318 = .ok (.aload 6, 2) := by decide +kernel
theorem dL_holds_320 : decode cL_holds 320 = .ok (.iconst 1, 1) := by decide +kernel
theorem dL_holds_321 : decode cL_holds 321 = .ok (.iaload, 1) := by decide +kernel
theorem dL_holds_322 : decode cL_holds 322 = .ok (.aload_n 0, 1) := by decide +kernel
theorem dL_holds_323 : decode cL_holds 323 = .ok (.bipush 6, 2) := by decide +kernel
theorem dL_holds_325 : decode cL_holds 325 = .ok (.invokevirtual 9, 3) := by decide +kernel
theorem dL_holds_328 : decode cL_holds 328 = .ok (.if_icmp .ne 78, 3) := by decide +kernel
theorem dL_holds_331 : decode cL_holds 331 = .ok (.aload 6, 2) := by decide +kernel
theorem dL_holds_333 : decode cL_holds 333 = .ok (.iconst 2, 1) := by decide +kernel
theorem dL_holds_334 : decode cL_holds 334 = .ok (.iaload, 1) := by decide +kernel
theorem dL_holds_335 : decode cL_holds 335 = .ok (.aload_n 0, 1) := by decide +kernel
theorem dL_holds_336 : decode cL_holds 336 = .ok (.bipush 7, 2) := by decide +kernel
theorem dL_holds_338 : decode cL_holds 338 = .ok (.invokevirtual 9, 3) := by decide +kernel
theorem dL_holds_341 : decode cL_holds 341 = .ok (.if_icmp .ne 65, 3) := by decide +kernel
theorem dL_holds_344 : decode cL_holds 344 = .ok (.aload 7, 2) := by decide +kernel
theorem dL_holds_346 : decode cL_holds 346 = .ok (.iconst 0, 1) := by decide +kernel
theorem dL_holds_347 : decode cL_holds 347 = .ok (.iaload, 1) := by decide +kernel
theorem dL_holds_348 : decode cL_holds 348 = .ok (.aload_n 0, 1) := by decide +kernel
theorem dL_holds_349 : decode cL_holds 349 = .ok (.bipush 8, 2) := by decide +kernel
theorem dL_holds_351 : decode cL_holds 351 = .ok (.invokevirtual 9, 3) := by decide +kernel
theorem dL_holds_354 : decode cL_holds 354 = .ok (.if_icmp .ne 52, 3) := by decide +kernel
theorem dL_holds_357 : decode cL_holds 357 = .ok (.aload 7, 2) := by decide +kernel
theorem dL_holds_359 : decode cL_holds 359 = .ok (.iconst 1, 1) := by decide +kernel
theorem dL_holds_360 : decode cL_holds 360 = .ok (.iaload, 1) := by decide +kernel
theorem dL_holds_361 : decode cL_holds 361 = .ok (.aload_n 0, 1) := by decide +kernel
theorem dL_holds_362 : decode cL_holds 362 = .ok (.bipush 9, 2) := by decide +kernel
theorem dL_holds_364 : decode cL_holds 364 = .ok (.invokevirtual 9, 3) := by decide +kernel
theorem dL_holds_367 : decode cL_holds 367 = .ok (.if_icmp .ne 39, 3) := by decide +kernel
theorem dL_holds_370 : decode cL_holds 370 = .ok (.iload 8, 2) := by decide +kernel
theorem dL_holds_372 : decode cL_holds 372 = .ok (.aload 7, 2) := by decide +kernel
theorem dL_holds_374 : decode cL_holds 374 = .ok (.iconst 0, 1) := by decide +kernel
theorem dL_holds_375 : decode cL_holds 375 = .ok (.iaload, 1) := by decide +kernel
theorem dL_holds_376 : decode cL_holds 376 = .ok (.aload 7, 2) := by decide +kernel
theorem dL_holds_378 : decode cL_holds 378 = .ok (.iconst 0, 1) := by decide +kernel
theorem dL_holds_379 : decode cL_holds 379 = .ok (.iaload, 1) := by decide +kernel
theorem dL_holds_380 : decode cL_holds 380 = .ok (.iconst 1, 1) := by decide +kernel
theorem dL_holds_381 : decode cL_holds 381 = .ok (.isub, 1) := by decide +kernel
theorem dL_holds_382 : decode cL_holds 382 = .ok (.imul, 1) := by decide +kernel
theorem dL_holds_383 : decode cL_holds 383 = .ok (.iconst 2, 1) := by decide +kernel
theorem dL_holds_384 : decode cL_holds 384 = .ok (.idiv, 1) := by decide +kernel
theorem dL_holds_385 : decode cL_holds 385 = .ok (.aload 7, 2) := by decide +kernel
theorem dL_holds_387 : decode cL_holds 387 = .ok (.iconst 1, 1) := by decide +kernel
theorem dL_holds_388 : decode cL_holds 388 = .ok (.iaload, 1) := by decide +kernel
theorem dL_holds_389 : decode cL_holds 389 = .ok (.aload 7, 2) := by decide +kernel
theorem dL_holds_391 : decode cL_holds 391 = .ok (.iconst 1, 1) := by decide +kernel
theorem dL_holds_392 : decode cL_holds 392 = .ok (.iaload, 1) := by decide +kernel
theorem dL_holds_393 : decode cL_holds 393 = .ok (.iconst 1, 1) := by decide +kernel
theorem dL_holds_394 : decode cL_holds 394 = .ok (.isub, 1) := by decide +kernel
theorem dL_holds_395 : decode cL_holds 395 = .ok (.imul, 1) := by decide +kernel
theorem dL_holds_396 : decode cL_holds 396 = .ok (.iconst 2, 1) := by decide +kernel
theorem dL_holds_397 : decode cL_holds 397 = .ok (.idiv, 1) := by decide +kernel
theorem dL_holds_398 : decode cL_holds 398 = .ok (.iadd, 1) := by decide +kernel
theorem dL_holds_399 : decode cL_holds 399 = .ok (.if_icmp .ne 7, 3) := by decide +kernel
theorem dL_holds_402 : decode cL_holds 402 = .ok (.iconst 1, 1) := by decide +kernel
theorem dL_holds_403 : decode cL_holds 403 = .ok (.goto 4, 3) := by decide +kernel
theorem dL_holds_406 : decode cL_holds 406 = .ok (.iconst 0, 1) := by decide +kernel
theorem dL_holds_407 : decode cL_holds 407 = .ok (.istore 9, 2) := by decide +kernel
theorem dL_holds_409 : decode cL_holds 409 = .ok (.iload 9, 2) := by decide +kernel
theorem dL_holds_411 : decode cL_holds 411 = .ok (.ifCond .eq 52, 3) := by decide +kernel
theorem dL_holds_414 : decode cL_holds 414 = .ok (.iload_n 2, 1) := by decide +kernel
theorem dL_holds_415 : decode cL_holds 415 = .ok (.aload_n 0, 1) := by decide +kernel
theorem dL_holds_416 : decode cL_holds 416 = .ok (.bipush 10, 2) := by decide +kernel
theorem dL_holds_418 : decode cL_holds 418 = .ok (.invokevirtual 9, 3) := by decide +kernel
theorem dL_holds_421 : decode cL_holds 421 = .ok (.if_icmp .ne 42, 3) := by decide +kernel
theorem dL_holds_424 : decode cL_holds 424 = .ok (.iload_n 3, 1) := by decide +kernel
theorem dL_holds_425 : decode cL_holds 425 = .ok (.aload_n 0, 1) := by decide +kernel
theorem dL_holds_426 : decode cL_holds 426 = .ok (.bipush 11, 2) := by decide +kernel
theorem dL_holds_428 : decode cL_holds 428 = .ok (.invokevirtual 9, 3) := by decide +kernel
theorem dL_holds_431 : decode cL_holds 431 = .ok (.if_icmp .ne 32, 3) := by decide +kernel
theorem dL_holds_434 : decode cL_holds 434 = .ok (.iload 4, 2) := by decide +kernel
theorem dL_holds_436 : decode cL_holds 436 = .ok (.aload_n 0, 1) := by decide +kernel
theorem dL_holds_437 : decode cL_holds 437 = .ok (.bipush 12, 2) := by decide +kernel
theorem dL_holds_439 : decode cL_holds 439 = .ok (.invokevirtual 9, 3) := by decide +kernel
theorem dL_holds_442 : decode cL_holds 442 = .ok (.if_icmp .ne 21, 3) := by decide +kernel
theorem dL_holds_445 : decode cL_holds 445 = .ok (.iload 5, 2) := by decide +kernel
theorem dL_holds_447 : decode cL_holds 447 = .ok (.invokestatic 77, 3) := by decide +kernel
theorem dL_holds_450 : decode cL_holds 450 = .ok (.aload_n 0, 1) := by decide +kernel
theorem dL_holds_451 : decode cL_holds 451 = .ok (.bipush 13, 2) := by decide +kernel
theorem dL_holds_453 : decode cL_holds 453 = .ok (.invokevirtual 9, 3) := by decide +kernel
theorem dL_holds_456 : decode cL_holds 456 = .ok (.if_icmp .ne 7, 3) := by decide +kernel
theorem dL_holds_459 : decode cL_holds 459 = .ok (.iconst 1, 1) := by decide +kernel
theorem dL_holds_460 : decode cL_holds 460 = .ok (.goto 4, 3) := by decide +kernel
theorem dL_holds_463 : decode cL_holds 463 = .ok (.iconst 0, 1) := by decide +kernel
theorem dL_holds_464 : decode cL_holds 464 = .ok (.ireturn, 1) := by decide +kernel
theorem dL_tries_0 : decode cL_tries 0 = .ok (.aload_n 0, 1) := by decide +kernel
theorem dL_tries_1 : decode cL_tries 1 = .ok (.iconst 4, 1) := by decide +kernel
theorem dL_tries_2 : decode cL_tries 2 = .ok (.iconst 0, 1) := by decide +kernel
theorem dL_tries_3 : decode cL_tries 3 = .ok (.invokevirtual 52, 3) := by decide +kernel
theorem dL_tries_6 : decode cL_tries 6 = .ok (.istore_n 2, 1) := by decide +kernel
theorem dL_tries_7 : decode cL_tries 7 = .ok (.aload_n 0, 1) := by decide +kernel
theorem dL_tries_8 : decode cL_tries 8 = .ok (.invokevirtual 80, 3) := by decide +kernel
theorem dL_tries_11 : decode cL_tries 11 = .ok (.istore_n 3, 1) := by decide +kernel
theorem dL_tries_12 : decode cL_tries 12 = .ok (.iload_n 2, 1) := by decide +kernel
theorem dL_tries_13 : decode cL_tries 13 = .ok (.istore 4, 2) := by decide +kernel
theorem dL_tries_15 : decode cL_tries 15 = .ok (.iconst 1, 1) := by decide +kernel
theorem dL_tries_16 : decode cL_tries 16 = .ok (.istore 5, 2) := by decide +kernel
theorem dL_tries_18 : decode cL_tries 18 = .ok (.iload_n 3, 1) := by decide +kernel
theorem dL_tries_19 : decode cL_tries 19 = .ok (.bipush (-6), 2) := by decide +kernel
theorem dL_tries_21 : decode cL_tries 21 = .ok (.if_icmp .eq 69, 3) := by decide +kernel
theorem dL_tries_24 : decode cL_tries 24 = .ok (.iload_n 3, 1) := by decide +kernel
theorem dL_tries_25 : decode cL_tries 25 = .ok (.bipush 8, 2) := by decide +kernel
theorem dL_tries_27 : decode cL_tries 27 = .ok (.idiv, 1) := by decide +kernel
theorem dL_tries_28 : decode cL_tries 28 = .ok (.iload_n 3, 1) := by decide +kernel
theorem dL_tries_29 : decode cL_tries 29 = .ok (.bipush 8, 2) := by decide +kernel
theorem dL_tries_31 : decode cL_tries 31 = .ok (.irem, 1) := by decide +kernel
theorem dL_tries_32 : decode cL_tries 32 = .ok (.if_icmp .ge 22, 3) := by decide +kernel
theorem dL_tries_35 : decode cL_tries 35 = .ok (.aload_n 0, 1) := by decide +kernel
theorem dL_tries_36 : decode cL_tries 36 = .ok (.iload_n 3, 1) := by decide +kernel
theorem dL_tries_37 : decode cL_tries 37 = .ok (.bipush 8, 2) := by decide +kernel
theorem dL_tries_39 : decode cL_tries 39 = .ok (.idiv, 1) := by decide +kernel
theorem dL_tries_40 : decode cL_tries 40 = .ok (.iload_n 3, 1) := by decide +kernel
theorem dL_tries_41 : decode cL_tries 41 = .ok (.bipush 8, 2) := by decide +kernel
theorem dL_tries_43 : decode cL_tries 43 = .ok (.irem, 1) := by decide +kernel
theorem dL_tries_44 : decode cL_tries 44 = .ok (.invokevirtual 39, 3) := by decide +kernel
theorem dL_tries_47 : decode cL_tries 47 = .ok (.ifCond .lt 7, 3) := by decide +kernel
theorem dL_tries_50 : decode cL_tries 50 = .ok (.iconst 1, 1) := by decide +kernel
theorem dL_tries_51 : decode cL_tries 51 = .ok (.goto 4, 3) := by decide +kernel
theorem dL_tries_54 : decode cL_tries 54 = .ok (.iconst 0, 1) := by decide +kernel
theorem dL_tries_55 : decode cL_tries 55 = .ok (.istore 5, 2) := by decide +kernel
theorem dL_tries_57 : decode cL_tries 57 = .ok (.aload_n 0, 1) := by decide +kernel
theorem dL_tries_58 : decode cL_tries 58 = .ok (.iconst 4, 1) := by decide +kernel
theorem dL_tries_59 : decode cL_tries 59 = .ok (.iconst 0, 1) := by decide +kernel
theorem dL_tries_60 : decode cL_tries 60 = .ok (.invokevirtual 52, 3) := by decide +kernel
theorem dL_tries_63 : decode cL_tries 63 = .ok (.istore 4, 2) := by decide +kernel
theorem dL_tries_65 : decode cL_tries 65 = .ok (.iload 5, 2) := by decide +kernel
theorem dL_tries_67 : decode cL_tries 67 = .ok (.ifCond .eq 20, 3) := by decide +kernel
theorem dL_tries_70 : decode cL_tries 70 = .ok (.iload 4, 2) := by decide +kernel
theorem dL_tries_72 : decode cL_tries 72 = .ok (.iload_n 2, 1) := by decide +kernel
theorem dL_tries_73 : decode cL_tries 73 = .ok (.if_icmp .le 14, 3) := by decide +kernel
theorem dL_tries_76 : decode cL_tries 76 = .ok (.aload_n 0, 1) := by decide +kernel
theorem dL_tries_77 : decode cL_tries 77 = .ok (.invokevirtual 83, 3) := by decide +kernel
theorem dL_tries_80 : decode cL_tries 80 = .ok (.ifCond .lt 7, 3) := by decide +kernel
theorem dL_tries_83 : decode cL_tries 83 = .ok (.iconst 1, 1) := by decide +kernel
theorem dL_tries_84 : decode cL_tries 84 = .ok (.goto 4, 3) := by decide +kernel
theorem dL_tries_87 : decode cL_tries 87 = .ok (.iconst 0, 1) := by decide +kernel
theorem dL_tries_88 : decode cL_tries 88 = .ok (.istore 5, 2) := by decide +kernel
theorem dL_tries_90 : decode cL_tries 90 = .ok (.iload_n 1, 1) := by decide +kernel
theorem dL_tries_91 : decode cL_tries 91 = .ok (.bipush 7, 2) := by decide +kernel
theorem dL_tries_93 : decode cL_tries 93 = .ok (.invokestatic 15, 3) := by decide +kernel
theorem dL_tries_96 : decode cL_tries 96 = .ok (.istore 6, 2) := by decide +kernel
theorem dL_tries_98 : decode cL_tries 98 = .ok (.iload 6, 2) := by decide +kernel
theorem dL_tries_100 : decode cL_tries 100 = .ok (.iconst 1, 1) := by decide +kernel
theorem dL_tries_101 : decode cL_tries 101 = .ok (.iadd, 1) := by decide +kernel
theorem dL_tries_102 : decode cL_tries 102 = .ok (.iload_n 1, 1) := by decide +kernel
theorem dL_tries_103 : decode cL_tries 103 = .ok (.iconst 3, 1) := by decide +kernel
theorem dL_tries_104 : decode cL_tries 104 = .ok (.ishr, 1) := by decide +kernel
theorem dL_tries_105 : decode cL_tries 105 = .ok (.bipush 7, 2) := by decide +kernel
theorem dL_tries_107 : decode cL_tries 107 = .ok (.iload 6, 2) := by decide +kernel
theorem dL_tries_109 : decode cL_tries 109 = .ok (.isub, 1) := by decide +kernel
theorem dL_tries_110 : decode cL_tries 110 = .ok (.invokestatic 15, 3) := by decide +kernel
theorem dL_tries_113 : decode cL_tries 113 = .ok (.iadd, 1) := by decide +kernel
theorem dL_tries_114 : decode cL_tries 114 = .ok (.istore 7, 2) := by decide +kernel
theorem dL_tries_116 : decode cL_tries 116 = .ok (.iload 5, 2) := by decide +kernel
theorem dL_tries_118 : decode cL_tries 118 = .ok (.ifCond .eq 68, 3) := by decide +kernel
theorem dL_tries_121 : decode cL_tries 121 = .ok (.aload_n 0, 1) := by decide +kernel
theorem dL_tries_122 : decode cL_tries 122 = .ok (.iload 6, 2) := by decide +kernel
theorem dL_tries_124 : decode cL_tries 124 = .ok (.iload 7, 2) := by decide +kernel
theorem dL_tries_126 : decode cL_tries 126 = .ok (.invokevirtual 39, 3) := by decide +kernel
theorem dL_tries_129 : decode cL_tries 129 = .ok (.ifCond .lt 57, 3) := by decide +kernel
theorem dL_tries_132 : decode cL_tries 132 = .ok (.aload_n 0, 1) := by decide +kernel
theorem dL_tries_133 : decode cL_tries 133 = .ok (.iconst 4, 1) := by decide +kernel
theorem dL_tries_134 : decode cL_tries 134 = .ok (.iconst 0, 1) := by decide +kernel
theorem dL_tries_135 : decode cL_tries 135 = .ok (.invokevirtual 52, 3) := by decide +kernel
theorem dL_tries_138 : decode cL_tries 138 = .ok (.istore 8, 2) := by decide +kernel
theorem dL_tries_140 : decode cL_tries 140 = .ok (.iload 8, 2) := by decide +kernel
theorem dL_tries_142 : decode cL_tries 142 = .ok (.iload 4, 2) := by decide +kernel
theorem dL_tries_144 : decode cL_tries 144 = .ok (.if_icmp .lt 28, 3) := by decide +kernel
theorem dL_tries_147 : decode cL_tries 147 = .ok (.iload 8, 2) := by decide +kernel
theorem dL_tries_149 : decode cL_tries 149 = .ok (.iload 4, 2) := by decide +kernel
theorem dL_tries_151 : decode cL_tries 151 = .ok (.if_icmp .ne 32, 3) := by decide +kernel
theorem dL_tries_154 : decode cL_tries 154 = .ok (.iload_n 3, 1) := by decide +kernel
theorem dL_tries_155 : decode cL_tries 155 = .ok (.bipush (-6), 2) := by decide +kernel
theorem dL_tries_157 : decode cL_tries 157 = .ok (.if_icmp .eq 15, 3) := by decide +kernel
theorem dL_tries_160 : decode cL_tries 160 = .ok (.bipush 8, 2) := by decide +kernel
theorem dL_tries_162 : decode cL_tries 162 = .ok (.iload 6, 2) := by decide +kernel
theorem dL_tries_164 : decode cL_tries 164 = .ok (.imul, 1) := by decide +kernel
theorem dL_tries_165 : decode cL_tries 165 = .ok (.iload 7, 2) := by decide +kernel
theorem dL_tries_167 : decode cL_tries 167 = .ok (.iadd, 1) := by decide +kernel
theorem dL_tries_168 : decode cL_tries 168 = .ok (.iload_n 3, 1) := by decide +kernel
theorem dL_tries_169 : decode cL_tries 169 = .ok (.if_icmp .lt 14, 3) := by decide +kernel
theorem dL_tries_172 : decode cL_tries 172 = .ok (.aload_n 0, 1) := by decide +kernel
theorem dL_tries_173 : decode cL_tries 173 = .ok (.invokevirtual 83, 3) := by decide +kernel
theorem dL_tries_176 : decode cL_tries 176 = .ok (.ifCond .lt 7, 3) := by decide +kernel
theorem dL_tries_179 : decode cL_tries 179 = .ok (.iconst 1, 1) := by decide +kernel
theorem dL_tries_180 : decode cL_tries 180 = .ok (.goto 4, 3) := by decide +kernel
theorem dL_tries_183 : decode cL_tries 183 = .ok (.iconst 0, 1) := by decide +kernel
theorem dL_tries_184 : decode cL_tries 184 = .ok (.istore 5, 2) := by decide +kernel
theorem dL_tries_186 : decode cL_tries 186 = .ok (.aload_n 0, 1) := by decide +kernel
theorem dL_tries_187 : decode cL_tries 187 = .ok (.iconst 1, 1) := by decide +kernel
theorem dL_tries_188 : decode cL_tries 188 = .ok (.invokevirtual 9, 3) := by decide +kernel
theorem dL_tries_191 : decode cL_tries 191 = .ok (.istore 8, 2) := by decide +kernel
theorem dL_tries_193 : decode cL_tries 193 = .ok (.aload_n 0, 1) := by decide +kernel
theorem dL_tries_194 : decode cL_tries 194 = .ok (.invokevirtual 86, 3) := by decide +kernel
theorem dL_tries_197 : decode cL_tries 197 = .ok (.istore 9, 2) := by decide +kernel
theorem dL_tries_199 : decode cL_tries 199 = .ok (.iload 5, 2) := by decide +kernel
theorem dL_tries_201 : decode cL_tries 201 = .ok (.ifCond .eq 66, 3) := by decide +kernel
theorem dL_tries_204 : decode cL_tries 204 = .ok (.aload_n 0, 1) := by decide +kernel
theorem dL_tries_205 : decode cL_tries 205 = .ok (.iconst 1, 1) := by decide +kernel
theorem dL_tries_206 : decode cL_tries 206 = .ok (.iload 9, 2) := by decide +kernel
theorem dL_tries_208 : decode cL_tries 208 = .ok (.invokevirtual 42, 3) := by decide +kernel
theorem dL_tries_211 : decode cL_tries 211 = .ok (.iload 8, 2) := by decide +kernel
theorem dL_tries_213 : decode cL_tries 213 = .ok (.if_icmp .ne 54, 3) := by decide +kernel
theorem dL_tries_216 : decode cL_tries 216 = .ok (.aload_n 0, 1) := by decide +kernel
theorem dL_tries_217 : decode cL_tries 217 = .ok (.invokestatic 89, 3) := by decide +kernel
theorem dL_tries_220 : decode cL_tries 220 = .ok (.ifCond .eq 47, 3) := by decide +kernel
theorem dL_tries_223 : decode cL_tries 223 = .ok (.iload 9, 2) := by decide +kernel
theorem dL_tries_225 : decode cL_tries 225 = .ok (.ifCond .eq 31, 3) := by decide +kernel
theorem dL_tries_228 : decode cL_tries 228 = .ok (.aload_n 0, 1) := by decide +kernel
theorem dL_tries_229 : decode cL_tries 229 = .ok (.iconst 1, 1) := by decide +kernel
theorem dL_tries_230 : decode cL_tries 230 = .ok (.iload 9, 2) := by decide +kernel
theorem dL_tries_232 : decode cL_tries 232 = .ok (.iconst 1, 1) := by decide +kernel
theorem dL_tries_233 : decode cL_tries 233 = .ok (.isub, 1) := by decide +kernel
theorem dL_tries_234 : decode cL_tries 234 = .ok (.invokevirtual 42, 3) := by decide +kernel
theorem dL_tries_237 : decode cL_tries 237 = .ok (.iload 9, 2) := by decide +kernel
theorem dL_tries_239 : decode cL_tries 239 = .ok (.if_icmp .ne 28, 3) := by decide +kernel
theorem dL_tries_242 : decode cL_tries 242 = .ok (.aload_n 0, 1) := by decide +kernel
theorem dL_tries_243 : decode cL_tries 243 = .ok (.invokestatic 89, 3) := by decide +kernel
theorem dL_tries_246 : decode cL_tries 246 = .ok (.ifCond .ne 21, 3) := by decide +kernel
theorem dL_tries_249 : decode cL_tries 249 = .ok (.aload_n 0, 1) := by decide +kernel
theorem dL_tries_250 : decode cL_tries 250 = .ok (.invokevirtual 83, 3) := by decide +kernel
theorem dL_tries_253 : decode cL_tries 253 = .ok (.ifCond .lt 14, 3) := by decide +kernel
theorem dL_tries_256 : decode cL_tries 256 = .ok (.aload_n 0, 1) := by decide +kernel
theorem dL_tries_257 : decode cL_tries 257 = .ok (.invokevirtual 83, 3) := by decide +kernel
theorem dL_tries_260 : decode cL_tries 260 = .ok (.ifCond .lt 7, 3) := by decide +kernel
theorem dL_tries_263 : decode cL_tries 263 = .ok (.iconst 1, 1) := by decide +kernel
theorem dL_tries_264 : decode cL_tries 264 = .ok (.goto 4, 3) := by decide +kernel
theorem dL_tries_267 : decode cL_tries 267 = .ok (.iconst 0, 1) := by decide +kernel
theorem dL_tries_268 : decode cL_tries 268 = .ok (.istore 5, 2) := by decide +kernel
theorem dL_tries_270 : decode cL_tries 270 = .ok (.iload 5, 2) := by decide +kernel
theorem dL_tries_272 : decode cL_tries 272 = .ok (.ifCond .eq 27, 3) := by decide +kernel
theorem dL_tries_275 : decode cL_tries 275 = .ok (.aload_n 0, 1) := by decide +kernel
theorem dL_tries_276 : decode cL_tries 276 = .ok (.iconst 4, 1) := by decide +kernel
theorem dL_tries_277 : decode cL_tries 277 = .ok (.iconst 0, 1) := by decide +kernel
theorem dL_tries_278 : decode cL_tries 278 = .ok (.invokevirtual 52, 3) := by decide +kernel
theorem dL_tries_281 : decode cL_tries 281 = .ok (.iload_n 2, 1) := by decide +kernel
theorem dL_tries_282 : decode cL_tries 282 = .ok (.if_icmp .ne 17, 3) := by decide +kernel
theorem dL_tries_285 : decode cL_tries 285 = .ok (.aload_n 0, 1) := by decide +kernel
theorem dL_tries_286 : decode cL_tries 286 = .ok (.iconst 1, 1) := by decide +kernel
theorem dL_tries_287 : decode cL_tries 287 = .ok (.invokevirtual 9, 3) := by decide +kernel
theorem dL_tries_290 : decode cL_tries 290 = .ok (.iload 8, 2) := by decide +kernel
theorem dL_tries_292 : decode cL_tries 292 = .ok (.if_icmp .ne 7, 3) := by decide +kernel
theorem dL_tries_295 : decode cL_tries 295 = .ok (.iconst 1, 1) := by decide +kernel
theorem dL_tries_296 : decode cL_tries 296 = .ok (.goto 4, 3) := by decide +kernel
theorem dL_tries_299 : decode cL_tries 299 = .ok (.iconst 0, 1) := by decide +kernel
theorem dL_tries_300 : decode cL_tries 300 = .ok (.ireturn, 1) := by decide +kernel
theorem dL_isCalm_0 : decode cL_isCalm 0 = .ok (.aload_n 0, 1) := by decide +kernel
theorem dL_isCalm_1 : decode cL_isCalm 1 = .ok (.iconst 0, 1) := by decide +kernel
theorem dL_isCalm_2 : decode cL_isCalm 2 = .ok (.iconst 4, 1) := by decide +kernel
theorem dL_isCalm_3 : decode cL_isCalm 3 = .ok (.invokevirtual 74, 3) := by decide +kernel
theorem dL_isCalm_6 : decode cL_isCalm 6 = .ok (.aload_n 0, 1) := by decide +kernel
theorem dL_isCalm_7 : decode cL_isCalm 7 = .ok (.iconst 1, 1) := by decide +kernel
theorem dL_isCalm_8 : decode cL_isCalm 8 = .ok (.iconst 4, 1) := by decide +kernel
theorem dL_isCalm_9 : decode cL_isCalm 9 = .ok (.invokevirtual 74, 3) := by decide +kernel
theorem dL_isCalm_12 : decode cL_isCalm 12 = .ok (.iadd, 1) := by decide +kernel
theorem dL_isCalm_13 : decode cL_isCalm 13 = .ok (.aload_n 0, 1) := by decide +kernel
theorem dL_isCalm_14 : decode cL_isCalm 14 = .ok (.iconst 2, 1) := by decide +kernel
theorem dL_isCalm_15 : decode cL_isCalm 15 = .ok (.iconst 4, 1) := by decide +kernel
theorem dL_isCalm_16 : decode cL_isCalm 16 = .ok (.invokevirtual 74, 3) := by decide +kernel
theorem dL_isCalm_19 : decode cL_isCalm 19 = .ok (.iadd, 1) := by decide +kernel
theorem dL_isCalm_20 : decode cL_isCalm 20 = .ok (.aload_n 0, 1) := by decide +kernel
theorem dL_isCalm_21 : decode cL_isCalm 21 = .ok (.iconst 3, 1) := by decide +kernel
theorem dL_isCalm_22 : decode cL_isCalm 22 = .ok (.iconst 4, 1) := by decide +kernel
theorem dL_isCalm_23 : decode cL_isCalm 23 = .ok (.invokevirtual 74, 3) := by decide +kernel
theorem dL_isCalm_26 : decode cL_isCalm 26 = .ok (.iadd, 1) := by decide +kernel
theorem dL_isCalm_27 : decode cL_isCalm 27 = .ok (.istore_n 1, 1) := by decide +kernel
theorem dL_isCalm_28 : decode cL_isCalm 28 = .ok (.aload_n 0, 1) := by decide +kernel
theorem dL_isCalm_29 : decode cL_isCalm 29 = .ok (.bipush 50, 2) := by decide +kernel
theorem dL_isCalm_31 : decode cL_isCalm 31 = .ok (.invokevirtual 61, 3) := by decide +kernel
theorem dL_isCalm_34 : decode cL_isCalm 34 = .ok (.ifCond .lt 47, 3) := by decide +kernel
theorem dL_isCalm_37 : decode cL_isCalm 37 = .ok (.aload_n 0, 1) := by decide +kernel
theorem dL_isCalm_38 : decode cL_isCalm 38 = .ok (.bipush 50, 2) := by decide +kernel
theorem dL_isCalm_40 : decode cL_isCalm 40 = .ok (.invokevirtual 61, 3) := by decide +kernel
theorem dL_isCalm_43 : decode cL_isCalm 43 = .ok (.ifCond .lt 38, 3) := by decide +kernel
theorem dL_isCalm_46 : decode cL_isCalm 46 = .ok (.aload_n 0, 1) := by decide +kernel
theorem dL_isCalm_47 : decode cL_isCalm 47 = .ok (.iconst 0, 1) := by decide +kernel
theorem dL_isCalm_48 : decode cL_isCalm 48 = .ok (.iconst 4, 1) := by decide +kernel
theorem dL_isCalm_49 : decode cL_isCalm 49 = .ok (.invokevirtual 74, 3) := by decide +kernel
theorem dL_isCalm_52 : decode cL_isCalm 52 = .ok (.aload_n 0, 1) := by decide +kernel
theorem dL_isCalm_53 : decode cL_isCalm 53 = .ok (.iconst 1, 1) := by decide +kernel
theorem dL_isCalm_54 : decode cL_isCalm 54 = .ok (.iconst 4, 1) := by decide +kernel
theorem dL_isCalm_55 : decode cL_isCalm 55 = .ok (.invokevirtual 74, 3) := by decide +kernel
theorem dL_isCalm_58 : decode cL_isCalm 58 = .ok (.iadd, 1) := by decide +kernel
theorem dL_isCalm_59 : decode cL_isCalm 59 = .ok (.aload_n 0, 1) := by decide +kernel
theorem dL_isCalm_60 : decode cL_isCalm 60 = .ok (.iconst 2, 1) := by decide +kernel
theorem dL_isCalm_61 : decode cL_isCalm 61 = .ok (.iconst 4, 1) := by decide +kernel
theorem dL_isCalm_62 : decode cL_isCalm 62 = .ok (.invokevirtual 74, 3) := by decide +kernel
theorem dL_isCalm_65 : decode cL_isCalm 65 = .ok (.iadd, 1) := by decide +kernel
theorem dL_isCalm_66 : decode cL_isCalm 66 = .ok (.aload_n 0, 1) := by decide +kernel
theorem dL_isCalm_67 : decode cL_isCalm 67 = .ok (.iconst 3, 1) := by decide +kernel
theorem dL_isCalm_68 : decode cL_isCalm 68 = .ok (.iconst 4, 1) := by decide +kernel
theorem dL_isCalm_69 : decode cL_isCalm 69 = .ok (.invokevirtual 74, 3) := by decide +kernel
theorem dL_isCalm_72 : decode cL_isCalm 72 = .ok (.iadd, 1) := by decide +kernel
theorem dL_isCalm_73 : decode cL_isCalm 73 = .ok (.iload_n 1, 1) := by decide +kernel
theorem dL_isCalm_74 : decode cL_isCalm 74 = .ok (.if_icmp .ne 7, 3) := by decide +kernel
theorem dL_isCalm_77 : decode cL_isCalm 77 = .ok (.iconst 1, 1) := by decide +kernel
theorem dL_isCalm_78 : decode cL_isCalm 78 = .ok (.goto 4, 3) := by decide +kernel
theorem dL_isCalm_81 : decode cL_isCalm 81 = .ok (.iconst 0, 1) := by decide +kernel
theorem dL_isCalm_82 : decode cL_isCalm 82 = .ok (.istore_n 2, 1) := by decide +kernel
theorem dL_isCalm_83 : decode cL_isCalm 83 = .ok (.aload_n 0, 1) := by decide +kernel
theorem dL_isCalm_84 : decode cL_isCalm 84 = .ok (.invokevirtual 83, 3) := by decide +kernel
theorem dL_isCalm_87 : decode cL_isCalm 87 = .ok (.ifCond .lt 18, 3) := by decide +kernel
theorem dL_isCalm_90 : decode cL_isCalm 90 = .ok (.aload_n 0, 1) := by decide +kernel
theorem dL_isCalm_91 : decode cL_isCalm 91 = .ok (.invokevirtual 83, 3) := by decide +kernel
theorem dL_isCalm_94 : decode cL_isCalm 94 = .ok (.ifCond .lt 11, 3) := by decide +kernel
theorem dL_isCalm_97 : decode cL_isCalm 97 = .ok (.iload_n 2, 1) := by decide +kernel
theorem dL_isCalm_98 : decode cL_isCalm 98 = .ok (.ifCond .eq 7, 3) := by decide +kernel
theorem dL_isCalm_101 : decode cL_isCalm 101 = .ok (.iconst 1, 1) := by decide +kernel
theorem dL_isCalm_102 : decode cL_isCalm 102 = .ok (.goto 4, 3) := by decide +kernel
theorem dL_isCalm_105 : decode cL_isCalm 105 = .ok (.iconst 0, 1) := by decide +kernel
theorem dL_isCalm_106 : decode cL_isCalm 106 = .ok (.ireturn, 1) := by decide +kernel
theorem dL_law_0 : decode cL_law 0 = .ok (.new 10, 3) := by decide +kernel
theorem dL_law_3 : decode cL_law 3 = .ok (.dup, 1) := by decide +kernel
theorem dL_law_4 : decode cL_law 4 = .ok (.invokespecial 93, 3) := by decide +kernel
theorem dL_law_7 : decode cL_law 7 = .ok (.astore_n 1, 1) := by decide +kernel
theorem dL_law_8 : decode cL_law 8 = .ok (.aload_n 1, 1) := by decide +kernel
theorem dL_law_9 : decode cL_law 9 = .ok (.invokestatic 94, 3) := by decide +kernel
theorem dL_law_12 : decode cL_law 12 = .ok (.ifCond .eq 35, 3) := by decide +kernel
theorem dL_law_15 : decode cL_law 15 = .ok (.aload_n 1, 1) := by decide +kernel
theorem dL_law_16 : decode cL_law 16 = .ok (.invokevirtual 83, 3) := by decide +kernel
theorem dL_law_19 : decode cL_law 19 = .ok (.bipush (-5), 2) := by decide +kernel
theorem dL_law_21 : decode cL_law 21 = .ok (.if_icmp .ne 26, 3) := by decide +kernel
theorem dL_law_24 : decode cL_law 24 = .ok (.aload_n 1, 1) := by decide +kernel
theorem dL_law_25 : decode cL_law 25 = .ok (.iconst 3, 1) := by decide +kernel
theorem dL_law_26 : decode cL_law 26 = .ok (.iconst 0, 1) := by decide +kernel
theorem dL_law_27 : decode cL_law 27 = .ok (.invokevirtual 97, 3) := by decide +kernel
theorem dL_law_30 : decode cL_law 30 = .ok (.iconst 3, 1) := by decide +kernel
theorem dL_law_31 : decode cL_law 31 = .ok (.if_icmp .ne 16, 3) := by decide +kernel
theorem dL_law_34 : decode cL_law 34 = .ok (.aload_n 1, 1) := by decide +kernel
theorem dL_law_35 : decode cL_law 35 = .ok (.iconst 3, 1) := by decide +kernel
theorem dL_law_36 : decode cL_law 36 = .ok (.iconst 1, 1) := by decide +kernel
theorem dL_law_37 : decode cL_law 37 = .ok (.invokevirtual 97, 3) := by decide +kernel
theorem dL_law_40 : decode cL_law 40 = .ok (.ifCond .ne 7, 3) := by decide +kernel
theorem dL_law_43 : decode cL_law 43 = .ok (.iconst 1, 1) := by decide +kernel
theorem dL_law_44 : decode cL_law 44 = .ok (.goto 4, 3) := by decide +kernel
theorem dL_law_47 : decode cL_law 47 = .ok (.iconst 0, 1) := by decide +kernel
theorem dL_law_48 : decode cL_law 48 = .ok (.istore_n 2, 1) := by decide +kernel
theorem dL_law_49 : decode cL_law 49 = .ok (.aload_n 0, 1) := by decide +kernel
theorem dL_law_50 : decode cL_law 50 = .ok (.arraylength, 1) := by decide +kernel
theorem dL_law_51 : decode cL_law 51 = .ok (.iconst 3, 1) := by decide +kernel
theorem dL_law_52 : decode cL_law 52 = .ok (.idiv, 1) := by decide +kernel
theorem dL_law_53 : decode cL_law 53 = .ok (.bipush 34, 2) := by decide +kernel
theorem dL_law_55 : decode cL_law 55 = .ok (.if_icmp .le 8, 3) := by decide +kernel
theorem dL_law_58 : decode cL_law 58 = .ok (.bipush 34, 2) := by decide +kernel
theorem dL_law_60 : decode cL_law 60 = .ok (.goto 7, 3) := by decide +kernel
theorem dL_law_63 : decode cL_law 63 = .ok (.aload_n 0, 1) := by decide +kernel
theorem dL_law_64 : decode cL_law 64 = .ok (.arraylength, 1) := by decide +kernel
theorem dL_law_65 : decode cL_law 65 = .ok (.iconst 3, 1) := by decide +kernel
theorem dL_law_66 : decode cL_law 66 = .ok (.idiv, 1) := by decide +kernel
theorem dL_law_67 : decode cL_law 67 = .ok (.istore_n 3, 1) := by decide +kernel
theorem dL_law_68 : decode cL_law 68 = .ok (.iconst 0, 1) := by decide +kernel
theorem dL_law_69 : decode cL_law 69 = .ok (.istore 4, 2) := by decide +kernel
theorem dL_law_71 : decode cL_law 71 = .ok (.iload 4, 2) := by decide +kernel
theorem dL_law_73 : decode cL_law 73 = .ok (.iload_n 3, 1) := by decide +kernel
theorem dL_law_74 : decode cL_law 74 = .ok (.if_icmp .ge 145, 3) := by decide +kernel
theorem dL_law_77 : decode cL_law 77 = .ok (.iload_n 2, 1) := by decide +kernel
theorem dL_law_78 : decode cL_law 78 = .ok (.ifCond .eq 141, 3) := by decide +kernel
theorem dL_law_81 : decode cL_law 81 = .ok (.aload_n 1, 1) := by decide +kernel
theorem dL_law_82 : decode cL_law 82 = .ok (.bipush 15, 2) := by decide +kernel
theorem dL_law_84 : decode cL_law 84 = .ok (.invokevirtual 9, 3) := by decide +kernel
theorem dL_law_87 : decode cL_law 87 = .ok (.istore 5, 2) := by decide +kernel
theorem dL_law_89 : decode cL_law 89 = .ok (.aload_n 1, 1) := by decide +kernel
theorem dL_law_90 : decode cL_law 90 = .ok (.aload_n 0, 1) := by decide +kernel
theorem dL_law_91 : decode cL_law 91 = .ok (.iconst 3, 1) := by decide +kernel
theorem dL_law_92 : decode cL_law 92 = .ok (.iload 4, 2) := by decide +kernel
theorem dL_law_94 : decode cL_law 94 = .ok (.imul, 1) := by decide +kernel
theorem dL_law_95 : decode cL_law 95 = .ok (.invokestatic 100, 3) := by decide +kernel
theorem dL_law_98 : decode cL_law 98 = .ok (.bipush 13, 2) := by decide +kernel
theorem dL_law_100 : decode cL_law 100 = .ok (.invokestatic 15, 3) := by decide +kernel
theorem dL_law_103 : decode cL_law 103 = .ok (.aload_n 0, 1) := by decide +kernel
theorem dL_law_104 : decode cL_law 104 = .ok (.iconst 3, 1) := by decide +kernel
theorem dL_law_105 : decode cL_law 105 = .ok (.iload 4, 2) := by decide +kernel
theorem dL_law_107 : decode cL_law 107 = .ok (.imul, 1) := by decide +kernel
theorem dL_law_108 : decode cL_law 108 = .ok (.iconst 1, 1) := by decide +kernel
theorem dL_law_109 : decode cL_law 109 = .ok (.iadd, 1) := by decide +kernel
theorem dL_law_110 : decode cL_law 110 = .ok (.invokestatic 100, 3) := by decide +kernel
theorem dL_law_113 : decode cL_law 113 = .ok (.aload_n 0, 1) := by decide +kernel
theorem dL_law_114 : decode cL_law 114 = .ok (.iconst 3, 1) := by decide +kernel
theorem dL_law_115 : decode cL_law 115 = .ok (.iload 4, 2) := by decide +kernel
theorem dL_law_117 : decode cL_law 117 = .ok (.imul, 1) := by decide +kernel
theorem dL_law_118 : decode cL_law 118 = .ok (.iconst 2, 1) := by decide +kernel
theorem dL_law_119 : decode cL_law 119 = .ok (.iadd, 1) := by decide +kernel
theorem dL_law_120 : decode cL_law 120 = .ok (.invokestatic 100, 3) := by decide +kernel
theorem dL_law_123 : decode cL_law 123 = .ok (.invokestatic 104, 3) := by decide +kernel
theorem dL_law_126 : decode cL_law 126 = .ok (.istore 6, 2) := by decide +kernel
theorem dL_law_128 : decode cL_law 128 = .ok (.iload 6, 2) := by decide +kernel
theorem dL_law_130 : decode cL_law 130 = .ok (.bipush (-100), 2) := by decide +kernel
theorem dL_law_132 : decode cL_law 132 = .ok (.if_icmp .eq 79, 3) := by decide +kernel
theorem dL_law_135 : decode cL_law 135 = .ok (.aload_n 1, 1) := by decide +kernel
theorem dL_law_136 : decode cL_law 136 = .ok (.bipush 15, 2) := by decide +kernel
theorem dL_law_138 : decode cL_law 138 = .ok (.invokevirtual 9, 3) := by decide +kernel
theorem dL_law_141 : decode cL_law 141 = .ok (.iload 6, 2) := by decide +kernel
theorem dL_law_143 : decode cL_law 143 = .ok (.ifCond .ge 8, 3) := by decide +kernel
theorem dL_law_146 : decode cL_law 146 = .ok (.iload 5, 2) := by decide +kernel
theorem dL_law_148 : decode cL_law 148 = .ok (.goto 17, 3) := by decide +kernel
theorem dL_law_151 : decode cL_law 151 = .ok (.iload 5, 2) := by decide +kernel
theorem dL_law_153 : decode cL_law 153 = .ok (.iconst 4, 1) := by decide +kernel
theorem dL_law_154 : decode cL_law 154 = .ok (.if_icmp .ne 7, 3) := by decide +kernel
theorem dL_law_157 : decode cL_law 157 = .ok (.iconst 4, 1) := by decide +kernel
theorem dL_law_158 : decode cL_law 158 = .ok (.goto 7, 3) := by decide +kernel
theorem dL_law_161 : decode cL_law 161 = .ok (.iload 5, 2) := by decide +kernel
theorem dL_law_163 : decode cL_law 163 = .ok (.iconst 1, 1) := by decide +kernel
theorem dL_law_164 : decode cL_law 164 = .ok (.iadd, 1) := by decide +kernel
theorem dL_law_165 : decode cL_law 165 = .ok (.if_icmp .ne 46, 3) := by decide +kernel
theorem dL_law_168 : decode cL_law 168 = .ok (.aload_n 1, 1) := by decide +kernel
theorem dL_law_169 : decode cL_law 169 = .ok (.invokestatic 94, 3) := by decide +kernel
theorem dL_law_172 : decode cL_law 172 = .ok (.ifCond .eq 39, 3) := by decide +kernel
theorem dL_law_175 : decode cL_law 175 = .ok (.iload 4, 2) := by decide +kernel
theorem dL_law_177 : decode cL_law 177 = .ok (.iconst 5, 1) := by decide +kernel
theorem dL_law_178 : decode cL_law 178 = .ok (.irem, 1) := by decide +kernel
theorem dL_law_179 : decode cL_law 179 = .ok (.iconst 4, 1) := by decide +kernel
theorem dL_law_180 : decode cL_law 180 = .ok (.if_icmp .ne 27, 3) := by decide +kernel
theorem dL_law_183 : decode cL_law 183 = .ok (.aload_n 1, 1) := by decide +kernel
theorem dL_law_184 : decode cL_law 184 = .ok (.aload_n 0, 1) := by decide +kernel
theorem dL_law_185 : decode cL_law 185 = .ok (.iconst 3, 1) := by decide +kernel
theorem dL_law_186 : decode cL_law 186 = .ok (.iload 4, 2) := by decide +kernel
theorem dL_law_188 : decode cL_law 188 = .ok (.imul, 1) := by decide +kernel
theorem dL_law_189 : decode cL_law 189 = .ok (.iconst 2, 1) := by decide +kernel
theorem dL_law_190 : decode cL_law 190 = .ok (.iadd, 1) := by decide +kernel
theorem dL_law_191 : decode cL_law 191 = .ok (.invokestatic 100, 3) := by decide +kernel
theorem dL_law_194 : decode cL_law 194 = .ok (.invokestatic 108, 3) := by decide +kernel
theorem dL_law_197 : decode cL_law 197 = .ok (.ifCond .eq 14, 3) := by decide +kernel
theorem dL_law_200 : decode cL_law 200 = .ok (.aload_n 1, 1) := by decide +kernel
theorem dL_law_201 : decode cL_law 201 = .ok (.invokestatic 94, 3) := by decide +kernel
theorem dL_law_204 : decode cL_law 204 = .ok (.ifCond .eq 7, 3) := by decide +kernel
theorem dL_law_207 : decode cL_law 207 = .ok (.iconst 1, 1) := by decide +kernel
theorem dL_law_208 : decode cL_law 208 = .ok (.goto 4, 3) := by decide +kernel
theorem dL_law_211 : decode cL_law 211 = .ok (.iconst 0, 1) := by decide +kernel
theorem dL_law_212 : decode cL_law 212 = .ok (.istore_n 2, 1) := by decide +kernel
theorem dL_law_213 : decode cL_law 213 = .ok (.iinc 4 1, 3) := by decide +kernel
theorem dL_law_216 : decode cL_law 216 = .ok (.goto (-145), 3) := by decide +kernel
theorem dL_law_219 : decode cL_law 219 = .ok (.iload_n 2, 1) := by decide +kernel
theorem dL_law_220 : decode cL_law 220 = .ok (.ireturn, 1) := by decide +kernel
