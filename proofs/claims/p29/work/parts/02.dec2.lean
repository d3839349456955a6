theorem dL_told_145 : decode cL_told 145 = .ok (.invokevirtual 25, 3) := by decide +kernel
theorem dL_told_148 : decode cL_told 148 = .ok (.i2l, 1) := by decide +kernel
theorem dL_told_149 : decode cL_told 149 = .ok (.ladd, 1) := by decide +kernel
theorem dL_told_150 : decode cL_told 150 = .ok (.lmul, 1) := by decide +kernel
theorem dL_told_151 : decode cL_told 151 = .ok (.aload_n 0, 1) := by decide +kernel
theorem dL_told_152 : decode cL_told 152 = .ok (.iload_n 3, 1) := by decide +kernel
theorem dL_told_153 : decode cL_told 153 = .ok (.iconst 1, 1) := by decide +kernel
theorem dL_told_154 : decode cL_told 154 = .ok (.invokevirtual 25, 3) := by decide +kernel
theorem dL_told_157 : decode cL_told 157 = .ok (.i2l, 1) := by decide +kernel
theorem dL_told_158 : decode cL_told 158 = .ok (.ladd, 1) := by decide +kernel
theorem dL_told_159 : decode cL_told 159 = .ok (.lstore_n 1, 1) := by decide +kernel
theorem dL_told_160 : decode cL_told 160 = .ok (.iinc 3 1, 3) := by decide +kernel
theorem dL_told_163 : decode cL_told 163 = .ok (.goto (-34), 3) := by decide +kernel
theorem dL_told_166 : decode cL_told 166 = .ok (.lload_n 1, 1) := by decide +kernel
theorem dL_told_167 : decode cL_told 167 = .ok (.lreturn, 1) := by decide +kernel
theorem dL_act_0 : decode cL_act 0 = .ok (.iload_n 1, 1) := by decide +kernel
theorem dL_act_1 : decode cL_act 1 = .ok (.iconst 4, 1) := by decide +kernel
theorem dL_act_2 : decode cL_act 2 = .ok (.ishr, 1) := by decide +kernel
theorem dL_act_3 : decode cL_act 3 = .ok (.aload_n 0, 1) := by decide +kernel
theorem dL_act_4 : decode cL_act 4 = .ok (.iconst 3, 1) := by decide +kernel
theorem dL_act_5 : decode cL_act 5 = .ok (.invokevirtual 12, 3) := by decide +kernel
theorem dL_act_8 : decode cL_act 8 = .ok (.iconst 1, 1) := by decide +kernel
theorem dL_act_9 : decode cL_act 9 = .ok (.iadd, 1) := by decide +kernel
theorem dL_act_10 : decode cL_act 10 = .ok (.invokestatic 28, 3) := by decide +kernel
theorem dL_act_13 : decode cL_act 13 = .ok (.istore_n 3, 1) := by decide +kernel
theorem dL_act_14 : decode cL_act 14 = .ok (.iload_n 1, 1) := by decide +kernel
theorem dL_act_15 : decode cL_act 15 = .ok (.bipush 15, 2) := by decide +kernel
theorem dL_act_17 : decode cL_act 17 = .ok (.iand, 1) := by decide +kernel
theorem dL_act_18 : decode cL_act 18 = .ok (.tableswitch 258 0 11 #[62, 80, 80, 95, 95, 172, 182, 182, 222, 222, 227, 239], 62) := by decide +kernel
theorem dL_act_80 : decode cL_act 80 = .ok (.aload_n 0, 1) := by decide +kernel
theorem dL_act_81 : decode cL_act 81 = .ok (.iload_n 2, 1) := by decide +kernel
theorem dL_act_82 : decode cL_act 82 = .ok (.iconst 4, 1) := by decide +kernel
theorem dL_act_83 : decode cL_act 83 = .ok (.invokestatic 28, 3) := by decide +kernel
theorem dL_act_86 : decode cL_act 86 = .ok (.iload_n 2, 1) := by decide +kernel
theorem dL_act_87 : decode cL_act 87 = .ok (.iconst 2, 1) := by decide +kernel
theorem dL_act_88 : decode cL_act 88 = .ok (.ishr, 1) := by decide +kernel
theorem dL_act_89 : decode cL_act 89 = .ok (.bipush 22, 2) := by decide +kernel
theorem dL_act_91 : decode cL_act 91 = .ok (.invokestatic 28, 3) := by decide +kernel
theorem dL_act_94 : decode cL_act 94 = .ok (.invokevirtual 33, 3) := by decide +kernel
theorem dL_act_97 : decode cL_act 97 = .ok (.ireturn, 1) := by decide +kernel
theorem dL_act_98 : decode cL_act 98 = .ok (.aload_n 0, 1) := by decide +kernel
theorem dL_act_99 : decode cL_act 99 = .ok (.bipush 8, 2) := by decide +kernel
theorem dL_act_101 : decode cL_act 101 = .ok (.iload_n 2, 1) := by decide +kernel
theorem dL_act_102 : decode cL_act 102 = .ok (.sipush 145, 3) := by decide +kernel
theorem dL_act_105 : decode cL_act 105 = .ok (.invokestatic 28, 3) := by decide +kernel
theorem dL_act_108 : decode cL_act 108 = .ok (.iadd, 1) := by decide +kernel
theorem dL_act_109 : decode cL_act 109 = .ok (.invokevirtual 36, 3) := by decide +kernel
theorem dL_act_112 : decode cL_act 112 = .ok (.ireturn, 1) := by decide +kernel
theorem dL_act_113 : decode cL_act 113 = .ok (.aload_n 0, 1) := by decide +kernel
theorem dL_act_114 : decode cL_act 114 = .ok (.bipush 45, 2) := by decide +kernel
theorem dL_act_116 : decode cL_act 116 = .ok (.iload_n 2, 1) := by decide +kernel
theorem dL_act_117 : decode cL_act 117 = .ok (.iload_n 2, 1) := by decide +kernel
theorem dL_act_118 : decode cL_act 118 = .ok (.bipush 20, 2) := by decide +kernel
theorem dL_act_120 : decode cL_act 120 = .ok (.ishr, 1) := by decide +kernel
theorem dL_act_121 : decode cL_act 121 = .ok (.iconst 1, 1) := by decide +kernel
theorem dL_act_122 : decode cL_act 122 = .ok (.iand, 1) := by decide +kernel
theorem dL_act_123 : decode cL_act 123 = .ok (.ifCond .ne 9, 3) := by decide +kernel
theorem dL_act_126 : decode cL_act 126 = .ok (.sipush 150, 3) := by decide +kernel
theorem dL_act_129 : decode cL_act 129 = .ok (.goto 6, 3) := by decide +kernel
theorem dL_act_132 : decode cL_act 132 = .ok (.sipush 560, 3) := by decide +kernel
theorem dL_act_135 : decode cL_act 135 = .ok (.invokestatic 28, 3) := by decide +kernel
theorem dL_act_138 : decode cL_act 138 = .ok (.iadd, 1) := by decide +kernel
theorem dL_act_139 : decode cL_act 139 = .ok (.iload_n 2, 1) := by decide +kernel
theorem dL_act_140 : decode cL_act 140 = .ok (.iconst 3, 1) := by decide +kernel
theorem dL_act_141 : decode cL_act 141 = .ok (.ishr, 1) := by decide +kernel
theorem dL_act_142 : decode cL_act 142 = .ok (.iload_n 2, 1) := by decide +kernel
theorem dL_act_143 : decode cL_act 143 = .ok (.bipush 21, 2) := by decide +kernel
theorem dL_act_145 : decode cL_act 145 = .ok (.ishr, 1) := by decide +kernel
theorem dL_act_146 : decode cL_act 146 = .ok (.iconst 1, 1) := by decide +kernel
theorem dL_act_147 : decode cL_act 147 = .ok (.iand, 1) := by decide +kernel
theorem dL_act_148 : decode cL_act 148 = .ok (.ifCond .ne 7, 3) := by decide +kernel
theorem dL_act_151 : decode cL_act 151 = .ok (.iconst 1, 1) := by decide +kernel
theorem dL_act_152 : decode cL_act 152 = .ok (.goto 5, 3) := by decide +kernel
theorem dL_act_155 : decode cL_act 155 = .ok (.bipush 11, 2) := by decide +kernel
theorem dL_act_157 : decode cL_act 157 = .ok (.invokestatic 28, 3) := by decide +kernel
theorem dL_act_160 : decode cL_act 160 = .ok (.iload_n 2, 1) := by decide +kernel
theorem dL_act_161 : decode cL_act 161 = .ok (.bipush 6, 2) := by decide +kernel
theorem dL_act_163 : decode cL_act 163 = .ok (.ishr, 1) := by decide +kernel
theorem dL_act_164 : decode cL_act 164 = .ok (.bipush 10, 2) := by decide +kernel
theorem dL_act_166 : decode cL_act 166 = .ok (.invokestatic 28, 3) := by decide +kernel
theorem dL_act_169 : decode cL_act 169 = .ok (.iload_n 2, 1) := by decide +kernel
theorem dL_act_170 : decode cL_act 170 = .ok (.bipush 8, 2) := by decide +kernel
theorem dL_act_172 : decode cL_act 172 = .ok (.ishr, 1) := by decide +kernel
theorem dL_act_173 : decode cL_act 173 = .ok (.iconst 4, 1) := by decide +kernel
theorem dL_act_174 : decode cL_act 174 = .ok (.invokestatic 28, 3) := by decide +kernel
theorem dL_act_177 : decode cL_act 177 = .ok (.iload_n 2, 1) := by decide +kernel
theorem dL_act_178 : decode cL_act 178 = .ok (.bipush 10, 2) := by decide +kernel
theorem dL_act_180 : decode cL_act 180 = .ok (.ishr, 1) := by decide +kernel
theorem dL_act_181 : decode cL_act 181 = .ok (.bipush 40, 2) := by decide +kernel
theorem dL_act_183 : decode cL_act 183 = .ok (.invokestatic 28, 3) := by decide +kernel
theorem dL_act_186 : decode cL_act 186 = .ok (.invokevirtual 39, 3) := by decide +kernel
theorem dL_act_189 : decode cL_act 189 = .ok (.ireturn, 1) := by decide +kernel
theorem dL_act_190 : decode cL_act 190 = .ok (.aload_n 0, 1) := by decide +kernel
theorem dL_act_191 : decode cL_act 191 = .ok (.iload_n 2, 1) := by decide +kernel
theorem dL_act_192 : decode cL_act 192 = .ok (.iconst 4, 1) := by decide +kernel
theorem dL_act_193 : decode cL_act 193 = .ok (.invokestatic 28, 3) := by decide +kernel
theorem dL_act_196 : decode cL_act 196 = .ok (.invokevirtual 43, 3) := by decide +kernel
theorem dL_act_199 : decode cL_act 199 = .ok (.ireturn, 1) := by decide +kernel
theorem dL_act_200 : decode cL_act 200 = .ok (.aload_n 0, 1) := by decide +kernel
theorem dL_act_201 : decode cL_act 201 = .ok (.iload_n 3, 1) := by decide +kernel
theorem dL_act_202 : decode cL_act 202 = .ok (.iload_n 2, 1) := by decide +kernel
theorem dL_act_203 : decode cL_act 203 = .ok (.iconst 1, 1) := by decide +kernel
theorem dL_act_204 : decode cL_act 204 = .ok (.aload_n 0, 1) := by decide +kernel
theorem dL_act_205 : decode cL_act 205 = .ok (.iconst 1, 1) := by decide +kernel
theorem dL_act_206 : decode cL_act 206 = .ok (.invokevirtual 12, 3) := by decide +kernel
theorem dL_act_209 : decode cL_act 209 = .ok (.iconst 1, 1) := by decide +kernel
theorem dL_act_210 : decode cL_act 210 = .ok (.iadd, 1) := by decide +kernel
theorem dL_act_211 : decode cL_act 211 = .ok (.ishl, 1) := by decide +kernel
theorem dL_act_212 : decode cL_act 212 = .ok (.invokestatic 28, 3) := by decide +kernel
theorem dL_act_215 : decode cL_act 215 = .ok (.iload_n 2, 1) := by decide +kernel
theorem dL_act_216 : decode cL_act 216 = .ok (.bipush 12, 2) := by decide +kernel
theorem dL_act_218 : decode cL_act 218 = .ok (.ishr, 1) := by decide +kernel
theorem dL_act_219 : decode cL_act 219 = .ok (.iconst 3, 1) := by decide +kernel
theorem dL_act_220 : decode cL_act 220 = .ok (.iand, 1) := by decide +kernel
theorem dL_act_221 : decode cL_act 221 = .ok (.iconst 3, 1) := by decide +kernel
theorem dL_act_222 : decode cL_act 222 = .ok (.if_icmp .ne 8, 3) := by decide +kernel
theorem dL_act_225 : decode cL_act 225 = .ok (.bipush (-6), 2) := by decide +kernel
theorem dL_act_227 : decode cL_act 227 = .ok (.goto 9, 3) := by decide +kernel
theorem dL_act_230 : decode cL_act 230 = .ok (.iload_n 2, 1) := by decide +kernel
theorem dL_act_231 : decode cL_act 231 = .ok (.bipush 12, 2) := by decide +kernel
theorem dL_act_233 : decode cL_act 233 = .ok (.ishr, 1) := by decide +kernel
theorem dL_act_234 : decode cL_act 234 = .ok (.iconst 3, 1) := by decide +kernel
theorem dL_act_235 : decode cL_act 235 = .ok (.iand, 1) := by decide +kernel
theorem dL_act_236 : decode cL_act 236 = .ok (.invokevirtual 46, 3) := by decide +kernel
theorem dL_act_239 : decode cL_act 239 = .ok (.ireturn, 1) := by decide +kernel
theorem dL_act_240 : decode cL_act 240 = .ok (.aload_n 0, 1) := by decide +kernel
theorem dL_act_241 : decode cL_act 241 = .ok (.invokevirtual 50, 3) := by decide +kernel
theorem dL_act_244 : decode cL_act 244 = .ok (.ireturn, 1) := by decide +kernel
theorem dL_act_245 : decode cL_act 245 = .ok (.aload_n 0, 1) := by decide +kernel
theorem dL_act_246 : decode cL_act 246 = .ok (.iload_n 3, 1) := by decide +kernel
theorem dL_act_247 : decode cL_act 247 = .ok (.iload_n 2, 1) := by decide +kernel
theorem dL_act_248 : decode cL_act 248 = .ok (.bipush 22, 2) := by decide +kernel
theorem dL_act_250 : decode cL_act 250 = .ok (.invokestatic 28, 3) := by decide +kernel
theorem dL_act_253 : decode cL_act 253 = .ok (.invokevirtual 54, 3) := by decide +kernel
theorem dL_act_256 : decode cL_act 256 = .ok (.ireturn, 1) := by decide +kernel
theorem dL_act_257 : decode cL_act 257 = .ok (.iload_n 2, 1) := by decide +kernel
theorem dL_act_258 : decode cL_act 258 = .ok (.iconst 3, 1) := by decide +kernel
theorem dL_act_259 : decode cL_act 259 = .ok (.iand, 1) := by decide +kernel
theorem dL_act_260 : decode cL_act 260 = .ok (.ifCond .ne 11, 3) := by decide +kernel
theorem dL_act_263 : decode cL_act 263 = .ok (.aload_n 0, 1) := by decide +kernel
theorem dL_act_264 : decode cL_act 264 = .ok (.iload_n 3, 1) := by decide +kernel
theorem dL_act_265 : decode cL_act 265 = .ok (.invokevirtual 57, 3) := by decide +kernel
theorem dL_act_268 : decode cL_act 268 = .ok (.goto 7, 3) := by decide +kernel
theorem dL_act_271 : decode cL_act 271 = .ok (.aload_n 0, 1) := by decide +kernel
theorem dL_act_272 : decode cL_act 272 = .ok (.invokevirtual 50, 3) := by decide +kernel
theorem dL_act_275 : decode cL_act 275 = .ok (.ireturn, 1) := by decide +kernel
theorem dL_act_276 : decode cL_act 276 = .ok (.aload_n 0, 1) := by decide +kernel
theorem dL_act_277 : decode cL_act 277 = .ok (.iload_n 2, 1) := by decide +kernel
theorem dL_act_278 : decode cL_act 278 = .ok (.bipush 9, 2) := by decide +kernel
theorem dL_act_280 : decode cL_act 280 = .ok (.invokestatic 28, 3) := by decide +kernel
theorem dL_act_283 : decode cL_act 283 = .ok (.invokevirtual 60, 3) := by decide +kernel
theorem dL_act_286 : decode cL_act 286 = .ok (.ireturn, 1) := by decide +kernel
theorem dL_holds_0 : decode cL_holds 0 = .ok (.iconst 0, 1) := by decide +kernel
theorem dL_holds_1 : decode cL_holds 1 = .ok (.istore_n 1, 1) := by decide +kernel
theorem dL_holds_2 : decode cL_holds 2 = .ok (.iconst 0, 1) := by decide +kernel
theorem dL_holds_3 : decode cL_holds 3 = .ok (.istore_n 2, 1) := by decide +kernel
theorem dL_holds_4 : decode cL_holds 4 = .ok (.iconst 0, 1) := by decide +kernel
theorem dL_holds_5 : decode cL_holds 5 = .ok (.istore_n 3, 1) := by decide +kernel
theorem dL_holds_6 : decode cL_holds 6 = .ok (.iconst 0, 1) := by decide +kernel
theorem dL_holds_7 : decode cL_holds 7 = .ok (.istore 4, 2) := by decide +kernel
theorem dL_holds_9 : decode cL_holds 9 = .ok (.iconst 0, 1) := by decide +kernel
theorem dL_holds_10 : decode cL_holds 10 = .ok (.istore 5, 2) := by decide +kernel
theorem dL_holds_12 : decode cL_holds 12 = .ok (.iload 5, 2) := by decide +kernel
theorem dL_holds_14 : decode cL_holds 14 = .ok (.aload_n 0, 1) := by decide +kernel
theorem dL_holds_15 : decode cL_holds 15 = .ok (.iconst 3, 1) := by decide +kernel
theorem dL_holds_16 : decode cL_holds 16 = .ok (.invokevirtual 12, 3) := by decide +kernel
theorem dL_holds_19 : decode cL_holds 19 = .ok (.if_icmp .ge 182, 3) := by decide +kernel
theorem dL_holds_22 : decode cL_holds 22 = .ok (.aload_n 0, 1) := by decide +kernel
theorem dL_holds_23 : decode cL_holds 23 = .ok (.iload 5, 2) := by decide +kernel
theorem dL_holds_25 : decode cL_holds 25 = .ok (.iconst 5, 1) := by decide +kernel
theorem dL_holds_26 : decode cL_holds 26 = .ok (.invokevirtual 22, 3) := by decide +kernel
theorem dL_holds_29 : decode cL_holds 29 = .ok (.istore 6, 2) := by decide +kernel
theorem dL_holds_31 : decode cL_holds 31 = .ok (.aload_n 0, 1) := by decide +kernel
theorem dL_holds_32 : decode cL_holds 32 = .ok (.iload 5, 2) := by decide +kernel
theorem dL_holds_34 : decode cL_holds 34 = .ok (.bipush 7, 2) := by decide +kernel
theorem dL_holds_36 : decode cL_holds 36 = .ok (.invokevirtual 22, 3) := by decide +kernel
theorem dL_holds_39 : decode cL_holds 39 = .ok (.istore 7, 2) := by decide +kernel
theorem dL_holds_41 : decode cL_holds 41 = .ok (.iload_n 2, 1) := by decide +kernel
theorem dL_holds_42 : decode cL_holds 42 = .ok (.iload 6, 2) := by decide +kernel
theorem dL_holds_44 : decode cL_holds 44 = .ok (.ifCond .ne 10, 3) := by decide +kernel
theorem dL_holds_47 : decode cL_holds 47 = .ok (.iconst 1, 1) := by decide +kernel
theorem dL_holds_48 : decode cL_holds 48 = .ok (.iload 5, 2) := by decide +kernel
theorem dL_holds_50 : decode cL_holds 50 = .ok (.ishl, 1) := by decide +kernel
theorem dL_holds_51 : decode cL_holds 51 = .ok (.goto 4, 3) := by decide +kernel
theorem dL_holds_54 : decode cL_holds 54 = .ok (.iconst 0, 1) := by decide +kernel
theorem dL_holds_55 : decode cL_holds 55 = .ok (.ior, 1) := by decide +kernel
theorem dL_holds_56 : decode cL_holds 56 = .ok (.istore_n 2, 1) := by decide +kernel
theorem dL_holds_57 : decode cL_holds 57 = .ok (.iload_n 3, 1) := by decide +kernel
theorem dL_holds_58 : decode cL_holds 58 = .ok (.iload 6, 2) := by decide +kernel
theorem dL_holds_60 : decode cL_holds 60 = .ok (.iconst 1, 1) := by decide +kernel
theorem dL_holds_61 : decode cL_holds 61 = .ok (.if_icmp .ne 10, 3) := by decide +kernel
theorem dL_holds_64 : decode cL_holds 64 = .ok (.iconst 1, 1) := by decide +kernel
theorem dL_holds_65 : decode cL_holds 65 = .ok (.iload 5, 2) := by decide +kernel
theorem dL_holds_67 : decode cL_holds 67 = .ok (.ishl, 1) := by decide +kernel
theorem dL_holds_68 : decode cL_holds 68 = .ok (.goto 4, 3) := by decide +kernel
theorem dL_holds_71 : decode cL_holds 71 = .ok (.iconst 0, 1) := by decide +kernel
theorem dL_holds_72 : decode cL_holds 72 = .ok (.ior, 1) := by decide +kernel
theorem dL_holds_73 : decode cL_holds 73 = .ok (.istore_n 3, 1) := by decide +kernel
theorem dL_holds_74 : decode cL_holds 74 = .ok (.iload 4, 2) := by decide +kernel
theorem dL_holds_76 : decode cL_holds 76 = .ok (.iload 6, 2) := by decide +kernel
theorem dL_holds_78 : decode cL_holds 78 = .ok (.iconst 2, 1) := by decide +kernel
theorem dL_holds_79 : decode cL_holds 79 = .ok (.if_icmp .ne 10, 3) := by decide +kernel
theorem dL_holds_82 : decode cL_holds 82 = .ok (.iconst 1, 1) := by decide +kernel
theorem dL_holds_83 : decode cL_holds 83 = .ok (.iload 5, 2) := by decide +kernel
theorem dL_holds_85 : decode cL_holds 85 = .ok (.ishl, 1) := by decide +kernel
theorem dL_holds_86 : decode cL_holds 86 = .ok (.goto 4, 3) := by decide +kernel
theorem dL_holds_89 : decode cL_holds 89 = .ok (.iconst 0, 1) := by decide +kernel
theorem dL_holds_90 : decode cL_holds 90 = .ok (.ior, 1) := by decide +kernel
theorem dL_holds_91 : decode cL_holds 91 = .ok (.istore 4, 2) := by decide +kernel
theorem dL_holds_93 : decode cL_holds 93 = .ok (.iload 6, 2) := by decide +kernel
theorem dL_holds_95 : decode cL_holds 95 = .ok (.iconst 1, 1) := by decide +kernel
theorem dL_holds_96 : decode cL_holds 96 = .ok (.if_icmp .ne 26, 3) := by decide +kernel
theorem dL_holds_99 : decode cL_holds 99 = .ok (.iload 7, 2) := by decide +kernel
theorem dL_holds_101 : decode cL_holds 101 = .ok (.iload_n 1, 1) := by decide +kernel
theorem dL_holds_102 : decode cL_holds 102 = .ok (.iand, 1) := by decide +kernel
theorem dL_holds_103 : decode cL_holds 103 = .ok (.ifCond .ne 75, 3) := by decide +kernel
theorem dL_holds_106 : decode cL_holds 106 = .ok (.iload 7, 2) := by decide +kernel
theorem dL_holds_108 : decode cL_holds 108 = .ok (.ifCond .eq 70, 3) := by decide +kernel
theorem dL_holds_111 : decode cL_holds 111 = .ok (.aload_n 0, 1) := by decide +kernel
theorem dL_holds_112 : decode cL_holds 112 = .ok (.iload 5, 2) := by decide +kernel
theorem dL_holds_114 : decode cL_holds 114 = .ok (.iconst 2, 1) := by decide +kernel
theorem dL_holds_115 : decode cL_holds 115 = .ok (.invokevirtual 22, 3) := by decide +kernel
theorem dL_holds_118 : decode cL_holds 118 = .ok (.iconst 1, 1) := by decide +kernel
theorem dL_holds_119 : decode cL_holds 119 = .ok (.if_icmp .lt 59, 3) := by decide +kernel
theorem dL_holds_122 : decode cL_holds 122 = .ok (.iload 6, 2) := by decide +kernel
theorem dL_holds_124 : decode cL_holds 124 = .ok (.ifCond .ne 8, 3) := by decide +kernel
theorem dL_holds_127 : decode cL_holds 127 = .ok (.iload 7, 2) := by decide +kernel
theorem dL_holds_129 : decode cL_holds 129 = .ok (.ifCond .ne 49, 3) := by decide +kernel
theorem dL_holds_132 : decode cL_holds 132 = .ok (.iload 6, 2) := by decide +kernel
theorem dL_holds_134 : decode cL_holds 134 = .ok (.iconst 2, 1) := by decide +kernel
theorem dL_holds_135 : decode cL_holds 135 = .ok (.if_icmp .ne 7, 3) := by decide +kernel
theorem dL_holds_138 : decode cL_holds 138 = .ok (.iconst 1, 1) := by decide +kernel
theorem dL_holds_139 : decode cL_holds 139 = .ok (.goto 4, 3) := by decide +kernel
theorem dL_holds_142 : decode cL_holds 142 = .ok (.iconst 0, 1) := by decide +kernel
theorem dL_holds_143 : decode cL_holds 143 = .ok (.aload_n 0, 1) := by decide +kernel
theorem dL_holds_144 : decode cL_holds 144 = .ok (.iload 5, 2) := by decide +kernel
theorem dL_holds_146 : decode cL_holds 146 = .ok (.bipush 11, 2) := by decide +kernel
theorem dL_holds_148 : decode cL_holds 148 = .ok (.invokevirtual 22, 3) := by decide +kernel
theorem dL_holds_151 : decode cL_holds 151 = .ok (.ifCond .lt 7, 3) := by decide +kernel
theorem dL_holds_154 : decode cL_holds 154 = .ok (.iconst 1, 1) := by decide +kernel
theorem dL_holds_155 : decode cL_holds 155 = .ok (.goto 4, 3) := by decide +kernel
theorem dL_holds_158 : decode cL_holds 158 = .ok (.iconst 0, 1) := by decide +kernel
theorem dL_holds_159 : decode cL_holds 159 = .ok (.if_icmp .ne 19, 3) := by decide +kernel
theorem dL_holds_162 : decode cL_holds 162 = .ok (.iload 6, 2) := by decide +kernel
theorem dL_holds_164 : decode cL_holds 164 = .ok (.iconst 2, 1) := by decide +kernel
theorem dL_holds_165 : decode cL_holds 165 = .ok (.if_icmp .ne 15, 3) := by decide +kernel
theorem dL_holds_168 : decode cL_holds 168 = .ok (.aload_n 0, 1) := by decide +kernel
theorem dL_holds_169 : decode cL_holds 169 = .ok (.iload 5, 2) := by decide +kernel
theorem dL_holds_171 : decode cL_holds 171 = .ok (.iconst 2, 1) := by decide +kernel
theorem dL_holds_172 : decode cL_holds 172 = .ok (.invokevirtual 22, 3) := by decide +kernel
theorem dL_holds_175 : decode cL_holds 175 = .ok (.ifCond .eq 5, 3) := by decide +kernel
theorem dL_holds_178 : decode cL_holds 178 = .ok (.iconst 0, 1) := by decide +kernel
theorem dL_holds_179 : decode cL_holds 179 = .ok (.ireturn, 1) := by decide +kernel
theorem dL_holds_180 : decode cL_holds 180 = .ok (.iload_n 1, 1) := by decide +kernel
theorem dL_holds_181 : decode cL_holds 181 = .ok (.iload 6, 2) := by decide +kernel
theorem dL_holds_183 : decode cL_holds 183 = .ok (.iconst 1, 1) := by decide +kernel
theorem dL_holds_184 : decode cL_holds 184 = .ok (.if_icmp .ne 8, 3) := by decide +kernel
theorem dL_holds_187 : decode cL_holds 187 = .ok (.iload 7, 2) := by decide +kernel
theorem dL_holds_189 : decode cL_holds 189 = .ok (.goto 4, 3) := by decide +kernel
theorem dL_holds_192 : decode cL_holds 192 = .ok (.iconst 0, 1) := by decide +kernel
theorem dL_holds_193 : decode cL_holds 193 = .ok (.ior, 1) := by decide +kernel
theorem dL_holds_194 : decode cL_holds 194 = .ok (.istore_n 1, 1) := by decide +kernel
theorem dL_holds_195 : decode cL_holds 195 = .ok (.iinc 5 1, 3) := by decide +kernel
theorem dL_holds_198 : decode cL_holds 198 = .ok (.goto (-186), 3) := by decide +kernel
theorem dL_holds_201 : decode cL_holds 201 = .ok (.iconst 0, 1) := by decide +kernel
theorem dL_holds_202 : decode cL_holds 202 = .ok (.istore 5, 2) := by decide +kernel
theorem dL_holds_204 : decode cL_holds 204 = .ok (.iload 5, 2) := by decide +kernel
theorem dL_holds_206 : decode cL_holds 206 = .ok (.aload_n 0, 1) := by decide +kernel
theorem dL_holds_207 : decode cL_holds 207 = .ok (.iconst 1, 1) := by decide +kernel
theorem dL_holds_208 : decode cL_holds 208 = .ok (.invokevirtual 12, 3) := by decide +kernel
theorem dL_holds_211 : decode cL_holds 211 = .ok (.if_icmp .ge 136, 3) := by decide +kernel
theorem dL_holds_214 : decode cL_holds 214 = .ok (.aload_n 0, 1) := by decide +kernel
theorem dL_holds_215 : decode cL_holds 215 = .ok (.iload 5, 2) := by decide +kernel
theorem dL_holds_217 : decode cL_holds 217 = .ok (.iconst 2, 1) := by decide +kernel
theorem dL_holds_218 : decode cL_holds 218 = .ok (.invokevirtual 18, 3) := by decide +kernel
theorem dL_holds_221 : decode cL_holds 221 = .ok (.istore 6, 2) := by decide +kernel
theorem dL_holds_223 : decode cL_holds 223 = .ok (.aload_n 0, 1) := by decide +kernel
theorem dL_holds_224 : decode cL_holds 224 = .ok (.iload 5, 2) := by decide +kernel
theorem dL_holds_226 : decode cL_holds 226 = .ok (.iconst 1, 1) := by decide +kernel
theorem dL_holds_227 : decode cL_holds 227 = .ok (.invokevirtual 18, 3) := by decide +kernel
theorem dL_holds_230 : decode cL_holds 230 = .ok (.ifCond .lt 109, 3) := by decide +kernel
theorem dL_holds_233 : decode cL_holds 233 = .ok (.aload_n 0, 1) := by decide +kernel
theorem dL_holds_234 : decode cL_holds 234 = .ok (.iload 5, 2) := by decide +kernel
theorem dL_holds_236 : decode cL_holds 236 = .ok (.iconst 1, 1) := by decide +kernel
theorem dL_holds_237 : decode cL_holds 237 = .ok (.invokevirtual 18, 3) := by decide +kernel
theorem dL_holds_240 : decode cL_holds 240 = .ok (.aload_n 0, 1) := by decide +kernel
theorem dL_holds_241 : decode cL_holds 241 = .ok (.iload 5, 2) := by decide +kernel
theorem dL_holds_243 : decode cL_holds 243 = .ok (.iconst 0, 1) := by decide +kernel
theorem dL_holds_244 : decode cL_holds 244 = .ok (.invokevirtual 18, 3) := by decide +kernel
theorem dL_holds_247 : decode cL_holds 247 = .ok (.if_icmp .gt 92, 3) := by decide +kernel
theorem dL_holds_250 : decode cL_holds 250 = .ok (.iload 6, 2) := by decide +kernel
theorem dL_holds_252 : decode cL_holds 252 = .ok (.ifCond .lt 7, 3) := by decide +kernel
theorem dL_holds_255 : decode cL_holds 255 = .ok (.iconst 1, 1) := by decide +kernel
theorem dL_holds_256 : decode cL_holds 256 = .ok (.goto 4, 3) := by decide +kernel
theorem dL_holds_259 : decode cL_holds 259 = .ok (.iconst 0, 1) := by decide +kernel
theorem dL_holds_260 : decode cL_holds 260 = .ok (.iload_n 1, 1) := by decide +kernel
theorem dL_holds_261 : decode cL_holds 261 = .ok (.iload 5, 2) := by decide +kernel
theorem dL_holds_263 : decode cL_holds 263 = .ok (.ishr, 1) := by decide +kernel
theorem dL_holds_264 : decode cL_holds 264 = .ok (.iconst 1, 1) := by decide +kernel
theorem dL_holds_265 : decode cL_holds 265 = .ok (.iand, 1) := by decide +kernel
theorem dL_holds_266 : decode cL_holds 266 = .ok (.iconst 1, 1) := by decide +kernel
theorem dL_holds_267 : decode cL_holds 267 = .ok (.if_icmp .ne 7, 3) := by decide +kernel
theorem dL_holds_270 : decode cL_holds 270 = .ok (.iconst 1, 1) := by decide +kernel
theorem dL_holds_271 : decode cL_holds 271 = .ok (.goto 4, 3) := by decide +kernel
theorem dL_holds_274 : decode cL_holds 274 = .ok (.iconst 0, 1) := by decide +kernel
theorem dL_holds_275 : decode cL_holds 275 = .ok (.if_icmp .ne 64, 3) := by decide +kernel
theorem dL_holds_278 : decode cL_holds 278 = .ok (.iload 6, 2) := by decide +kernel
theorem dL_holds_280 : decode cL_holds 280 = .ok (.ifCond .lt 19, 3) := by decide +kernel
theorem dL_holds_283 : decode cL_holds 283 = .ok (.aload_n 0, 1) := by decide +kernel
theorem dL_holds_284 : decode cL_holds 284 = .ok (.iload 6, 2) := by decide +kernel
theorem dL_holds_286 : decode cL_holds 286 = .ok (.bipush 7, 2) := by decide +kernel
theorem dL_holds_288 : decode cL_holds 288 = .ok (.invokevirtual 22, 3) := by decide +kernel
theorem dL_holds_291 : decode cL_holds 291 = .ok (.iload 5, 2) := by decide +kernel
theorem dL_holds_293 : decode cL_holds 293 = .ok (.ishr, 1) := by decide +kernel
theorem dL_holds_294 : decode cL_holds 294 = .ok (.iconst 1, 1) := by decide +kernel
theorem dL_holds_295 : decode cL_holds 295 = .ok (.iand, 1) := by decide +kernel
theorem dL_holds_296 : decode cL_holds 296 = .ok (.ifCond .eq 43, 3) := by decide +kernel
theorem dL_holds_299 : decode cL_holds 299 = .ok (.aload_n 0, 1) := by decide +kernel
theorem dL_holds_300 : decode cL_holds 300 = .ok (.iload 5, 2) := by decide +kernel
theorem dL_holds_302 : decode cL_holds 302 = .ok (.iconst 5, 1) := by decide +kernel
theorem dL_holds_303 : decode cL_holds 303 = .ok (.invokevirtual 18, 3) := by decide +kernel
theorem dL_holds_306 : decode cL_holds 306 = .ok (.ifCond .ne 7, 3) := by decide +kernel
theorem dL_holds_309 : decode cL_holds 309 = .ok (.iconst 1, 1) := by decide +kernel
theorem dL_holds_310 : decode cL_holds 310 = .ok (.goto 4, 3) := by decide +kernel
theorem dL_holds_313 : decode cL_holds 313 = .ok (.iconst 0, 1) := by decide +kernel
theorem dL_holds_314 : decode cL_holds 314 = .ok (.aload_n 0, 1) := by decide +kernel
theorem dL_holds_315 : decode cL_holds 315 = .ok (.iload 5, 2) := by decide +kernel
theorem dL_holds_317 : decode cL_holds 317 = .ok (.iconst 1, 1) := by decide +kernel
theorem dL_holds_318 : decode cL_holds 318 = .ok (.invokevirtual 18, 3) := by decide +kernel
theorem dL_holds_321 : decode cL_holds 321 = .ok (.aload_n 0, 1) := by decide +kernel
theorem dL_holds_322 : decode cL_holds 322 = .ok (.iload 5, 2) := by decide +kernel
theorem dL_holds_324 : decode cL_holds 324 = .ok (.iconst 0, 1) := by decide +kernel
theorem dL_holds_325 : decode cL_holds 325 = .ok (.invokevirtual 18, 3) := by decide +kernel
theorem dL_holds_328 : decode cL_holds 328 = .ok (.if_icmp .ne 7, 3) := by decide +kernel
theorem dL_holds_331 : decode cL_holds 331 = .ok (.iconst 1, 1) := by decide +kernel
theorem dL_holds_332 : decode cL_holds 332 = .ok (.goto 4, 3) := by decide +kernel
theorem dL_holds_335 : decode cL_holds 335 = .ok (.iconst 0, 1) := by decide +kernel
theorem dL_holds_336 : decode cL_holds 336 = .ok (.if_icmp .eq 5, 3) := by decide +kernel
theorem dL_holds_339 : decode cL_holds 339 = .ok (.iconst 0, 1) := by decide +kernel
theorem dL_holds_340 : decode cL_holds 340 = .ok (.ireturn, 1) := by decide +kernel
theorem dL_holds_341 : decode cL_holds 341 = .ok (.iinc 5 1, 3) := by decide +kernel
theorem dL_holds_344 : decode cL_holds 344 = .ok (.goto (-140), 3) := by decide +kernel
theorem dL_holds_347 : decode cL_holds 347 = .ok (.iconst 0, 1) := by decide +kernel
theorem dL_holds_348 : decode cL_holds 348 = .ok (.istore 5, 2) := by decide +kernel
theorem dL_holds_350 : decode cL_holds 350 = .ok (.iload 5, 2) := by decide +kernel
theorem dL_holds_352 : decode cL_holds 352 = .ok (.iconst 3, 1) := by decide +kernel
theorem dL_holds_353 : decode cL_holds 353 = .ok (.if_icmp .ge 50, 3) := by decide +kernel
theorem dL_holds_356 : decode cL_holds 356 = .ok (.aload_n 0, 1) := by decide +kernel
theorem dL_holds_357 : decode cL_holds 357 = .ok (.iload 5, 2) := by decide +kernel
theorem dL_holds_359 : decode cL_holds 359 = .ok (.iconst 1, 1) := by decide +kernel
theorem dL_holds_360 : decode cL_holds 360 = .ok (.invokevirtual 25, 3) := by decide +kernel
theorem dL_holds_363 : decode cL_holds 363 = .ok (.ifCond .lt 32, 3) := by decide +kernel
theorem dL_holds_366 : decode cL_holds 366 = .ok (.aload_n 0, 1) := by decide +kernel
theorem dL_holds_367 : decode cL_holds 367 = .ok (.iload 5, 2) := by decide +kernel
theorem dL_holds_369 : decode cL_holds 369 = .ok (.iconst 1, 1) := by decide +kernel
theorem dL_holds_370 : decode cL_holds 370 = .ok (.invokevirtual 25, 3) := by decide +kernel
theorem dL_holds_373 : decode cL_holds 373 = .ok (.aload_n 0, 1) := by decide +kernel
theorem dL_holds_374 : decode cL_holds 374 = .ok (.iload 5, 2) := by decide +kernel
theorem dL_holds_376 : decode cL_holds 376 = .ok (.iconst 0, 1) := by decide +kernel
theorem dL_holds_377 : decode cL_holds 377 = .ok (.invokevirtual 25, 3) := by decide +kernel
theorem dL_holds_380 : decode cL_holds 380 = .ok (.if_icmp .gt 15, 3) := by decide +kernel
theorem dL_holds_383 : decode cL_holds 383 = .ok (.aload_n 0, 1) := by decide +kernel
theorem dL_holds_384 : decode cL_holds 384 = .ok (.iload 5, 2) := by decide +kernel
theorem dL_holds_386 : decode cL_holds 386 = .ok (.iconst 0, 1) := by decide +kernel
theorem dL_holds_387 : decode cL_holds 387 = .ok (.invokevirtual 25, 3) := by decide +kernel
theorem dL_holds_390 : decode cL_holds 390 = .ok (.bipush 9, 2) := by decide +kernel
theorem dL_holds_392 : decode cL_holds 392 = .ok (.if_icmp .le 5, 3) := by decide +kernel
theorem dL_holds_395 : decode cL_holds 395 = .ok (.iconst 0, 1) := by decide +kernel
theorem dL_holds_396 : decode cL_holds 396 = .ok (.ireturn, 1) := by decide +kernel
theorem dL_holds_397 : decode cL_holds 397 = .ok (.iinc 5 1, 3) := by decide +kernel
theorem dL_holds_400 : decode cL_holds 400 = .ok (.goto (-50), 3) := by decide +kernel
theorem dL_holds_403 : decode cL_holds 403 = .ok (.iload_n 1, 1) := by decide +kernel
theorem dL_holds_404 : decode cL_holds 404 = .ok (.aload_n 0, 1) := by decide +kernel
theorem dL_holds_405 : decode cL_holds 405 = .ok (.iconst 2, 1) := by decide +kernel
theorem dL_holds_406 : decode cL_holds 406 = .ok (.invokevirtual 12, 3) := by decide +kernel
theorem dL_holds_409 : decode cL_holds 409 = .ok (.if_icmp .ne 36, 3) := by decide +kernel
theorem dL_holds_412 : decode cL_holds 412 = .ok (.iload_n 2, 1) := by decide +kernel
theorem dL_holds_413 : decode cL_holds 413 = .ok (.aload_n 0, 1) := by decide +kernel
theorem dL_holds_414 : decode cL_holds 414 = .ok (.iconst 4, 1) := by decide +kernel
theorem dL_holds_415 : decode cL_holds 415 = .ok (.invokevirtual 12, 3) := by decide +kernel
theorem dL_holds_418 : decode cL_holds 418 = .ok (.if_icmp .ne 27, 3) := by decide +kernel
theorem dL_holds_421 : decode cL_holds 421 = .ok (.iload_n 3, 1) := by decide +kernel
theorem dL_holds_422 : decode cL_holds 422 = .ok (.aload_n 0, 1) := by decide +kernel
theorem dL_holds_423 : decode cL_holds 423 = .ok (.iconst 5, 1) := by decide +kernel
theorem dL_holds_424 : decode cL_holds 424 = .ok (.invokevirtual 12, 3) := by decide +kernel
theorem dL_holds_427 : decode cL_holds 427 = .ok (.if_icmp .ne 18, 3) := by decide +kernel
theorem dL_holds_430 : decode cL_holds 430 = .ok (.iload 4, 2) := by decide +kernel
theorem dL_holds_432 : decode cL_holds 432 = .ok (.aload_n 0, 1) := by decide +kernel
theorem dL_holds_433 : decode cL_holds 433 = .ok (.bipush 6, 2) := by decide +kernel
theorem dL_holds_435 : decode cL_holds 435 = .ok (.invokevirtual 12, 3) := by decide +kernel
theorem dL_holds_438 : decode cL_holds 438 = .ok (.if_icmp .ne 7, 3) := by decide +kernel
theorem dL_holds_441 : decode cL_holds 441 = .ok (.iconst 1, 1) := by decide +kernel
theorem dL_holds_442 : decode cL_holds 442 = .ok (.goto 4, 3) := by decide +kernel
theorem dL_holds_445 : decode cL_holds 445 = .ok (.iconst 0, 1) := by decide +kernel
theorem dL_holds_446 : decode cL_holds 446 = .ok (.ireturn, 1) := by decide +kernel
theorem dL_isLifted_0 : decode cL_isLifted 0 = .ok (.iconst 1, 1) := by decide +kernel
theorem dL_isLifted_1 : decode cL_isLifted 1 = .ok (.istore_n 1, 1) := by decide +kernel
theorem dL_isLifted_2 : decode cL_isLifted 2 = .ok (.iconst 0, 1) := by decide +kernel
theorem dL_isLifted_3 : decode cL_isLifted 3 = .ok (.istore_n 2, 1) := by decide +kernel
theorem dL_isLifted_4 : decode cL_isLifted 4 = .ok (.iload_n 2, 1) := by decide +kernel
theorem dL_isLifted_5 : decode cL_isLifted 5 = .ok (.aload_n 0, 1) := by decide +kernel
theorem dL_isLifted_6 : decode cL_isLifted 6 = .ok (.iconst 3, 1) := by decide +kernel
theorem dL_isLifted_7 : decode cL_isLifted 7 = .ok (.invokevirtual 12, 3) := by decide +kernel
theorem dL_isLifted_10 : decode cL_isLifted 10 = .ok (.if_icmp .ge 243, 3) := by decide +kernel
theorem dL_isLifted_13 : decode cL_isLifted 13 = .ok (.iload_n 1, 1) := by decide +kernel
theorem dL_isLifted_14 : decode cL_isLifted 14 = .ok (.ifCond .eq 239, 3) := by decide +kernel
theorem dL_isLifted_17 : decode cL_isLifted 17 = .ok (.aload_n 0, 1) := by decide +kernel
theorem dL_isLifted_18 : decode cL_isLifted 18 = .ok (.iload_n 2, 1) := by decide +kernel
theorem dL_isLifted_19 : decode cL_isLifted 19 = .ok (.iconst 5, 1) := by decide +kernel
theorem dL_isLifted_20 : decode cL_isLifted 20 = .ok (.invokevirtual 22, 3) := by decide +kernel
theorem dL_isLifted_23 : decode cL_isLifted 23 = .ok (.iconst 1, 1) := by decide +kernel
theorem dL_isLifted_24 : decode cL_isLifted 24 = .ok (.if_icmp .ne 223, 3) := by decide +kernel
theorem dL_isLifted_27 : decode cL_isLifted 27 = .ok (.iconst 0, 1) := by decide +kernel
theorem dL_isLifted_28 : decode cL_isLifted 28 = .ok (.istore_n 3, 1) := by decide +kernel
theorem dL_isLifted_29 : decode cL_isLifted 29 = .ok (.iconst 0, 1) := by decide +kernel
theorem dL_isLifted_30 : decode cL_isLifted 30 = .ok (.istore 4, 2) := by decide +kernel
theorem dL_isLifted_32 : decode cL_isLifted 32 = .ok (.iload 4, 2) := by decide +kernel
theorem dL_isLifted_34 : decode cL_isLifted 34 = .ok (.aload_n 0, 1) := by decide +kernel
theorem dL_isLifted_35 : decode cL_isLifted 35 = .ok (.iconst 1, 1) := by decide +kernel
theorem dL_isLifted_36 : decode cL_isLifted 36 = .ok (.invokevirtual 12, 3) := by decide +kernel
theorem dL_isLifted_39 : decode cL_isLifted 39 = .ok (.if_icmp .ge 39, 3) := by decide +kernel
theorem dL_isLifted_42 : decode cL_isLifted 42 = .ok (.iload_n 3, 1) := by decide +kernel
theorem dL_isLifted_43 : decode cL_isLifted 43 = .ok (.aload_n 0, 1) := by decide +kernel
theorem dL_isLifted_44 : decode cL_isLifted 44 = .ok (.iload_n 2, 1) := by decide +kernel
theorem dL_isLifted_45 : decode cL_isLifted 45 = .ok (.bipush 7, 2) := by decide +kernel
theorem dL_isLifted_47 : decode cL_isLifted 47 = .ok (.invokevirtual 22, 3) := by decide +kernel
theorem dL_isLifted_50 : decode cL_isLifted 50 = .ok (.iload 4, 2) := by decide +kernel
theorem dL_isLifted_52 : decode cL_isLifted 52 = .ok (.ishr, 1) := by decide +kernel
theorem dL_isLifted_53 : decode cL_isLifted 53 = .ok (.iconst 1, 1) := by decide +kernel
theorem dL_isLifted_54 : decode cL_isLifted 54 = .ok (.iand, 1) := by decide +kernel
theorem dL_isLifted_55 : decode cL_isLifted 55 = .ok (.iconst 1, 1) := by decide +kernel
theorem dL_isLifted_56 : decode cL_isLifted 56 = .ok (.if_icmp .ne 13, 3) := by decide +kernel
theorem dL_isLifted_59 : decode cL_isLifted 59 = .ok (.aload_n 0, 1) := by decide +kernel
theorem dL_isLifted_60 : decode cL_isLifted 60 = .ok (.iload 4, 2) := by decide +kernel
theorem dL_isLifted_62 : decode cL_isLifted 62 = .ok (.iconst 1, 1) := by decide +kernel
theorem dL_isLifted_63 : decode cL_isLifted 63 = .ok (.invokevirtual 18, 3) := by decide +kernel
theorem dL_isLifted_66 : decode cL_isLifted 66 = .ok (.goto 4, 3) := by decide +kernel
theorem dL_isLifted_69 : decode cL_isLifted 69 = .ok (.iconst 0, 1) := by decide +kernel
theorem dL_isLifted_70 : decode cL_isLifted 70 = .ok (.iadd, 1) := by decide +kernel
theorem dL_isLifted_71 : decode cL_isLifted 71 = .ok (.istore_n 3, 1) := by decide +kernel
theorem dL_isLifted_72 : decode cL_isLifted 72 = .ok (.iinc 4 1, 3) := by decide +kernel
theorem dL_isLifted_75 : decode cL_isLifted 75 = .ok (.goto (-43), 3) := by decide +kernel
theorem dL_isLifted_78 : decode cL_isLifted 78 = .ok (.iload_n 3, 1) := by decide +kernel
theorem dL_isLifted_79 : decode cL_isLifted 79 = .ok (.aload_n 0, 1) := by decide +kernel
theorem dL_isLifted_80 : decode cL_isLifted 80 = .ok (.iload_n 2, 1) := by decide +kernel
theorem dL_isLifted_81 : decode cL_isLifted 81 = .ok (.bipush 6, 2) := by decide +kernel
theorem dL_isLifted_83 : decode cL_isLifted 83 = .ok (.invokevirtual 22, 3) := by decide +kernel
theorem dL_isLifted_86 : decode cL_isLifted 86 = .ok (.if_icmp .lt 17, 3) := by decide +kernel
theorem dL_isLifted_89 : decode cL_isLifted 89 = .ok (.aload_n 0, 1) := by decide +kernel
theorem dL_isLifted_90 : decode cL_isLifted 90 = .ok (.iload_n 2, 1) := by decide +kernel
theorem dL_isLifted_91 : decode cL_isLifted 91 = .ok (.bipush 9, 2) := by decide +kernel
theorem dL_isLifted_93 : decode cL_isLifted 93 = .ok (.invokevirtual 22, 3) := by decide +kernel
theorem dL_isLifted_96 : decode cL_isLifted 96 = .ok (.ifCond .ne 7, 3) := by decide +kernel
theorem dL_isLifted_99 : decode cL_isLifted 99 = .ok (.iconst 1, 1) := by decide +kernel
theorem dL_isLifted_100 : decode cL_isLifted 100 = .ok (.goto 4, 3) := by decide +kernel
theorem dL_isLifted_103 : decode cL_isLifted 103 = .ok (.iconst 0, 1) := by decide +kernel
theorem dL_isLifted_104 : decode cL_isLifted 104 = .ok (.istore 4, 2) := by decide +kernel
theorem dL_isLifted_106 : decode cL_isLifted 106 = .ok (.iload_n 3, 1) := by decide +kernel
theorem dL_isLifted_107 : decode cL_isLifted 107 = .ok (.aload_n 0, 1) := by decide +kernel
theorem dL_isLifted_108 : decode cL_isLifted 108 = .ok (.iload_n 2, 1) := by decide +kernel
theorem dL_isLifted_109 : decode cL_isLifted 109 = .ok (.bipush 6, 2) := by decide +kernel
theorem dL_isLifted_111 : decode cL_isLifted 111 = .ok (.invokevirtual 22, 3) := by decide +kernel
theorem dL_isLifted_114 : decode cL_isLifted 114 = .ok (.if_icmp .ge 17, 3) := by decide +kernel
theorem dL_isLifted_117 : decode cL_isLifted 117 = .ok (.aload_n 0, 1) := by decide +kernel
theorem dL_isLifted_118 : decode cL_isLifted 118 = .ok (.iload_n 2, 1) := by decide +kernel
theorem dL_isLifted_119 : decode cL_isLifted 119 = .ok (.bipush 9, 2) := by decide +kernel
theorem dL_isLifted_121 : decode cL_isLifted 121 = .ok (.invokevirtual 22, 3) := by decide +kernel
theorem dL_isLifted_124 : decode cL_isLifted 124 = .ok (.ifCond .ne 7, 3) := by decide +kernel
theorem dL_isLifted_127 : decode cL_isLifted 127 = .ok (.iconst 1, 1) := by decide +kernel
theorem dL_isLifted_128 : decode cL_isLifted 128 = .ok (.goto 4, 3) := by decide +kernel
theorem dL_isLifted_131 : decode cL_isLifted 131 = .ok (.iconst 0, 1) := by decide +kernel
theorem dL_isLifted_132 : decode cL_isLifted 132 = .ok (.istore 5, 2) := by decide +kernel
theorem dL_isLifted_134 : decode cL_isLifted 134 = .ok (.aload_n 0, 1) := by decide +kernel
theorem dL_isLifted_135 : decode cL_isLifted 135 = .ok (.iload_n 2, 1) := by decide +kernel
theorem dL_isLifted_136 : decode cL_isLifted 136 = .ok (.iconst 2, 1) := by decide +kernel
theorem dL_isLifted_137 : decode cL_isLifted 137 = .ok (.invokevirtual 22, 3) := by decide +kernel
theorem dL_isLifted_140 : decode cL_isLifted 140 = .ok (.istore 6, 2) := by decide +kernel
theorem dL_isLifted_142 : decode cL_isLifted 142 = .ok (.aload_n 0, 1) := by decide +kernel
theorem dL_isLifted_143 : decode cL_isLifted 143 = .ok (.iload_n 2, 1) := by decide +kernel
theorem dL_isLifted_144 : decode cL_isLifted 144 = .ok (.bipush 10, 2) := by decide +kernel
theorem dL_isLifted_146 : decode cL_isLifted 146 = .ok (.invokevirtual 22, 3) := by decide +kernel
theorem dL_isLifted_149 : decode cL_isLifted 149 = .ok (.istore 7, 2) := by decide +kernel
theorem dL_isLifted_151 : decode cL_isLifted 151 = .ok (.aload_n 0, 1) := by decide +kernel
theorem dL_isLifted_152 : decode cL_isLifted 152 = .ok (.iconst 1, 1) := by decide +kernel
theorem dL_isLifted_153 : decode cL_isLifted 153 = .ok (.invokevirtual 60, 3) := by decide +kernel
theorem dL_isLifted_156 : decode cL_isLifted 156 = .ok (.pop, 1) := by decide +kernel
theorem dL_isLifted_157 : decode cL_isLifted 157 = .ok (.aload_n 0, 1) := by decide +kernel
theorem dL_isLifted_158 : decode cL_isLifted 158 = .ok (.iload_n 2, 1) := by decide +kernel
theorem dL_isLifted_159 : decode cL_isLifted 159 = .ok (.iconst 2, 1) := by decide +kernel
theorem dL_isLifted_160 : decode cL_isLifted 160 = .ok (.invokevirtual 22, 3) := by decide +kernel
theorem dL_isLifted_163 : decode cL_isLifted 163 = .ok (.iload 6, 2) := by decide +kernel
theorem dL_isLifted_165 : decode cL_isLifted 165 = .ok (.iload 4, 2) := by decide +kernel
theorem dL_isLifted_167 : decode cL_isLifted 167 = .ok (.ifCond .eq 7, 3) := by decide +kernel
theorem dL_isLifted_170 : decode cL_isLifted 170 = .ok (.iconst 1, 1) := by decide +kernel
theorem dL_isLifted_171 : decode cL_isLifted 171 = .ok (.goto 4, 3) := by decide +kernel
theorem dL_isLifted_174 : decode cL_isLifted 174 = .ok (.iconst 0, 1) := by decide +kernel
theorem dL_isLifted_175 : decode cL_isLifted 175 = .ok (.isub, 1) := by decide +kernel
theorem dL_isLifted_176 : decode cL_isLifted 176 = .ok (.if_icmp .ne 64, 3) := by decide +kernel
theorem dL_isLifted_179 : decode cL_isLifted 179 = .ok (.aload_n 0, 1) := by decide +kernel
theorem dL_isLifted_180 : decode cL_isLifted 180 = .ok (.iload_n 2, 1) := by decide +kernel
theorem dL_isLifted_181 : decode cL_isLifted 181 = .ok (.bipush 10, 2) := by decide +kernel
theorem dL_isLifted_183 : decode cL_isLifted 183 = .ok (.invokevirtual 22, 3) := by decide +kernel
theorem dL_isLifted_186 : decode cL_isLifted 186 = .ok (.iload 7, 2) := by decide +kernel
theorem dL_isLifted_188 : decode cL_isLifted 188 = .ok (.iload 5, 2) := by decide +kernel
theorem dL_isLifted_190 : decode cL_isLifted 190 = .ok (.ifCond .eq 7, 3) := by decide +kernel
theorem dL_isLifted_193 : decode cL_isLifted 193 = .ok (.iconst 1, 1) := by decide +kernel
theorem dL_isLifted_194 : decode cL_isLifted 194 = .ok (.goto 4, 3) := by decide +kernel
theorem dL_isLifted_197 : decode cL_isLifted 197 = .ok (.iconst 0, 1) := by decide +kernel
theorem dL_isLifted_198 : decode cL_isLifted 198 = .ok (.iadd, 1) := by decide +kernel
theorem dL_isLifted_199 : decode cL_isLifted 199 = .ok (.if_icmp .ne 41, 3) := by decide +kernel
theorem dL_isLifted_202 : decode cL_isLifted 202 = .ok (.aload_n 0, 1) := by decide +kernel
theorem dL_isLifted_203 : decode cL_isLifted 203 = .ok (.iload_n 2, 1) := by decide +kernel
theorem dL_isLifted_204 : decode cL_isLifted 204 = .ok (.iconst 5, 1) := by decide +kernel
theorem dL_isLifted_205 : decode cL_isLifted 205 = .ok (.invokevirtual 22, 3) := by decide +kernel
theorem dL_isLifted_208 : decode cL_isLifted 208 = .ok (.iconst 2, 1) := by decide +kernel
theorem dL_isLifted_209 : decode cL_isLifted 209 = .ok (.if_icmp .ne 7, 3) := by decide +kernel
theorem dL_isLifted_212 : decode cL_isLifted 212 = .ok (.iconst 1, 1) := by decide +kernel
theorem dL_isLifted_213 : decode cL_isLifted 213 = .ok (.goto 4, 3) := by decide +kernel
theorem dL_isLifted_216 : decode cL_isLifted 216 = .ok (.iconst 0, 1) := by decide +kernel
theorem dL_isLifted_217 : decode cL_isLifted 217 = .ok (.iload 4, 2) := by decide +kernel
theorem dL_isLifted_219 : decode cL_isLifted 219 = .ok (.ifCond .eq 13, 3) := by decide +kernel
theorem dL_isLifted_222 : decode cL_isLifted 222 = .ok (.iload 6, 2) := by decide +kernel
theorem dL_isLifted_224 : decode cL_isLifted 224 = .ok (.iconst 1, 1) := by decide +kernel
theorem dL_isLifted_225 : decode cL_isLifted 225 = .ok (.if_icmp .ne 7, 3) := by decide +kernel
theorem dL_isLifted_228 : decode cL_isLifted 228 = .ok (.iconst 1, 1) := by decide +kernel
theorem dL_isLifted_229 : decode cL_isLifted 229 = .ok (.goto 4, 3) := by decide +kernel
theorem dL_isLifted_232 : decode cL_isLifted 232 = .ok (.iconst 0, 1) := by decide +kernel
theorem dL_isLifted_233 : decode cL_isLifted 233 = .ok (.if_icmp .ne 7, 3) := by decide +kernel
theorem dL_isLifted_236 : decode cL_isLifted 236 = .ok (.iconst 1, 1) := by decide +kernel
theorem dL_isLifted_237 : decode cL_isLifted 237 = .ok (.goto 4, 3) := by decide +kernel
theorem dL_isLifted_240 : decode cL_isLifted 240 = .ok (.iconst 0, 1) := by decide +kernel
theorem dL_isLifted_241 : decode cL_isLifted 241 = .ok (.istore_n 1, 1) := by decide +kernel
theorem dL_isLifted_242 : decode cL_isLifted 242 = .ok (.aload_n 0, 1) := by decide +kernel
theorem dL_isLifted_243 : decode cL_isLifted 243 = .ok (.invokevirtual 63, 3) := by decide +kernel
theorem dL_isLifted_246 : decode cL_isLifted 246 = .ok (.pop, 1) := by decide +kernel
theorem dL_isLifted_247 : decode cL_isLifted 247 = .ok (.iinc 2 1, 3) := by decide +kernel
theorem dL_isLifted_250 : decode cL_isLifted 250 = .ok (.goto (-246), 3) := by decide +kernel
theorem dL_isLifted_253 : decode cL_isLifted 253 = .ok (.iload_n 1, 1) := by decide +kernel
theorem dL_isLifted_254 : decode cL_isLifted 254 = .ok (.ireturn, 1) := by decide +kernel
theorem dL_law_0 : decode cL_law 0 = .ok (.new 13, 3) := by decide +kernel
theorem dL_law_3 : decode cL_law 3 = .ok (.dup, 1) := by decide +kernel
theorem dL_law_4 : decode cL_law 4 = .ok (.invokespecial 66, 3) := by decide +kernel
theorem dL_law_7 : decode cL_law 7 = .ok (.astore_n 1, 1) := by decide +kernel
theorem dL_law_8 : decode cL_law 8 = .ok (.aload_n 1, 1) := by decide +kernel
theorem dL_law_9 : decode cL_law 9 = .ok (.invokevirtual 63, 3) := by decide +kernel
theorem dL_law_12 : decode cL_law 12 = .ok (.bipush (-5), 2) := by decide +kernel
theorem dL_law_14 : decode cL_law 14 = .ok (.if_icmp .ne 21, 3) := by decide +kernel
theorem dL_law_17 : decode cL_law 17 = .ok (.aload_n 1, 1) := by decide +kernel
theorem dL_law_18 : decode cL_law 18 = .ok (.iconst 1, 1) := by decide +kernel
theorem dL_law_19 : decode cL_law 19 = .ok (.invokevirtual 67, 3) := by decide +kernel
theorem dL_law_22 : decode cL_law 22 = .ok (.bipush (-5), 2) := by decide +kernel
theorem dL_law_24 : decode cL_law 24 = .ok (.if_icmp .ne 11, 3) := by decide +kernel
theorem dL_law_27 : decode cL_law 27 = .ok (.aload_n 1, 1) := by decide +kernel
theorem dL_law_28 : decode cL_law 28 = .ok (.iconst 0, 1) := by decide +kernel
theorem dL_law_29 : decode cL_law 29 = .ok (.invokevirtual 70, 3) := by decide +kernel
theorem dL_law_32 : decode cL_law 32 = .ok (.ifCond .eq 5, 3) := by decide +kernel
theorem dL_law_35 : decode cL_law 35 = .ok (.iconst 0, 1) := by decide +kernel
theorem dL_law_36 : decode cL_law 36 = .ok (.ireturn, 1) := by decide +kernel
theorem dL_law_37 : decode cL_law 37 = .ok (.iconst 0, 1) := by decide +kernel
theorem dL_law_38 : decode cL_law 38 = .ok (.istore_n 2, 1) := by decide +kernel
theorem dL_law_39 : decode cL_law 39 = .ok (.iload_n 2, 1) := by decide +kernel
theorem dL_law_40 : decode cL_law 40 = .ok (.bipush 34, 2) := by decide +kernel
theorem dL_law_42 : decode cL_law 42 = .ok (.if_icmp .ge 219, 3) := by decide +kernel
theorem dL_law_45 : decode cL_law 45 = .ok (.iload_n 2, 1) := by decide +kernel
theorem dL_law_46 : decode cL_law 46 = .ok (.iconst 3, 1) := by decide +kernel
theorem dL_law_47 : decode cL_law 47 = .ok (.if_icmp .ge 7, 3) := by decide +kernel
theorem dL_law_50 : decode cL_law 50 = .ok (.iconst 1, 1) := by decide +kernel
theorem dL_law_51 : decode cL_law 51 = .ok (.goto 19, 3) := by decide +kernel
theorem dL_law_54 : decode cL_law 54 = .ok (.iload_n 2, 1) := by decide +kernel
theorem dL_law_55 : decode cL_law 55 = .ok (.iconst 5, 1) := by decide +kernel
theorem dL_law_56 : decode cL_law 56 = .ok (.if_icmp .ge 7, 3) := by decide +kernel
theorem dL_law_59 : decode cL_law 59 = .ok (.iconst 3, 1) := by decide +kernel
theorem dL_law_60 : decode cL_law 60 = .ok (.goto 10, 3) := by decide +kernel
theorem dL_law_63 : decode cL_law 63 = .ok (.aload_n 0, 1) := by decide +kernel
theorem dL_law_64 : decode cL_law 64 = .ok (.iconst 2, 1) := by decide +kernel
theorem dL_law_65 : decode cL_law 65 = .ok (.iload_n 2, 1) := by decide +kernel
theorem dL_law_66 : decode cL_law 66 = .ok (.imul, 1) := by decide +kernel
theorem dL_law_67 : decode cL_law 67 = .ok (.invokestatic 73, 3) := by decide +kernel
theorem dL_law_70 : decode cL_law 70 = .ok (.istore_n 3, 1) := by decide +kernel
theorem dL_law_71 : decode cL_law 71 = .ok (.aload_n 0, 1) := by decide +kernel
theorem dL_law_72 : decode cL_law 72 = .ok (.iconst 2, 1) := by decide +kernel
theorem dL_law_73 : decode cL_law 73 = .ok (.iload_n 2, 1) := by decide +kernel
theorem dL_law_74 : decode cL_law 74 = .ok (.imul, 1) := by decide +kernel
theorem dL_law_75 : decode cL_law 75 = .ok (.iconst 1, 1) := by decide +kernel
theorem dL_law_76 : decode cL_law 76 = .ok (.iadd, 1) := by decide +kernel
theorem dL_law_77 : decode cL_law 77 = .ok (.invokestatic 73, 3) := by decide +kernel
theorem dL_law_80 : decode cL_law 80 = .ok (.istore 4, 2) := by decide +kernel
theorem dL_law_82 : decode cL_law 82 = .ok (.aload_n 1, 1) := by decide +kernel
theorem dL_law_83 : decode cL_law 83 = .ok (.invokestatic 77, 3) := by decide +kernel
theorem dL_law_86 : decode cL_law 86 = .ok (.lstore 5, 2) := by decide +kernel
theorem dL_law_88 : decode cL_law 88 = .ok (.aload_n 1, 1) := by decide +kernel
theorem dL_law_89 : decode cL_law 89 = .ok (.bipush 15, 2) := by decide +kernel
theorem dL_law_91 : decode cL_law 91 = .ok (.invokevirtual 12, 3) := by decide +kernel
theorem dL_law_94 : decode cL_law 94 = .ok (.istore 7, 2) := by decide +kernel
theorem dL_law_96 : decode cL_law 96 = .ok (.aload_n 1, 1) := by decide +kernel
theorem dL_law_97 : decode cL_law 97 = .ok (.iload_n 3, 1) := by decide +kernel
theorem dL_law_98 : decode cL_law 98 = .ok (.iload 4, 2) := by decide +kernel
theorem dL_law_100 : decode cL_law 100 = .ok (.invokestatic 81, 3) := by decide +kernel
theorem dL_law_103 : decode cL_law 103 = .ok (.istore 8, 2) := by decide +kernel
theorem dL_law_105 : decode cL_law 105 = .ok (.aload_n 1, 1) := by decide +kernel
theorem dL_law_106 : decode cL_law 106 = .ok (.invokestatic 77, 3) := by decide +kernel
theorem dL_law_109 : decode cL_law 109 = .ok (.lstore 9, 2) := by decide +kernel
theorem dL_law_111 : decode cL_law 111 = .ok (.iload 8, 2) := by decide +kernel
theorem dL_law_113 : decode cL_law 113 = .ok (.ifCond .ge 25, 3) := by decide +kernel
theorem dL_law_116 : decode cL_law 116 = .ok (.lload 9, 2) := by decide +kernel
theorem dL_law_118 : decode cL_law 118 = .ok (.lload 5, 2) := by decide +kernel
theorem dL_law_120 : decode cL_law 120 = .ok (.lcmp, 1) := by decide +kernel
theorem dL_law_121 : decode cL_law 121 = .ok (.ifCond .ne 42, 3) := by decide +kernel
theorem dL_law_124 : decode cL_law 124 = .ok (.aload_n 1, 1) := by decide +kernel
theorem dL_law_125 : decode cL_law 125 = .ok (.bipush 15, 2) := by decide +kernel
theorem dL_law_127 : decode cL_law 127 = .ok (.invokevirtual 12, 3) := by decide +kernel
theorem dL_law_130 : decode cL_law 130 = .ok (.iload 7, 2) := by decide +kernel
theorem dL_law_132 : decode cL_law 132 = .ok (.if_icmp .eq 33, 3) := by decide +kernel
theorem dL_law_135 : decode cL_law 135 = .ok (.goto 28, 3) := by decide +kernel
theorem dL_law_138 : decode cL_law 138 = .ok (.aload_n 1, 1) := by decide +kernel
theorem dL_law_139 : decode cL_law 139 = .ok (.bipush 15, 2) := by decide +kernel
theorem dL_law_141 : decode cL_law 141 = .ok (.invokevirtual 12, 3) := by decide +kernel
theorem dL_law_144 : decode cL_law 144 = .ok (.iload 7, 2) := by decide +kernel
theorem dL_law_146 : decode cL_law 146 = .ok (.bipush 6, 2) := by decide +kernel
theorem dL_law_148 : decode cL_law 148 = .ok (.if_icmp .ge 10, 3) := by decide +kernel
theorem dL_law_151 : decode cL_law 151 = .ok (.iload 7, 2) := by decide +kernel
theorem dL_law_153 : decode cL_law 153 = .ok (.iconst 1, 1) := by decide +kernel
theorem dL_law_154 : decode cL_law 154 = .ok (.iadd, 1) := by decide +kernel
theorem dL_law_155 : decode cL_law 155 = .ok (.goto 5, 3) := by decide +kernel
theorem dL_law_158 : decode cL_law 158 = .ok (.bipush 6, 2) := by decide +kernel
theorem dL_law_160 : decode cL_law 160 = .ok (.if_icmp .eq 5, 3) := by decide +kernel
theorem dL_law_163 : decode cL_law 163 = .ok (.iconst 0, 1) := by decide +kernel
theorem dL_law_164 : decode cL_law 164 = .ok (.ireturn, 1) := by decide +kernel
theorem dL_law_165 : decode cL_law 165 = .ok (.iload 8, 2) := by decide +kernel
theorem dL_law_167 : decode cL_law 167 = .ok (.ifCond .lt 65, 3) := by decide +kernel
theorem dL_law_170 : decode cL_law 170 = .ok (.iload_n 3, 1) := by decide +kernel
theorem dL_law_171 : decode cL_law 171 = .ok (.bipush 10, 2) := by decide +kernel
theorem dL_law_173 : decode cL_law 173 = .ok (.ishr, 1) := by decide +kernel
theorem dL_law_174 : decode cL_law 174 = .ok (.iconst 1, 1) := by decide +kernel
theorem dL_law_175 : decode cL_law 175 = .ok (.iand, 1) := by decide +kernel
theorem dL_law_176 : decode cL_law 176 = .ok (.ifCond .ne 56, 3) := by decide +kernel
theorem dL_law_179 : decode cL_law 179 = .ok (.aload_n 1, 1) := by decide +kernel
theorem dL_law_180 : decode cL_law 180 = .ok (.bipush 15, 2) := by decide +kernel
theorem dL_law_182 : decode cL_law 182 = .ok (.invokevirtual 12, 3) := by decide +kernel
theorem dL_law_185 : decode cL_law 185 = .ok (.iconst 1, 1) := by decide +kernel
theorem dL_law_186 : decode cL_law 186 = .ok (.isub, 1) := by decide +kernel
theorem dL_law_187 : decode cL_law 187 = .ok (.istore 11, 2) := by decide +kernel
theorem dL_law_189 : decode cL_law 189 = .ok (.aload_n 1, 1) := by decide +kernel
theorem dL_law_190 : decode cL_law 190 = .ok (.invokevirtual 63, 3) := by decide +kernel
theorem dL_law_193 : decode cL_law 193 = .ok (.iload 11, 2) := by decide +kernel
theorem dL_law_195 : decode cL_law 195 = .ok (.if_icmp .ne 35, 3) := by decide +kernel
theorem dL_law_198 : decode cL_law 198 = .ok (.aload_n 1, 1) := by decide +kernel
theorem dL_law_199 : decode cL_law 199 = .ok (.invokestatic 77, 3) := by decide +kernel
theorem dL_law_202 : decode cL_law 202 = .ok (.lload 5, 2) := by decide +kernel
theorem dL_law_204 : decode cL_law 204 = .ok (.lcmp, 1) := by decide +kernel
theorem dL_law_205 : decode cL_law 205 = .ok (.ifCond .ne 25, 3) := by decide +kernel
theorem dL_law_208 : decode cL_law 208 = .ok (.aload_n 1, 1) := by decide +kernel
theorem dL_law_209 : decode cL_law 209 = .ok (.iload_n 3, 1) := by decide +kernel
theorem dL_law_210 : decode cL_law 210 = .ok (.iload 4, 2) := by decide +kernel
theorem dL_law_212 : decode cL_law 212 = .ok (.invokestatic 81, 3) := by decide +kernel
theorem dL_law_215 : decode cL_law 215 = .ok (.iload 8, 2) := by decide +kernel
theorem dL_law_217 : decode cL_law 217 = .ok (.if_icmp .ne 13, 3) := by decide +kernel
theorem dL_law_220 : decode cL_law 220 = .ok (.aload_n 1, 1) := by decide +kernel
theorem dL_law_221 : decode cL_law 221 = .ok (.invokestatic 77, 3) := by decide +kernel
theorem dL_law_224 : decode cL_law 224 = .ok (.lload 9, 2) := by decide +kernel
theorem dL_law_226 : decode cL_law 226 = .ok (.lcmp, 1) := by decide +kernel
theorem dL_law_227 : decode cL_law 227 = .ok (.ifCond .eq 5, 3) := by decide +kernel
theorem dL_law_230 : decode cL_law 230 = .ok (.iconst 0, 1) := by decide +kernel
theorem dL_law_231 : decode cL_law 231 = .ok (.ireturn, 1) := by decide +kernel
theorem dL_law_232 : decode cL_law 232 = .ok (.aload_n 1, 1) := by decide +kernel
theorem dL_law_233 : decode cL_law 233 = .ok (.invokestatic 85, 3) := by decide +kernel
theorem dL_law_236 : decode cL_law 236 = .ok (.ifCond .eq 17, 3) := by decide +kernel
theorem dL_law_239 : decode cL_law 239 = .ok (.iload_n 2, 1) := by decide +kernel
theorem dL_law_240 : decode cL_law 240 = .ok (.iconst 3, 1) := by decide +kernel
theorem dL_law_241 : decode cL_law 241 = .ok (.irem, 1) := by decide +kernel
theorem dL_law_242 : decode cL_law 242 = .ok (.iconst 2, 1) := by decide +kernel
theorem dL_law_243 : decode cL_law 243 = .ok (.if_icmp .ne 12, 3) := by decide +kernel
theorem dL_law_246 : decode cL_law 246 = .ok (.aload_n 1, 1) := by decide +kernel
theorem dL_law_247 : decode cL_law 247 = .ok (.invokestatic 89, 3) := by decide +kernel
theorem dL_law_250 : decode cL_law 250 = .ok (.ifCond .ne 5, 3) := by decide +kernel
theorem dL_law_253 : decode cL_law 253 = .ok (.iconst 0, 1) := by decide +kernel
theorem dL_law_254 : decode cL_law 254 = .ok (.ireturn, 1) := by decide +kernel
theorem dL_law_255 : decode cL_law 255 = .ok (.iinc 2 1, 3) := by decide +kernel
theorem dL_law_258 : decode cL_law 258 = .ok (.goto (-219), 3) := by decide +kernel
theorem dL_law_261 : decode cL_law 261 = .ok (.aload_n 1, 1) := by decide +kernel
theorem dL_law_262 : decode cL_law 262 = .ok (.iconst 0, 1) := by decide +kernel
theorem dL_law_263 : decode cL_law 263 = .ok (.invokevirtual 67, 3) := by decide +kernel
theorem dL_law_266 : decode cL_law 266 = .ok (.ifCond .ne 15, 3) := by decide +kernel
theorem dL_law_269 : decode cL_law 269 = .ok (.aload_n 1, 1) := by decide +kernel
theorem dL_law_270 : decode cL_law 270 = .ok (.iconst 1, 1) := by decide +kernel
theorem dL_law_271 : decode cL_law 271 = .ok (.invokevirtual 12, 3) := by decide +kernel
theorem dL_law_274 : decode cL_law 274 = .ok (.ifCond .ne 7, 3) := by decide +kernel
theorem dL_law_277 : decode cL_law 277 = .ok (.iconst 1, 1) := by decide +kernel
theorem dL_law_278 : decode cL_law 278 = .ok (.goto 4, 3) := by decide +kernel
theorem dL_law_281 : decode cL_law 281 = .ok (.iconst 0, 1) := by decide +kernel
theorem dL_law_282 : decode cL_law 282 = .ok (.ireturn, 1) := by decide +kernel
