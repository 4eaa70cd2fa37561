theorem dX11_nameHere_75 : decode cX11_nameHere 75 = .ok (.goto 60, 3) := by decide +kernel
theorem dX11_nameHere_78 : decode cX11_nameHere 78 = .ok (.aload_n 0, 1) := by decide +kernel
theorem dX11_nameHere_79 : decode cX11_nameHere 79 = .ok (.ldc 244, 2) := by decide +kernel
theorem dX11_nameHere_81 : decode cX11_nameHere 81 = .ok (.invokevirtual 194, 3) := by decide +kernel
theorem dX11_nameHere_84 : decode cX11_nameHere 84 = .ok (.ifCond .eq 8, 3) := by decide +kernel
theorem dX11_nameHere_87 : decode cX11_nameHere 87 = .ok (.bipush 6, 2) := by decide +kernel
theorem dX11_nameHere_89 : decode cX11_nameHere 89 = .ok (.goto 46, 3) := by decide +kernel
theorem dX11_nameHere_92 : decode cX11_nameHere 92 = .ok (.aload_n 0, 1) := by decide +kernel
theorem dX11_nameHere_93 : decode cX11_nameHere 93 = .ok (.ldc 245, 2) := by decide +kernel
theorem dX11_nameHere_95 : decode cX11_nameHere 95 = .ok (.invokevirtual 194, 3) := by decide +kernel
theorem dX11_nameHere_98 : decode cX11_nameHere 98 = .ok (.ifCond .eq 8, 3) := by decide +kernel
theorem dX11_nameHere_101 : decode cX11_nameHere 101 = .ok (.bipush 7, 2) := by decide +kernel
theorem dX11_nameHere_103 : decode cX11_nameHere 103 = .ok (.goto 32, 3) := by decide +kernel
theorem dX11_nameHere_106 : decode cX11_nameHere 106 = .ok (.aload_n 0, 1) := by decide +kernel
theorem dX11_nameHere_107 : decode cX11_nameHere 107 = .ok (.ldc 247, 2) := by decide +kernel
theorem dX11_nameHere_109 : decode cX11_nameHere 109 = .ok (.invokevirtual 194, 3) := by decide +kernel
theorem dX11_nameHere_112 : decode cX11_nameHere 112 = .ok (.ifCond .eq 8, 3) := by decide +kernel
theorem dX11_nameHere_115 : decode cX11_nameHere 115 = .ok (.bipush 8, 2) := by decide +kernel
theorem dX11_nameHere_117 : decode cX11_nameHere 117 = .ok (.goto 18, 3) := by decide +kernel
theorem dX11_nameHere_120 : decode cX11_nameHere 120 = .ok (.aload_n 0, 1) := by decide +kernel
theorem dX11_nameHere_121 : decode cX11_nameHere 121 = .ok (.ldc 249, 2) := by decide +kernel
theorem dX11_nameHere_123 : decode cX11_nameHere 123 = .ok (.invokevirtual 194, 3) := by decide +kernel
theorem dX11_nameHere_126 : decode cX11_nameHere 126 = .ok (.ifCond .eq 8, 3) := by decide +kernel
theorem dX11_nameHere_129 : decode cX11_nameHere 129 = .ok (.bipush 9, 2) := by decide +kernel
theorem dX11_nameHere_131 : decode cX11_nameHere 131 = .ok (.goto 4, 3) := by decide +kernel
theorem dX11_nameHere_134 : decode cX11_nameHere 134 = .ok (.iconst (-1), 1) := by decide +kernel
theorem dX11_nameHere_135 : decode cX11_nameHere 135 = .ok (.ireturn, 1) := by decide +kernel
theorem dX11_factor_0 : decode cX11_factor 0 = .ok (.aload_n 0, 1) := by decide +kernel
theorem dX11_factor_1 : decode cX11_factor 1 = .ok (.getfield 136, 3) := by decide +kernel
theorem dX11_factor_4 : decode cX11_factor 4 = .ok (.iconst 2, 1) := by decide +kernel
theorem dX11_factor_5 : decode cX11_factor 5 = .ok (.if_icmp .ne 27, 3) := by decide +kernel
theorem dX11_factor_8 : decode cX11_factor 8 = .ok (.aload_n 0, 1) := by decide +kernel
theorem dX11_factor_9 : decode cX11_factor 9 = .ok (.iconst 0, 1) := by decide +kernel
theorem dX11_factor_10 : decode cX11_factor 10 = .ok (.sipush 9999, 3) := by decide +kernel
theorem dX11_factor_13 : decode cX11_factor 13 = .ok (.invokevirtual 181, 3) := by decide +kernel
theorem dX11_factor_16 : decode cX11_factor 16 = .ok (.ifCond .ne 5, 3) := by decide +kernel
theorem dX11_factor_19 : decode cX11_factor 19 = .ok (.iconst 0, 1) := by decide +kernel
theorem dX11_factor_20 : decode cX11_factor 20 = .ok (.ireturn, 1) := by decide +kernel
theorem dX11_factor_21 : decode cX11_factor 21 = .ok (.aload_n 0, 1) := by decide +kernel
theorem dX11_factor_22 : decode cX11_factor 22 = .ok (.iconst 0, 1) := by decide +kernel
theorem dX11_factor_23 : decode cX11_factor 23 = .ok (.aload_n 0, 1) := by decide +kernel
theorem dX11_factor_24 : decode cX11_factor 24 = .ok (.getfield 169, 3) := by decide +kernel
theorem dX11_factor_27 : decode cX11_factor 27 = .ok (.invokevirtual 231, 3) := by decide +kernel
theorem dX11_factor_30 : decode cX11_factor 30 = .ok (.iconst 1, 1) := by decide +kernel
theorem dX11_factor_31 : decode cX11_factor 31 = .ok (.ireturn, 1) := by decide +kernel
theorem dX11_factor_32 : decode cX11_factor 32 = .ok (.aload_n 0, 1) := by decide +kernel
theorem dX11_factor_33 : decode cX11_factor 33 = .ok (.invokevirtual 251, 3) := by decide +kernel
theorem dX11_factor_36 : decode cX11_factor 36 = .ok (.istore_n 1, 1) := by decide +kernel
theorem dX11_factor_37 : decode cX11_factor 37 = .ok (.iload_n 1, 1) := by decide +kernel
theorem dX11_factor_38 : decode cX11_factor 38 = .ok (.iconst (-1), 1) := by decide +kernel
theorem dX11_factor_39 : decode cX11_factor 39 = .ok (.if_icmp .ne 5, 3) := by decide +kernel
theorem dX11_factor_42 : decode cX11_factor 42 = .ok (.iconst 0, 1) := by decide +kernel
theorem dX11_factor_43 : decode cX11_factor 43 = .ok (.ireturn, 1) := by decide +kernel
theorem dX11_factor_44 : decode cX11_factor 44 = .ok (.aload_n 0, 1) := by decide +kernel
theorem dX11_factor_45 : decode cX11_factor 45 = .ok (.iconst 1, 1) := by decide +kernel
theorem dX11_factor_46 : decode cX11_factor 46 = .ok (.iload_n 1, 1) := by decide +kernel
theorem dX11_factor_47 : decode cX11_factor 47 = .ok (.invokevirtual 231, 3) := by decide +kernel
theorem dX11_factor_50 : decode cX11_factor 50 = .ok (.aload_n 0, 1) := by decide +kernel
theorem dX11_factor_51 : decode cX11_factor 51 = .ok (.invokevirtual 172, 3) := by decide +kernel
theorem dX11_factor_54 : decode cX11_factor 54 = .ok (.iconst 1, 1) := by decide +kernel
theorem dX11_factor_55 : decode cX11_factor 55 = .ok (.ireturn, 1) := by decide +kernel
theorem dX11_sumHere_0 : decode cX11_sumHere 0 = .ok (.aload_n 0, 1) := by decide +kernel
theorem dX11_sumHere_1 : decode cX11_sumHere 1 = .ok (.iconst 0, 1) := by decide +kernel
theorem dX11_sumHere_2 : decode cX11_sumHere 2 = .ok (.putfield 225, 3) := by decide +kernel
theorem dX11_sumHere_5 : decode cX11_sumHere 5 = .ok (.iconst 0, 1) := by decide +kernel
theorem dX11_sumHere_6 : decode cX11_sumHere 6 = .ok (.istore_n 1, 1) := by decide +kernel
theorem dX11_sumHere_7 : decode cX11_sumHere 7 = .ok (.iconst 1, 1) := by decide +kernel
theorem dX11_sumHere_8 : decode cX11_sumHere 8 = .ok (.istore_n 2, 1) := by decide +kernel
theorem dX11_sumHere_9 : decode cX11_sumHere 9 = .ok (.iload_n 2, 1) := by decide +kernel
theorem dX11_sumHere_10 : decode cX11_sumHere 10 = .ok (.ifCond .eq 246, 3) := by decide +kernel
theorem dX11_sumHere_13 : decode cX11_sumHere 13 = .ok (.aload_n 0, 1) := by decide +kernel
theorem dX11_sumHere_14 : decode cX11_sumHere 14 = .ok (.bipush 40, 2) := by decide +kernel
theorem dX11_sumHere_16 : decode cX11_sumHere 16 = .ok (.invokevirtual 175, 3) := by decide +kernel
theorem dX11_sumHere_19 : decode cX11_sumHere 19 = .ok (.ifCond .eq 29, 3) := by decide +kernel
theorem dX11_sumHere_22 : decode cX11_sumHere 22 = .ok (.iload_n 1, 1) := by decide +kernel
theorem dX11_sumHere_23 : decode cX11_sumHere 23 = .ok (.bipush 8, 2) := by decide +kernel
theorem dX11_sumHere_25 : decode cX11_sumHere 25 = .ok (.if_icmp .ne 5, 3) := by decide +kernel
theorem dX11_sumHere_28 : decode cX11_sumHere 28 = .ok (.iconst 0, 1) := by decide +kernel
theorem dX11_sumHere_29 : decode cX11_sumHere 29 = .ok (.ireturn, 1) := by decide +kernel
theorem dX11_sumHere_30 : decode cX11_sumHere 30 = .ok (.iinc 1 1, 3) := by decide +kernel
theorem dX11_sumHere_33 : decode cX11_sumHere 33 = .ok (.aload_n 0, 1) := by decide +kernel
theorem dX11_sumHere_34 : decode cX11_sumHere 34 = .ok (.getfield 91, 3) := by decide +kernel
theorem dX11_sumHere_37 : decode cX11_sumHere 37 = .ok (.iload_n 1, 1) := by decide +kernel
theorem dX11_sumHere_38 : decode cX11_sumHere 38 = .ok (.iconst 0, 1) := by decide +kernel
theorem dX11_sumHere_39 : decode cX11_sumHere 39 = .ok (.bastore, 1) := by decide +kernel
theorem dX11_sumHere_40 : decode cX11_sumHere 40 = .ok (.aload_n 0, 1) := by decide +kernel
theorem dX11_sumHere_41 : decode cX11_sumHere 41 = .ok (.iconst (-1), 1) := by decide +kernel
theorem dX11_sumHere_42 : decode cX11_sumHere 42 = .ok (.invokevirtual 254, 3) := by decide +kernel
theorem dX11_sumHere_45 : decode cX11_sumHere 45 = .ok (.goto (-32), 3) := by decide +kernel
theorem dX11_sumHere_48 : decode cX11_sumHere 48 = .ok (.aload_n 0, 1) := by decide +kernel
theorem dX11_sumHere_49 : decode cX11_sumHere 49 = .ok (.invokevirtual 258, 3) := by decide +kernel
theorem dX11_sumHere_52 : decode cX11_sumHere 52 = .ok (.ifCond .ne 5, 3) := by decide +kernel
theorem dX11_sumHere_55 : decode cX11_sumHere 55 = .ok (.iconst 0, 1) := by decide +kernel
theorem dX11_sumHere_56 : decode cX11_sumHere 56 = .ok (.ireturn, 1) := by decide +kernel
theorem dX11_sumHere_57 : decode cX11_sumHere 57 = .ok (.aload_n 0, 1) := by decide +kernel
theorem dX11_sumHere_58 : decode cX11_sumHere 58 = .ok (.bipush 41, 2) := by decide +kernel
theorem dX11_sumHere_60 : decode cX11_sumHere 60 = .ok (.invokevirtual 175, 3) := by decide +kernel
theorem dX11_sumHere_63 : decode cX11_sumHere 63 = .ok (.ifCond .eq 32, 3) := by decide +kernel
theorem dX11_sumHere_66 : decode cX11_sumHere 66 = .ok (.iload_n 1, 1) := by decide +kernel
theorem dX11_sumHere_67 : decode cX11_sumHere 67 = .ok (.ifCond .le 28, 3) := by decide +kernel
theorem dX11_sumHere_70 : decode cX11_sumHere 70 = .ok (.aload_n 0, 1) := by decide +kernel
theorem dX11_sumHere_71 : decode cX11_sumHere 71 = .ok (.iconst 0, 1) := by decide +kernel
theorem dX11_sumHere_72 : decode cX11_sumHere 72 = .ok (.invokevirtual 261, 3) := by decide +kernel
theorem dX11_sumHere_75 : decode cX11_sumHere 75 = .ok (.aload_n 0, 1) := by decide +kernel
theorem dX11_sumHere_76 : decode cX11_sumHere 76 = .ok (.dup, 1) := by decide +kernel
theorem dX11_sumHere_77 : decode cX11_sumHere 77 = .ok (.getfield 225, 3) := by decide +kernel
theorem dX11_sumHere_80 : decode cX11_sumHere 80 = .ok (.iconst 1, 1) := by decide +kernel
theorem dX11_sumHere_81 : decode cX11_sumHere 81 = .ok (.isub, 1) := by decide +kernel
theorem dX11_sumHere_82 : decode cX11_sumHere 82 = .ok (.putfield 225, 3) := by decide +kernel
theorem dX11_sumHere_85 : decode cX11_sumHere 85 = .ok (.iinc 1 (-1), 3) := by decide +kernel
theorem dX11_sumHere_88 : decode cX11_sumHere 88 = .ok (.aload_n 0, 1) := by decide +kernel
theorem dX11_sumHere_89 : decode cX11_sumHere 89 = .ok (.invokevirtual 172, 3) := by decide +kernel
theorem dX11_sumHere_92 : decode cX11_sumHere 92 = .ok (.goto (-35), 3) := by decide +kernel
theorem dX11_sumHere_95 : decode cX11_sumHere 95 = .ok (.aload_n 0, 1) := by decide +kernel
theorem dX11_sumHere_96 : decode cX11_sumHere 96 = .ok (.bipush 43, 2) := by decide +kernel
theorem dX11_sumHere_98 : decode cX11_sumHere 98 = .ok (.invokevirtual 175, 3) := by decide +kernel
theorem dX11_sumHere_101 : decode cX11_sumHere 101 = .ok (.ifCond .eq 7, 3) := by decide +kernel
theorem dX11_sumHere_104 : decode cX11_sumHere 104 = .ok (.iconst 2, 1) := by decide +kernel
theorem dX11_sumHere_105 : decode cX11_sumHere 105 = .ok (.goto 57, 3) := by decide +kernel
theorem dX11_sumHere_108 : decode cX11_sumHere 108 = .ok (.aload_n 0, 1) := by decide +kernel
theorem dX11_sumHere_109 : decode cX11_sumHere 109 = .ok (.bipush 45, 2) := by decide +kernel
theorem dX11_sumHere_111 : decode cX11_sumHere 111 = .ok (.invokevirtual 175, 3) := by decide +kernel
theorem dX11_sumHere_114 : decode cX11_sumHere 114 = .ok (.ifCond .eq 7, 3) := by decide +kernel
theorem dX11_sumHere_117 : decode cX11_sumHere 117 = .ok (.iconst 3, 1) := by decide +kernel
theorem dX11_sumHere_118 : decode cX11_sumHere 118 = .ok (.goto 44, 3) := by decide +kernel
theorem dX11_sumHere_121 : decode cX11_sumHere 121 = .ok (.aload_n 0, 1) := by decide +kernel
theorem dX11_sumHere_122 : decode cX11_sumHere 122 = .ok (.bipush 42, 2) := by decide +kernel
theorem dX11_sumHere_124 : decode cX11_sumHere 124 = .ok (.invokevirtual 175, 3) := by decide +kernel
theorem dX11_sumHere_127 : decode cX11_sumHere 127 = .ok (.ifCond .eq 7, 3) := by decide +kernel
theorem dX11_sumHere_130 : decode cX11_sumHere 130 = .ok (.iconst 4, 1) := by decide +kernel
theorem dX11_sumHere_131 : decode cX11_sumHere 131 = .ok (.goto 31, 3) := by decide +kernel
theorem dX11_sumHere_134 : decode cX11_sumHere 134 = .ok (.aload_n 0, 1) := by decide +kernel
theorem dX11_sumHere_135 : decode cX11_sumHere 135 = .ok (.bipush 60, 2) := by decide +kernel
theorem dX11_sumHere_137 : decode cX11_sumHere 137 = .ok (.invokevirtual 175, 3) := by decide +kernel
theorem dX11_sumHere_140 : decode cX11_sumHere 140 = .ok (.ifCond .eq 7, 3) := by decide +kernel
theorem dX11_sumHere_143 : decode cX11_sumHere 143 = .ok (.iconst 5, 1) := by decide +kernel
theorem dX11_sumHere_144 : decode cX11_sumHere 144 = .ok (.goto 18, 3) := by decide +kernel
theorem dX11_sumHere_147 : decode cX11_sumHere 147 = .ok (.aload_n 0, 1) := by decide +kernel
theorem dX11_sumHere_148 : decode cX11_sumHere 148 = .ok (.bipush 61, 2) := by decide +kernel
theorem dX11_sumHere_150 : decode cX11_sumHere 150 = .ok (.invokevirtual 175, 3) := by decide +kernel
theorem dX11_sumHere_153 : decode cX11_sumHere 153 = .ok (.ifCond .eq 8, 3) := by decide +kernel
theorem dX11_sumHere_156 : decode cX11_sumHere 156 = .ok (.bipush 6, 2) := by decide +kernel
theorem dX11_sumHere_158 : decode cX11_sumHere 158 = .ok (.goto 4, 3) := by decide +kernel
theorem dX11_sumHere_161 : decode cX11_sumHere 161 = .ok (.iconst (-1), 1) := by decide +kernel
theorem dX11_sumHere_162 : decode cX11_sumHere 162 = .ok (.istore_n 3, 1) := by decide +kernel
theorem dX11_sumHere_163 : decode cX11_sumHere 163 = .ok (.iload_n 3, 1) := by decide +kernel
theorem dX11_sumHere_164 : decode cX11_sumHere 164 = .ok (.iconst 5, 1) := by decide +kernel
theorem dX11_sumHere_165 : decode cX11_sumHere 165 = .ok (.if_icmp .eq 9, 3) := by decide +kernel
theorem dX11_sumHere_168 : decode cX11_sumHere 168 = .ok (.iload_n 3, 1) := by decide +kernel
theorem dX11_sumHere_169 : decode cX11_sumHere 169 = .ok (.bipush 6, 2) := by decide +kernel
theorem dX11_sumHere_171 : decode cX11_sumHere 171 = .ok (.if_icmp .ne 7, 3) := by decide +kernel
theorem dX11_sumHere_174 : decode cX11_sumHere 174 = .ok (.iconst 1, 1) := by decide +kernel
theorem dX11_sumHere_175 : decode cX11_sumHere 175 = .ok (.goto 4, 3) := by decide +kernel
theorem dX11_sumHere_178 : decode cX11_sumHere 178 = .ok (.iconst 0, 1) := by decide +kernel
theorem dX11_sumHere_179 : decode cX11_sumHere 179 = .ok (.istore 4, 2) := by decide +kernel
theorem dX11_sumHere_181 : decode cX11_sumHere 181 = .ok (.iload 4, 2) := by decide +kernel
theorem dX11_sumHere_183 : decode cX11_sumHere 183 = .ok (.ifCond .eq 18, 3) := by decide +kernel
theorem dX11_sumHere_186 : decode cX11_sumHere 186 = .ok (.iload_n 1, 1) := by decide +kernel
theorem dX11_sumHere_187 : decode cX11_sumHere 187 = .ok (.ifCond .eq 12, 3) := by decide +kernel
theorem dX11_sumHere_190 : decode cX11_sumHere 190 = .ok (.aload_n 0, 1) := by decide +kernel
theorem dX11_sumHere_191 : decode cX11_sumHere 191 = .ok (.getfield 91, 3) := by decide +kernel
theorem dX11_sumHere_194 : decode cX11_sumHere 194 = .ok (.iload_n 1, 1) := by decide +kernel
theorem dX11_sumHere_195 : decode cX11_sumHere 195 = .ok (.baload, 1) := by decide +kernel
theorem dX11_sumHere_196 : decode cX11_sumHere 196 = .ok (.ifCond .eq 5, 3) := by decide +kernel
theorem dX11_sumHere_199 : decode cX11_sumHere 199 = .ok (.iconst 0, 1) := by decide +kernel
theorem dX11_sumHere_200 : decode cX11_sumHere 200 = .ok (.ireturn, 1) := by decide +kernel
theorem dX11_sumHere_201 : decode cX11_sumHere 201 = .ok (.iload_n 3, 1) := by decide +kernel
theorem dX11_sumHere_202 : decode cX11_sumHere 202 = .ok (.iconst (-1), 1) := by decide +kernel
theorem dX11_sumHere_203 : decode cX11_sumHere 203 = .ok (.if_icmp .eq 7, 3) := by decide +kernel
theorem dX11_sumHere_206 : decode cX11_sumHere 206 = .ok (.iconst 1, 1) := by decide +kernel
theorem dX11_sumHere_207 : decode cX11_sumHere 207 = .ok (.goto 4, 3) := by decide +kernel
theorem dX11_sumHere_210 : decode cX11_sumHere 210 = .ok (.iconst 0, 1) := by decide +kernel
theorem dX11_sumHere_211 : decode cX11_sumHere 211 = .ok (.istore_n 2, 1) := by decide +kernel
theorem dX11_sumHere_212 : decode cX11_sumHere 212 = .ok (.iload_n 2, 1) := by decide +kernel
theorem dX11_sumHere_213 : decode cX11_sumHere 213 = .ok (.ifCond .ne 6, 3) := by decide +kernel
theorem dX11_sumHere_216 : decode cX11_sumHere 216 = .ok (.goto (-207), 3) := by decide +kernel
theorem dX11_sumHere_219 : decode cX11_sumHere 219 = .ok (.iload 4, 2) := by decide +kernel
theorem dX11_sumHere_221 : decode cX11_sumHere 221 = .ok (.ifCond .eq 10, 3) := by decide +kernel
theorem dX11_sumHere_224 : decode cX11_sumHere 224 = .ok (.aload_n 0, 1) := by decide +kernel
theorem dX11_sumHere_225 : decode cX11_sumHere 225 = .ok (.getfield 91, 3) := by decide +kernel
theorem dX11_sumHere_228 : decode cX11_sumHere 228 = .ok (.iload_n 1, 1) := by decide +kernel
theorem dX11_sumHere_229 : decode cX11_sumHere 229 = .ok (.iconst 1, 1) := by decide +kernel
theorem dX11_sumHere_230 : decode cX11_sumHere 230 = .ok (.bastore, 1) := by decide +kernel
theorem dX11_sumHere_231 : decode cX11_sumHere 231 = .ok (.aload_n 0, 1) := by decide +kernel
theorem dX11_sumHere_232 : decode cX11_sumHere 232 = .ok (.iload 4, 2) := by decide +kernel
theorem dX11_sumHere_234 : decode cX11_sumHere 234 = .ok (.ifCond .eq 7, 3) := by decide +kernel
theorem dX11_sumHere_237 : decode cX11_sumHere 237 = .ok (.iconst 1, 1) := by decide +kernel
theorem dX11_sumHere_238 : decode cX11_sumHere 238 = .ok (.goto 7, 3) := by decide +kernel
theorem dX11_sumHere_241 : decode cX11_sumHere 241 = .ok (.iload_n 3, 1) := by decide +kernel
theorem dX11_sumHere_242 : decode cX11_sumHere 242 = .ok (.invokestatic 228, 3) := by decide +kernel
theorem dX11_sumHere_245 : decode cX11_sumHere 245 = .ok (.invokevirtual 261, 3) := by decide +kernel
theorem dX11_sumHere_248 : decode cX11_sumHere 248 = .ok (.aload_n 0, 1) := by decide +kernel
theorem dX11_sumHere_249 : decode cX11_sumHere 249 = .ok (.iload_n 3, 1) := by decide +kernel
theorem dX11_sumHere_250 : decode cX11_sumHere 250 = .ok (.invokevirtual 254, 3) := by decide +kernel
theorem dX11_sumHere_253 : decode cX11_sumHere 253 = .ok (.goto (-244), 3) := by decide +kernel
theorem dX11_sumHere_256 : decode cX11_sumHere 256 = .ok (.iload_n 1, 1) := by decide +kernel
theorem dX11_sumHere_257 : decode cX11_sumHere 257 = .ok (.ifCond .le 5, 3) := by decide +kernel
theorem dX11_sumHere_260 : decode cX11_sumHere 260 = .ok (.iconst 0, 1) := by decide +kernel
theorem dX11_sumHere_261 : decode cX11_sumHere 261 = .ok (.ireturn, 1) := by decide +kernel
theorem dX11_sumHere_262 : decode cX11_sumHere 262 = .ok (.aload_n 0, 1) := by decide +kernel
theorem dX11_sumHere_263 : decode cX11_sumHere 263 = .ok (.iconst 0, 1) := by decide +kernel
theorem dX11_sumHere_264 : decode cX11_sumHere 264 = .ok (.invokevirtual 261, 3) := by decide +kernel
theorem dX11_sumHere_267 : decode cX11_sumHere 267 = .ok (.iconst 1, 1) := by decide +kernel
theorem dX11_sumHere_268 : decode cX11_sumHere 268 = .ok (.ireturn, 1) := by decide +kernel
theorem dX11_lawLine_0 : decode cX11_lawLine 0 = .ok (.aload_n 0, 1) := by decide +kernel
theorem dX11_lawLine_1 : decode cX11_lawLine 1 = .ok (.ldc_w 264, 3) := by decide +kernel
theorem dX11_lawLine_4 : decode cX11_lawLine 4 = .ok (.invokevirtual 194, 3) := by decide +kernel
theorem dX11_lawLine_7 : decode cX11_lawLine 7 = .ok (.ifCond .eq 11, 3) := by decide +kernel
theorem dX11_lawLine_10 : decode cX11_lawLine 10 = .ok (.aload_n 0, 1) := by decide +kernel
theorem dX11_lawLine_11 : decode cX11_lawLine 11 = .ok (.getfield 266, 3) := by decide +kernel
theorem dX11_lawLine_14 : decode cX11_lawLine 14 = .ok (.iconst 5, 1) := by decide +kernel
theorem dX11_lawLine_15 : decode cX11_lawLine 15 = .ok (.if_icmp .ne 5, 3) := by decide +kernel
theorem dX11_lawLine_18 : decode cX11_lawLine 18 = .ok (.iconst 0, 1) := by decide +kernel
theorem dX11_lawLine_19 : decode cX11_lawLine 19 = .ok (.ireturn, 1) := by decide +kernel
theorem dX11_lawLine_20 : decode cX11_lawLine 20 = .ok (.aload_n 0, 1) := by decide +kernel
theorem dX11_lawLine_21 : decode cX11_lawLine 21 = .ok (.invokevirtual 172, 3) := by decide +kernel
theorem dX11_lawLine_24 : decode cX11_lawLine 24 = .ok (.aload_n 0, 1) := by decide +kernel
theorem dX11_lawLine_25 : decode cX11_lawLine 25 = .ok (.ldc_w 269, 3) := by decide +kernel
theorem dX11_lawLine_28 : decode cX11_lawLine 28 = .ok (.invokevirtual 194, 3) := by decide +kernel
theorem dX11_lawLine_31 : decode cX11_lawLine 31 = .ok (.ifCond .ne 15, 3) := by decide +kernel
theorem dX11_lawLine_34 : decode cX11_lawLine 34 = .ok (.aload_n 0, 1) := by decide +kernel
theorem dX11_lawLine_35 : decode cX11_lawLine 35 = .ok (.ldc_w 271, 3) := by decide +kernel
theorem dX11_lawLine_38 : decode cX11_lawLine 38 = .ok (.invokevirtual 194, 3) := by decide +kernel
theorem dX11_lawLine_41 : decode cX11_lawLine 41 = .ok (.ifCond .ne 5, 3) := by decide +kernel
theorem dX11_lawLine_44 : decode cX11_lawLine 44 = .ok (.iconst 0, 1) := by decide +kernel
theorem dX11_lawLine_45 : decode cX11_lawLine 45 = .ok (.ireturn, 1) := by decide +kernel
theorem dX11_lawLine_46 : decode cX11_lawLine 46 = .ok (.aload_n 0, 1) := by decide +kernel
theorem dX11_lawLine_47 : decode cX11_lawLine 47 = .ok (.getfield 39, 3) := by decide +kernel
theorem dX11_lawLine_50 : decode cX11_lawLine 50 = .ok (.aload_n 0, 1) := by decide +kernel
theorem dX11_lawLine_51 : decode cX11_lawLine 51 = .ok (.getfield 266, 3) := by decide +kernel
theorem dX11_lawLine_54 : decode cX11_lawLine 54 = .ok (.aload_n 0, 1) := by decide +kernel
theorem dX11_lawLine_55 : decode cX11_lawLine 55 = .ok (.ldc_w 271, 3) := by decide +kernel
theorem dX11_lawLine_58 : decode cX11_lawLine 58 = .ok (.invokevirtual 194, 3) := by decide +kernel
theorem dX11_lawLine_61 : decode cX11_lawLine 61 = .ok (.bastore, 1) := by decide +kernel
theorem dX11_lawLine_62 : decode cX11_lawLine 62 = .ok (.aload_n 0, 1) := by decide +kernel
theorem dX11_lawLine_63 : decode cX11_lawLine 63 = .ok (.getfield 36, 3) := by decide +kernel
theorem dX11_lawLine_66 : decode cX11_lawLine 66 = .ok (.aload_n 0, 1) := by decide +kernel
theorem dX11_lawLine_67 : decode cX11_lawLine 67 = .ok (.getfield 266, 3) := by decide +kernel
theorem dX11_lawLine_70 : decode cX11_lawLine 70 = .ok (.aload_n 0, 1) := by decide +kernel
theorem dX11_lawLine_71 : decode cX11_lawLine 71 = .ok (.getfield 222, 3) := by decide +kernel
theorem dX11_lawLine_74 : decode cX11_lawLine 74 = .ok (.iastore, 1) := by decide +kernel
theorem dX11_lawLine_75 : decode cX11_lawLine 75 = .ok (.aload_n 0, 1) := by decide +kernel
theorem dX11_lawLine_76 : decode cX11_lawLine 76 = .ok (.invokevirtual 172, 3) := by decide +kernel
theorem dX11_lawLine_79 : decode cX11_lawLine 79 = .ok (.aload_n 0, 1) := by decide +kernel
theorem dX11_lawLine_80 : decode cX11_lawLine 80 = .ok (.invokevirtual 272, 3) := by decide +kernel
theorem dX11_lawLine_83 : decode cX11_lawLine 83 = .ok (.ifCond .ne 5, 3) := by decide +kernel
theorem dX11_lawLine_86 : decode cX11_lawLine 86 = .ok (.iconst 0, 1) := by decide +kernel
theorem dX11_lawLine_87 : decode cX11_lawLine 87 = .ok (.ireturn, 1) := by decide +kernel
theorem dX11_lawLine_88 : decode cX11_lawLine 88 = .ok (.aload_n 0, 1) := by decide +kernel
theorem dX11_lawLine_89 : decode cX11_lawLine 89 = .ok (.dup, 1) := by decide +kernel
theorem dX11_lawLine_90 : decode cX11_lawLine 90 = .ok (.getfield 266, 3) := by decide +kernel
theorem dX11_lawLine_93 : decode cX11_lawLine 93 = .ok (.iconst 1, 1) := by decide +kernel
theorem dX11_lawLine_94 : decode cX11_lawLine 94 = .ok (.iadd, 1) := by decide +kernel
theorem dX11_lawLine_95 : decode cX11_lawLine 95 = .ok (.putfield 266, 3) := by decide +kernel
theorem dX11_lawLine_98 : decode cX11_lawLine 98 = .ok (.aload_n 0, 1) := by decide +kernel
theorem dX11_lawLine_99 : decode cX11_lawLine 99 = .ok (.getfield 36, 3) := by decide +kernel
theorem dX11_lawLine_102 : decode cX11_lawLine 102 = .ok (.aload_n 0, 1) := by decide +kernel
theorem dX11_lawLine_103 : decode cX11_lawLine 103 = .ok (.getfield 266, 3) := by decide +kernel
theorem dX11_lawLine_106 : decode cX11_lawLine 106 = .ok (.aload_n 0, 1) := by decide +kernel
theorem dX11_lawLine_107 : decode cX11_lawLine 107 = .ok (.getfield 222, 3) := by decide +kernel
theorem dX11_lawLine_110 : decode cX11_lawLine 110 = .ok (.iastore, 1) := by decide +kernel
theorem dX11_lawLine_111 : decode cX11_lawLine 111 = .ok (.aload_n 0, 1) := by decide +kernel
theorem dX11_lawLine_112 : decode cX11_lawLine 112 = .ok (.invokevirtual 185, 3) := by decide +kernel
theorem dX11_lawLine_115 : decode cX11_lawLine 115 = .ok (.ireturn, 1) := by decide +kernel
theorem dX11_lawsFault_0 : decode cX11_lawsFault 0 = .ok (.aload_n 0, 1) := by decide +kernel
theorem dX11_lawsFault_1 : decode cX11_lawsFault 1 = .ok (.iconst 0, 1) := by decide +kernel
theorem dX11_lawsFault_2 : decode cX11_lawsFault 2 = .ok (.putfield 266, 3) := by decide +kernel
theorem dX11_lawsFault_5 : decode cX11_lawsFault 5 = .ok (.aload_n 0, 1) := by decide +kernel
theorem dX11_lawsFault_6 : decode cX11_lawsFault 6 = .ok (.iconst 0, 1) := by decide +kernel
theorem dX11_lawsFault_7 : decode cX11_lawsFault 7 = .ok (.putfield 222, 3) := by decide +kernel
theorem dX11_lawsFault_10 : decode cX11_lawsFault 10 = .ok (.aload_n 0, 1) := by decide +kernel
theorem dX11_lawsFault_11 : decode cX11_lawsFault 11 = .ok (.iconst 0, 1) := by decide +kernel
theorem dX11_lawsFault_12 : decode cX11_lawsFault 12 = .ok (.putfield 126, 3) := by decide +kernel
theorem dX11_lawsFault_15 : decode cX11_lawsFault 15 = .ok (.aload_n 0, 1) := by decide +kernel
theorem dX11_lawsFault_16 : decode cX11_lawsFault 16 = .ok (.invokevirtual 172, 3) := by decide +kernel
theorem dX11_lawsFault_19 : decode cX11_lawsFault 19 = .ok (.aload_n 0, 1) := by decide +kernel
theorem dX11_lawsFault_20 : decode cX11_lawsFault 20 = .ok (.getfield 136, 3) := by decide +kernel
theorem dX11_lawsFault_23 : decode cX11_lawsFault 23 = .ok (.ifCond .eq 15, 3) := by decide +kernel
theorem dX11_lawsFault_26 : decode cX11_lawsFault 26 = .ok (.aload_n 0, 1) := by decide +kernel
theorem dX11_lawsFault_27 : decode cX11_lawsFault 27 = .ok (.invokevirtual 275, 3) := by decide +kernel
theorem dX11_lawsFault_30 : decode cX11_lawsFault 30 = .ok (.ifCond .ne (-11), 3) := by decide +kernel
theorem dX11_lawsFault_33 : decode cX11_lawsFault 33 = .ok (.aload_n 0, 1) := by decide +kernel
theorem dX11_lawsFault_34 : decode cX11_lawsFault 34 = .ok (.getfield 129, 3) := by decide +kernel
theorem dX11_lawsFault_37 : decode cX11_lawsFault 37 = .ok (.ireturn, 1) := by decide +kernel
theorem dX11_lawsFault_38 : decode cX11_lawsFault 38 = .ok (.aload_n 0, 1) := by decide +kernel
theorem dX11_lawsFault_39 : decode cX11_lawsFault 39 = .ok (.getfield 266, 3) := by decide +kernel
theorem dX11_lawsFault_42 : decode cX11_lawsFault 42 = .ok (.ifCond .ne 10, 3) := by decide +kernel
theorem dX11_lawsFault_45 : decode cX11_lawsFault 45 = .ok (.aload_n 0, 1) := by decide +kernel
theorem dX11_lawsFault_46 : decode cX11_lawsFault 46 = .ok (.getfield 129, 3) := by decide +kernel
theorem dX11_lawsFault_49 : decode cX11_lawsFault 49 = .ok (.goto 4, 3) := by decide +kernel
theorem dX11_lawsFault_52 : decode cX11_lawsFault 52 = .ok (.iconst (-1), 1) := by decide +kernel
theorem dX11_lawsFault_53 : decode cX11_lawsFault 53 = .ok (.ireturn, 1) := by decide +kernel
theorem dX11_fault_0 : decode cX11_fault 0 = .ok (.iload_n 1, 1) := by decide +kernel
theorem dX11_fault_1 : decode cX11_fault 1 = .ok (.ifCond .ne 10, 3) := by decide +kernel
theorem dX11_fault_4 : decode cX11_fault 4 = .ok (.aload_n 0, 1) := by decide +kernel
theorem dX11_fault_5 : decode cX11_fault 5 = .ok (.invokevirtual 278, 3) := by decide +kernel
theorem dX11_fault_8 : decode cX11_fault 8 = .ok (.goto 18, 3) := by decide +kernel
theorem dX11_fault_11 : decode cX11_fault 11 = .ok (.iload_n 1, 1) := by decide +kernel
theorem dX11_fault_12 : decode cX11_fault 12 = .ok (.iconst 1, 1) := by decide +kernel
theorem dX11_fault_13 : decode cX11_fault 13 = .ok (.if_icmp .ne 10, 3) := by decide +kernel
theorem dX11_fault_16 : decode cX11_fault 16 = .ok (.aload_n 0, 1) := by decide +kernel
theorem dX11_fault_17 : decode cX11_fault 17 = .ok (.invokevirtual 281, 3) := by decide +kernel
theorem dX11_fault_20 : decode cX11_fault 20 = .ok (.goto 6, 3) := by decide +kernel
theorem dX11_fault_23 : decode cX11_fault 23 = .ok (.ldc_w 284, 3) := by decide +kernel
theorem dX11_fault_26 : decode cX11_fault 26 = .ok (.ireturn, 1) := by decide +kernel
theorem dX11_laws_0 : decode cX11_laws 0 = .ok (.aload_n 0, 1) := by decide +kernel
theorem dX11_laws_1 : decode cX11_laws 1 = .ok (.invokevirtual 281, 3) := by decide +kernel
theorem dX11_laws_4 : decode cX11_laws 4 = .ok (.iconst (-1), 1) := by decide +kernel
theorem dX11_laws_5 : decode cX11_laws 5 = .ok (.if_icmp .eq 5, 3) := by decide +kernel
theorem dX11_laws_8 : decode cX11_laws 8 = .ok (.iconst (-1), 1) := by decide +kernel
theorem dX11_laws_9 : decode cX11_laws 9 = .ok (.ireturn, 1) := by decide +kernel
theorem dX11_laws_10 : decode cX11_laws 10 = .ok (.aload_n 0, 1) := by decide +kernel
theorem dX11_laws_11 : decode cX11_laws 11 = .ok (.aload_n 0, 1) := by decide +kernel
theorem dX11_laws_12 : decode cX11_laws 12 = .ok (.getfield 266, 3) := by decide +kernel
theorem dX11_laws_15 : decode cX11_laws 15 = .ok (.putfield 285, 3) := by decide +kernel
theorem dX11_laws_18 : decode cX11_laws 18 = .ok (.iconst 0, 1) := by decide +kernel
theorem dX11_laws_19 : decode cX11_laws 19 = .ok (.istore_n 1, 1) := by decide +kernel
theorem dX11_laws_20 : decode cX11_laws 20 = .ok (.iload_n 1, 1) := by decide +kernel
theorem dX11_laws_21 : decode cX11_laws 21 = .ok (.iconst 2, 1) := by decide +kernel
theorem dX11_laws_22 : decode cX11_laws 22 = .ok (.aload_n 0, 1) := by decide +kernel
theorem dX11_laws_23 : decode cX11_laws 23 = .ok (.getfield 222, 3) := by decide +kernel
theorem dX11_laws_26 : decode cX11_laws 26 = .ok (.imul, 1) := by decide +kernel
theorem dX11_laws_27 : decode cX11_laws 27 = .ok (.if_icmp .ge 21, 3) := by decide +kernel
theorem dX11_laws_30 : decode cX11_laws 30 = .ok (.aload_n 0, 1) := by decide +kernel
theorem dX11_laws_31 : decode cX11_laws 31 = .ok (.getfield 43, 3) := by decide +kernel
theorem dX11_laws_34 : decode cX11_laws 34 = .ok (.iload_n 1, 1) := by decide +kernel
theorem dX11_laws_35 : decode cX11_laws 35 = .ok (.aload_n 0, 1) := by decide +kernel
theorem dX11_laws_36 : decode cX11_laws 36 = .ok (.getfield 33, 3) := by decide +kernel
theorem dX11_laws_39 : decode cX11_laws 39 = .ok (.iload_n 1, 1) := by decide +kernel
theorem dX11_laws_40 : decode cX11_laws 40 = .ok (.iaload, 1) := by decide +kernel
theorem dX11_laws_41 : decode cX11_laws 41 = .ok (.iastore, 1) := by decide +kernel
theorem dX11_laws_42 : decode cX11_laws 42 = .ok (.iinc 1 1, 3) := by decide +kernel
theorem dX11_laws_45 : decode cX11_laws 45 = .ok (.goto (-25), 3) := by decide +kernel
theorem dX11_laws_48 : decode cX11_laws 48 = .ok (.iconst 0, 1) := by decide +kernel
theorem dX11_laws_49 : decode cX11_laws 49 = .ok (.istore_n 1, 1) := by decide +kernel
theorem dX11_laws_50 : decode cX11_laws 50 = .ok (.iload_n 1, 1) := by decide +kernel
theorem dX11_laws_51 : decode cX11_laws 51 = .ok (.iconst 5, 1) := by decide +kernel
theorem dX11_laws_52 : decode cX11_laws 52 = .ok (.if_icmp .gt 21, 3) := by decide +kernel
theorem dX11_laws_55 : decode cX11_laws 55 = .ok (.aload_n 0, 1) := by decide +kernel
theorem dX11_laws_56 : decode cX11_laws 56 = .ok (.getfield 46, 3) := by decide +kernel
theorem dX11_laws_59 : decode cX11_laws 59 = .ok (.iload_n 1, 1) := by decide +kernel
theorem dX11_laws_60 : decode cX11_laws 60 = .ok (.aload_n 0, 1) := by decide +kernel
theorem dX11_laws_61 : decode cX11_laws 61 = .ok (.getfield 36, 3) := by decide +kernel
theorem dX11_laws_64 : decode cX11_laws 64 = .ok (.iload_n 1, 1) := by decide +kernel
theorem dX11_laws_65 : decode cX11_laws 65 = .ok (.iaload, 1) := by decide +kernel
theorem dX11_laws_66 : decode cX11_laws 66 = .ok (.iastore, 1) := by decide +kernel
theorem dX11_laws_67 : decode cX11_laws 67 = .ok (.iinc 1 1, 3) := by decide +kernel
theorem dX11_laws_70 : decode cX11_laws 70 = .ok (.goto (-20), 3) := by decide +kernel
theorem dX11_laws_73 : decode cX11_laws 73 = .ok (.iconst 0, 1) := by decide +kernel
theorem dX11_laws_74 : decode cX11_laws 74 = .ok (.istore_n 1, 1) := by decide +kernel
theorem dX11_laws_75 : decode cX11_laws 75 = .ok (.iload_n 1, 1) := by decide +kernel
theorem dX11_laws_76 : decode cX11_laws 76 = .ok (.iconst 5, 1) := by decide +kernel
theorem dX11_laws_77 : decode cX11_laws 77 = .ok (.if_icmp .ge 21, 3) := by decide +kernel
theorem dX11_laws_80 : decode cX11_laws 80 = .ok (.aload_n 0, 1) := by decide +kernel
theorem dX11_laws_81 : decode cX11_laws 81 = .ok (.getfield 49, 3) := by decide +kernel
theorem dX11_laws_84 : decode cX11_laws 84 = .ok (.iload_n 1, 1) := by decide +kernel
theorem dX11_laws_85 : decode cX11_laws 85 = .ok (.aload_n 0, 1) := by decide +kernel
theorem dX11_laws_86 : decode cX11_laws 86 = .ok (.getfield 39, 3) := by decide +kernel
theorem dX11_laws_89 : decode cX11_laws 89 = .ok (.iload_n 1, 1) := by decide +kernel
theorem dX11_laws_90 : decode cX11_laws 90 = .ok (.baload, 1) := by decide +kernel
theorem dX11_laws_91 : decode cX11_laws 91 = .ok (.bastore, 1) := by decide +kernel
theorem dX11_laws_92 : decode cX11_laws 92 = .ok (.iinc 1 1, 3) := by decide +kernel
theorem dX11_laws_95 : decode cX11_laws 95 = .ok (.goto (-20), 3) := by decide +kernel
theorem dX11_laws_98 : decode cX11_laws 98 = .ok (.aload_n 0, 1) := by decide +kernel
theorem dX11_laws_99 : decode cX11_laws 99 = .ok (.iconst 0, 1) := by decide +kernel
theorem dX11_laws_100 : decode cX11_laws 100 = .ok (.putfield 118, 3) := by decide +kernel
theorem dX11_laws_103 : decode cX11_laws 103 = .ok (.aload_n 0, 1) := by decide +kernel
theorem dX11_laws_104 : decode cX11_laws 104 = .ok (.getfield 285, 3) := by decide +kernel
theorem dX11_laws_107 : decode cX11_laws 107 = .ok (.ireturn, 1) := by decide +kernel
theorem dX11_town_0 : decode cX11_town 0 = .ok (.aload_n 0, 1) := by decide +kernel
theorem dX11_town_1 : decode cX11_town 1 = .ok (.invokevirtual 278, 3) := by decide +kernel
theorem dX11_town_4 : decode cX11_town 4 = .ok (.iconst (-1), 1) := by decide +kernel
theorem dX11_town_5 : decode cX11_town 5 = .ok (.if_icmp .eq 5, 3) := by decide +kernel
theorem dX11_town_8 : decode cX11_town 8 = .ok (.iconst (-1), 1) := by decide +kernel
theorem dX11_town_9 : decode cX11_town 9 = .ok (.ireturn, 1) := by decide +kernel
theorem dX11_town_10 : decode cX11_town 10 = .ok (.aload_n 0, 1) := by decide +kernel
theorem dX11_town_11 : decode cX11_town 11 = .ok (.aload_n 0, 1) := by decide +kernel
theorem dX11_town_12 : decode cX11_town 12 = .ok (.getfield 178, 3) := by decide +kernel
theorem dX11_town_15 : decode cX11_town 15 = .ok (.putfield 288, 3) := by decide +kernel
theorem dX11_town_18 : decode cX11_town 18 = .ok (.aload_n 0, 1) := by decide +kernel
theorem dX11_town_19 : decode cX11_town 19 = .ok (.aload_n 0, 1) := by decide +kernel
theorem dX11_town_20 : decode cX11_town 20 = .ok (.getfield 189, 3) := by decide +kernel
theorem dX11_town_23 : decode cX11_town 23 = .ok (.putfield 291, 3) := by decide +kernel
theorem dX11_town_26 : decode cX11_town 26 = .ok (.iconst 0, 1) := by decide +kernel
theorem dX11_town_27 : decode cX11_town 27 = .ok (.istore_n 1, 1) := by decide +kernel
theorem dX11_town_28 : decode cX11_town 28 = .ok (.iload_n 1, 1) := by decide +kernel
theorem dX11_town_29 : decode cX11_town 29 = .ok (.bipush 9, 2) := by decide +kernel
theorem dX11_town_31 : decode cX11_town 31 = .ok (.if_icmp .ge 21, 3) := by decide +kernel
theorem dX11_town_34 : decode cX11_town 34 = .ok (.aload_n 0, 1) := by decide +kernel
theorem dX11_town_35 : decode cX11_town 35 = .ok (.getfield 27, 3) := by decide +kernel
theorem dX11_town_38 : decode cX11_town 38 = .ok (.iload_n 1, 1) := by decide +kernel
theorem dX11_town_39 : decode cX11_town 39 = .ok (.aload_n 0, 1) := by decide +kernel
theorem dX11_town_40 : decode cX11_town 40 = .ok (.getfield 13, 3) := by decide +kernel
theorem dX11_town_43 : decode cX11_town 43 = .ok (.iload_n 1, 1) := by decide +kernel
theorem dX11_town_44 : decode cX11_town 44 = .ok (.iaload, 1) := by decide +kernel
theorem dX11_town_45 : decode cX11_town 45 = .ok (.iastore, 1) := by decide +kernel
theorem dX11_town_46 : decode cX11_town 46 = .ok (.iinc 1 1, 3) := by decide +kernel
theorem dX11_town_49 : decode cX11_town 49 = .ok (.goto (-21), 3) := by decide +kernel
theorem dX11_town_52 : decode cX11_town 52 = .ok (.iconst 0, 1) := by decide +kernel
theorem dX11_town_53 : decode cX11_town 53 = .ok (.istore_n 1, 1) := by decide +kernel
theorem dX11_town_54 : decode cX11_town 54 = .ok (.iload_n 1, 1) := by decide +kernel
theorem dX11_town_55 : decode cX11_town 55 = .ok (.bipush 30, 2) := by decide +kernel
theorem dX11_town_57 : decode cX11_town 57 = .ok (.if_icmp .ge 21, 3) := by decide +kernel
theorem dX11_town_60 : decode cX11_town 60 = .ok (.aload_n 0, 1) := by decide +kernel
theorem dX11_town_61 : decode cX11_town 61 = .ok (.getfield 30, 3) := by decide +kernel
theorem dX11_town_64 : decode cX11_town 64 = .ok (.iload_n 1, 1) := by decide +kernel
theorem dX11_town_65 : decode cX11_town 65 = .ok (.aload_n 0, 1) := by decide +kernel
theorem dX11_town_66 : decode cX11_town 66 = .ok (.getfield 21, 3) := by decide +kernel
theorem dX11_town_69 : decode cX11_town 69 = .ok (.iload_n 1, 1) := by decide +kernel
theorem dX11_town_70 : decode cX11_town 70 = .ok (.iaload, 1) := by decide +kernel
theorem dX11_town_71 : decode cX11_town 71 = .ok (.iastore, 1) := by decide +kernel
theorem dX11_town_72 : decode cX11_town 72 = .ok (.iinc 1 1, 3) := by decide +kernel
theorem dX11_town_75 : decode cX11_town 75 = .ok (.goto (-21), 3) := by decide +kernel
theorem dX11_town_78 : decode cX11_town 78 = .ok (.aload_n 0, 1) := by decide +kernel
theorem dX11_town_79 : decode cX11_town 79 = .ok (.aload_n 0, 1) := by decide +kernel
theorem dX11_town_80 : decode cX11_town 80 = .ok (.getfield 24, 3) := by decide +kernel
theorem dX11_town_83 : decode cX11_town 83 = .ok (.iconst 0, 1) := by decide +kernel
theorem dX11_town_84 : decode cX11_town 84 = .ok (.iaload, 1) := by decide +kernel
theorem dX11_town_85 : decode cX11_town 85 = .ok (.iconst (-1), 1) := by decide +kernel
theorem dX11_town_86 : decode cX11_town 86 = .ok (.if_icmp .ne 8, 3) := by decide +kernel
theorem dX11_town_89 : decode cX11_town 89 = .ok (.bipush 120, 2) := by decide +kernel
theorem dX11_town_91 : decode cX11_town 91 = .ok (.goto 9, 3) := by decide +kernel
theorem dX11_town_94 : decode cX11_town 94 = .ok (.aload_n 0, 1) := by decide +kernel
theorem dX11_town_95 : decode cX11_town 95 = .ok (.getfield 24, 3) := by decide +kernel
theorem dX11_town_98 : decode cX11_town 98 = .ok (.iconst 0, 1) := by decide +kernel
theorem dX11_town_99 : decode cX11_town 99 = .ok (.iaload, 1) := by decide +kernel
theorem dX11_town_100 : decode cX11_town 100 = .ok (.putfield 294, 3) := by decide +kernel
theorem dX11_town_103 : decode cX11_town 103 = .ok (.aload_n 0, 1) := by decide +kernel
theorem dX11_town_104 : decode cX11_town 104 = .ok (.aload_n 0, 1) := by decide +kernel
theorem dX11_town_105 : decode cX11_town 105 = .ok (.getfield 24, 3) := by decide +kernel
theorem dX11_town_108 : decode cX11_town 108 = .ok (.iconst 1, 1) := by decide +kernel
theorem dX11_town_109 : decode cX11_town 109 = .ok (.iaload, 1) := by decide +kernel
theorem dX11_town_110 : decode cX11_town 110 = .ok (.iconst (-1), 1) := by decide +kernel
theorem dX11_town_111 : decode cX11_town 111 = .ok (.if_icmp .ne 7, 3) := by decide +kernel
theorem dX11_town_114 : decode cX11_town 114 = .ok (.iconst 0, 1) := by decide +kernel
theorem dX11_town_115 : decode cX11_town 115 = .ok (.goto 9, 3) := by decide +kernel
theorem dX11_town_118 : decode cX11_town 118 = .ok (.aload_n 0, 1) := by decide +kernel
theorem dX11_town_119 : decode cX11_town 119 = .ok (.getfield 24, 3) := by decide +kernel
theorem dX11_town_122 : decode cX11_town 122 = .ok (.iconst 1, 1) := by decide +kernel
theorem dX11_town_123 : decode cX11_town 123 = .ok (.iaload, 1) := by decide +kernel
theorem dX11_town_124 : decode cX11_town 124 = .ok (.putfield 297, 3) := by decide +kernel
theorem dX11_town_127 : decode cX11_town 127 = .ok (.aload_n 0, 1) := by decide +kernel
theorem dX11_town_128 : decode cX11_town 128 = .ok (.aload_n 0, 1) := by decide +kernel
theorem dX11_town_129 : decode cX11_town 129 = .ok (.getfield 24, 3) := by decide +kernel
theorem dX11_town_132 : decode cX11_town 132 = .ok (.iconst 2, 1) := by decide +kernel
theorem dX11_town_133 : decode cX11_town 133 = .ok (.iaload, 1) := by decide +kernel
theorem dX11_town_134 : decode cX11_town 134 = .ok (.iconst (-1), 1) := by decide +kernel
theorem dX11_town_135 : decode cX11_town 135 = .ok (.if_icmp .ne 7, 3) := by decide +kernel
theorem dX11_town_138 : decode cX11_town 138 = .ok (.iconst 0, 1) := by decide +kernel
theorem dX11_town_139 : decode cX11_town 139 = .ok (.goto 9, 3) := by decide +kernel
theorem dX11_town_142 : decode cX11_town 142 = .ok (.aload_n 0, 1) := by decide +kernel
theorem dX11_town_143 : decode cX11_town 143 = .ok (.getfield 24, 3) := by decide +kernel
theorem dX11_town_146 : decode cX11_town 146 = .ok (.iconst 2, 1) := by decide +kernel
theorem dX11_town_147 : decode cX11_town 147 = .ok (.iaload, 1) := by decide +kernel
theorem dX11_town_148 : decode cX11_town 148 = .ok (.putfield 299, 3) := by decide +kernel
theorem dX11_town_151 : decode cX11_town 151 = .ok (.aload_n 0, 1) := by decide +kernel
theorem dX11_town_152 : decode cX11_town 152 = .ok (.iconst 0, 1) := by decide +kernel
theorem dX11_town_153 : decode cX11_town 153 = .ok (.putfield 301, 3) := by decide +kernel
theorem dX11_town_156 : decode cX11_town 156 = .ok (.iconst 0, 1) := by decide +kernel
theorem dX11_town_157 : decode cX11_town 157 = .ok (.istore_n 1, 1) := by decide +kernel
theorem dX11_town_158 : decode cX11_town 158 = .ok (.iload_n 1, 1) := by decide +kernel
theorem dX11_town_159 : decode cX11_town 159 = .ok (.iconst 3, 1) := by decide +kernel
theorem dX11_town_160 : decode cX11_town 160 = .ok (.if_icmp .ge 39, 3) := by decide +kernel
theorem dX11_town_163 : decode cX11_town 163 = .ok (.aload_n 0, 1) := by decide +kernel
theorem dX11_town_164 : decode cX11_town 164 = .ok (.getfield 52, 3) := by decide +kernel
theorem dX11_town_167 : decode cX11_town 167 = .ok (.iload_n 1, 1) := by decide +kernel
theorem dX11_town_168 : decode cX11_town 168 = .ok (.aload_n 0, 1) := by decide +kernel
theorem dX11_town_169 : decode cX11_town 169 = .ok (.getfield 27, 3) := by decide +kernel
theorem dX11_town_172 : decode cX11_town 172 = .ok (.iconst 3, 1) := by decide +kernel
theorem dX11_town_173 : decode cX11_town 173 = .ok (.iload_n 1, 1) := by decide +kernel
theorem dX11_town_174 : decode cX11_town 174 = .ok (.imul, 1) := by decide +kernel
theorem dX11_town_175 : decode cX11_town 175 = .ok (.iconst 2, 1) := by decide +kernel
theorem dX11_town_176 : decode cX11_town 176 = .ok (.iadd, 1) := by decide +kernel
theorem dX11_town_177 : decode cX11_town 177 = .ok (.iaload, 1) := by decide +kernel
theorem dX11_town_178 : decode cX11_town 178 = .ok (.iastore, 1) := by decide +kernel
theorem dX11_town_179 : decode cX11_town 179 = .ok (.aload_n 0, 1) := by decide +kernel
theorem dX11_town_180 : decode cX11_town 180 = .ok (.getfield 55, 3) := by decide +kernel
theorem dX11_town_183 : decode cX11_town 183 = .ok (.iload_n 1, 1) := by decide +kernel
theorem dX11_town_184 : decode cX11_town 184 = .ok (.iconst 0, 1) := by decide +kernel
theorem dX11_town_185 : decode cX11_town 185 = .ok (.iastore, 1) := by decide +kernel
theorem dX11_town_186 : decode cX11_town 186 = .ok (.aload_n 0, 1) := by decide +kernel
theorem dX11_town_187 : decode cX11_town 187 = .ok (.getfield 58, 3) := by decide +kernel
theorem dX11_town_190 : decode cX11_town 190 = .ok (.iload_n 1, 1) := by decide +kernel
theorem dX11_town_191 : decode cX11_town 191 = .ok (.iconst 0, 1) := by decide +kernel
theorem dX11_town_192 : decode cX11_town 192 = .ok (.iastore, 1) := by decide +kernel
theorem dX11_town_193 : decode cX11_town 193 = .ok (.iinc 1 1, 3) := by decide +kernel
theorem dX11_town_196 : decode cX11_town 196 = .ok (.goto (-38), 3) := by decide +kernel
theorem dX11_town_199 : decode cX11_town 199 = .ok (.iconst 0, 1) := by decide +kernel
theorem dX11_town_200 : decode cX11_town 200 = .ok (.istore_n 1, 1) := by decide +kernel
theorem dX11_town_201 : decode cX11_town 201 = .ok (.iload_n 1, 1) := by decide +kernel
theorem dX11_town_202 : decode cX11_town 202 = .ok (.bipush 30, 2) := by decide +kernel
theorem dX11_town_204 : decode cX11_town 204 = .ok (.if_icmp .ge 21, 3) := by decide +kernel
theorem dX11_town_207 : decode cX11_town 207 = .ok (.aload_n 0, 1) := by decide +kernel
theorem dX11_town_208 : decode cX11_town 208 = .ok (.getfield 64, 3) := by decide +kernel
theorem dX11_town_211 : decode cX11_town 211 = .ok (.bipush 7, 2) := by decide +kernel
theorem dX11_town_213 : decode cX11_town 213 = .ok (.iload_n 1, 1) := by decide +kernel
theorem dX11_town_214 : decode cX11_town 214 = .ok (.imul, 1) := by decide +kernel
theorem dX11_town_215 : decode cX11_town 215 = .ok (.iconst 2, 1) := by decide +kernel
theorem dX11_town_216 : decode cX11_town 216 = .ok (.iadd, 1) := by decide +kernel
theorem dX11_town_217 : decode cX11_town 217 = .ok (.iconst (-1), 1) := by decide +kernel
theorem dX11_town_218 : decode cX11_town 218 = .ok (.iastore, 1) := by decide +kernel
theorem dX11_town_219 : decode cX11_town 219 = .ok (.iinc 1 1, 3) := by decide +kernel
theorem dX11_town_222 : decode cX11_town 222 = .ok (.goto (-21), 3) := by decide +kernel
theorem dX11_town_225 : decode cX11_town 225 = .ok (.iconst 0, 1) := by decide +kernel
theorem dX11_town_226 : decode cX11_town 226 = .ok (.istore_n 1, 1) := by decide +kernel
theorem dX11_town_227 : decode cX11_town 227 = .ok (.iload_n 1, 1) := by decide +kernel
theorem dX11_town_228 : decode cX11_town 228 = .ok (.bipush 35, 2) := by decide +kernel
theorem dX11_town_230 : decode cX11_town 230 = .ok (.if_icmp .ge 16, 3) := by decide +kernel
theorem dX11_town_233 : decode cX11_town 233 = .ok (.aload_n 0, 1) := by decide +kernel
theorem dX11_town_234 : decode cX11_town 234 = .ok (.getfield 67, 3) := by decide +kernel
theorem dX11_town_237 : decode cX11_town 237 = .ok (.iload_n 1, 1) := by decide +kernel
theorem dX11_town_238 : decode cX11_town 238 = .ok (.iconst 0, 1) := by decide +kernel
theorem dX11_town_239 : decode cX11_town 239 = .ok (.iastore, 1) := by decide +kernel
theorem dX11_town_240 : decode cX11_town 240 = .ok (.iinc 1 1, 3) := by decide +kernel
theorem dX11_town_243 : decode cX11_town 243 = .ok (.goto (-16), 3) := by decide +kernel
theorem dX11_town_246 : decode cX11_town 246 = .ok (.aload_n 0, 1) := by decide +kernel
theorem dX11_town_247 : decode cX11_town 247 = .ok (.iconst 0, 1) := by decide +kernel
theorem dX11_town_248 : decode cX11_town 248 = .ok (.putfield 303, 3) := by decide +kernel
theorem dX11_town_251 : decode cX11_town 251 = .ok (.aload_n 0, 1) := by decide +kernel
theorem dX11_town_252 : decode cX11_town 252 = .ok (.lconst 0, 1) := by decide +kernel
theorem dX11_town_253 : decode cX11_town 253 = .ok (.putfield 306, 3) := by decide +kernel
theorem dX11_town_256 : decode cX11_town 256 = .ok (.iconst 0, 1) := by decide +kernel
theorem dX11_town_257 : decode cX11_town 257 = .ok (.istore_n 1, 1) := by decide +kernel
theorem dX11_town_258 : decode cX11_town 258 = .ok (.iload_n 1, 1) := by decide +kernel
theorem dX11_town_259 : decode cX11_town 259 = .ok (.iconst 3, 1) := by decide +kernel
theorem dX11_town_260 : decode cX11_town 260 = .ok (.if_icmp .ge 16, 3) := by decide +kernel
theorem dX11_town_263 : decode cX11_town 263 = .ok (.aload_n 0, 1) := by decide +kernel
theorem dX11_town_264 : decode cX11_town 264 = .ok (.getfield 79, 3) := by decide +kernel
theorem dX11_town_267 : decode cX11_town 267 = .ok (.iload_n 1, 1) := by decide +kernel
theorem dX11_town_268 : decode cX11_town 268 = .ok (.iconst 0, 1) := by decide +kernel
theorem dX11_town_269 : decode cX11_town 269 = .ok (.bastore, 1) := by decide +kernel
theorem dX11_town_270 : decode cX11_town 270 = .ok (.iinc 1 1, 3) := by decide +kernel
theorem dX11_town_273 : decode cX11_town 273 = .ok (.goto (-15), 3) := by decide +kernel
theorem dX11_town_276 : decode cX11_town 276 = .ok (.aload_n 0, 1) := by decide +kernel
theorem dX11_town_277 : decode cX11_town 277 = .ok (.iconst 0, 1) := by decide +kernel
theorem dX11_town_278 : decode cX11_town 278 = .ok (.putfield 118, 3) := by decide +kernel
theorem dX11_town_281 : decode cX11_town 281 = .ok (.aload_n 0, 1) := by decide +kernel
theorem dX11_town_282 : decode cX11_town 282 = .ok (.getfield 288, 3) := by decide +kernel
theorem dX11_town_285 : decode cX11_town 285 = .ok (.ireturn, 1) := by decide +kernel
theorem dX11_brought_0 : decode cX11_brought 0 = .ok (.lload_n 0, 1) := by decide +kernel
theorem dX11_brought_1 : decode cX11_brought 1 = .ok (.ldc2_w 309, 3) := by decide +kernel
theorem dX11_brought_4 : decode cX11_brought 4 = .ok (.lcmp, 1) := by decide +kernel
theorem dX11_brought_5 : decode cX11_brought 5 = .ok (.ifCond .ge 9, 3) := by decide +kernel
theorem dX11_brought_8 : decode cX11_brought 8 = .ok (.ldc2_w 309, 3) := by decide +kernel
theorem dX11_brought_11 : decode cX11_brought 11 = .ok (.goto 18, 3) := by decide +kernel
theorem dX11_brought_14 : decode cX11_brought 14 = .ok (.lload_n 0, 1) := by decide +kernel
theorem dX11_brought_15 : decode cX11_brought 15 = .ok (.ldc2_w 311, 3) := by decide +kernel
theorem dX11_brought_18 : decode cX11_brought 18 = .ok (.lcmp, 1) := by decide +kernel
theorem dX11_brought_19 : decode cX11_brought 19 = .ok (.ifCond .le 9, 3) := by decide +kernel
theorem dX11_brought_22 : decode cX11_brought 22 = .ok (.ldc2_w 311, 3) := by decide +kernel
theorem dX11_brought_25 : decode cX11_brought 25 = .ok (.goto 4, 3) := by decide +kernel
theorem dX11_brought_28 : decode cX11_brought 28 = .ok (.lload_n 0, 1) := by decide +kernel
theorem dX11_brought_29 : decode cX11_brought 29 = .ok (.l2i, 1) := by decide +kernel
theorem dX11_brought_30 : decode cX11_brought 30 = .ok (.ireturn, 1) := by decide +kernel
theorem dX11_says_0 : decode cX11_says 0 = .ok (.iconst 0, 1) := by decide +kernel
theorem dX11_says_1 : decode cX11_says 1 = .ok (.istore_n 2, 1) := by decide +kernel
theorem dX11_says_2 : decode cX11_says 2 = .ok (.aload_n 0, 1) := by decide +kernel
theorem dX11_says_3 : decode cX11_says 3 = .ok (.getfield 46, 3) := by decide +kernel
theorem dX11_says_6 : decode cX11_says 6 = .ok (.iload_n 1, 1) := by decide +kernel
theorem dX11_says_7 : decode cX11_says 7 = .ok (.iaload, 1) := by decide +kernel
theorem dX11_says_8 : decode cX11_says 8 = .ok (.istore_n 3, 1) := by decide +kernel
theorem dX11_says_9 : decode cX11_says 9 = .ok (.iload_n 3, 1) := by decide +kernel
theorem dX11_says_10 : decode cX11_says 10 = .ok (.aload_n 0, 1) := by decide +kernel
theorem dX11_says_11 : decode cX11_says 11 = .ok (.getfield 46, 3) := by decide +kernel
theorem dX11_says_14 : decode cX11_says 14 = .ok (.iload_n 1, 1) := by decide +kernel
theorem dX11_says_15 : decode cX11_says 15 = .ok (.iconst 1, 1) := by decide +kernel
theorem dX11_says_16 : decode cX11_says 16 = .ok (.iadd, 1) := by decide +kernel
theorem dX11_says_17 : decode cX11_says 17 = .ok (.iaload, 1) := by decide +kernel
theorem dX11_says_18 : decode cX11_says 18 = .ok (.if_icmp .ge 189, 3) := by decide +kernel
theorem dX11_says_21 : decode cX11_says 21 = .ok (.aload_n 0, 1) := by decide +kernel
theorem dX11_says_22 : decode cX11_says 22 = .ok (.getfield 43, 3) := by decide +kernel
theorem dX11_says_25 : decode cX11_says 25 = .ok (.iconst 2, 1) := by decide +kernel
theorem dX11_says_26 : decode cX11_says 26 = .ok (.iload_n 3, 1) := by decide +kernel
theorem dX11_says_27 : decode cX11_says 27 = .ok (.imul, 1) := by decide +kernel
theorem dX11_says_28 : decode cX11_says 28 = .ok (.iaload, 1) := by decide +kernel
theorem dX11_says_29 : decode cX11_says 29 = .ok (.istore 4, 2) := by decide +kernel
theorem dX11_says_31 : decode cX11_says 31 = .ok (.iload 4, 2) := by decide +kernel
theorem dX11_says_33 : decode cX11_says 33 = .ok (.ifCond .eq 9, 3) := by decide +kernel
theorem dX11_says_36 : decode cX11_says 36 = .ok (.iload 4, 2) := by decide +kernel
theorem dX11_says_38 : decode cX11_says 38 = .ok (.iconst 1, 1) := by decide +kernel
theorem dX11_says_39 : decode cX11_says 39 = .ok (.if_icmp .ne 48, 3) := by decide +kernel
theorem dX11_says_42 : decode cX11_says 42 = .ok (.aload_n 0, 1) := by decide +kernel
theorem dX11_says_43 : decode cX11_says 43 = .ok (.getfield 97, 3) := by decide +kernel
theorem dX11_says_46 : decode cX11_says 46 = .ok (.iload_n 2, 1) := by decide +kernel
theorem dX11_says_47 : decode cX11_says 47 = .ok (.iload 4, 2) := by decide +kernel
theorem dX11_says_49 : decode cX11_says 49 = .ok (.ifCond .ne 16, 3) := by decide +kernel
theorem dX11_says_52 : decode cX11_says 52 = .ok (.aload_n 0, 1) := by decide +kernel
theorem dX11_says_53 : decode cX11_says 53 = .ok (.getfield 43, 3) := by decide +kernel
theorem dX11_says_56 : decode cX11_says 56 = .ok (.iconst 2, 1) := by decide +kernel
theorem dX11_says_57 : decode cX11_says 57 = .ok (.iload_n 3, 1) := by decide +kernel
theorem dX11_says_58 : decode cX11_says 58 = .ok (.imul, 1) := by decide +kernel
theorem dX11_says_59 : decode cX11_says 59 = .ok (.iconst 1, 1) := by decide +kernel
theorem dX11_says_60 : decode cX11_says 60 = .ok (.iadd, 1) := by decide +kernel
theorem dX11_says_61 : decode cX11_says 61 = .ok (.iaload, 1) := by decide +kernel
theorem dX11_says_62 : decode cX11_says 62 = .ok (.goto 18, 3) := by decide +kernel
theorem dX11_says_65 : decode cX11_says 65 = .ok (.aload_n 0, 1) := by decide +kernel
theorem dX11_says_66 : decode cX11_says 66 = .ok (.getfield 94, 3) := by decide +kernel
theorem dX11_says_69 : decode cX11_says 69 = .ok (.aload_n 0, 1) := by decide +kernel
theorem dX11_says_70 : decode cX11_says 70 = .ok (.getfield 43, 3) := by decide +kernel
theorem dX11_says_73 : decode cX11_says 73 = .ok (.iconst 2, 1) := by decide +kernel
theorem dX11_says_74 : decode cX11_says 74 = .ok (.iload_n 3, 1) := by decide +kernel
theorem dX11_says_75 : decode cX11_says 75 = .ok (.imul, 1) := by decide +kernel
theorem dX11_says_76 : decode cX11_says 76 = .ok (.iconst 1, 1) := by decide +kernel
theorem dX11_says_77 : decode cX11_says 77 = .ok (.iadd, 1) := by decide +kernel
theorem dX11_says_78 : decode cX11_says 78 = .ok (.iaload, 1) := by decide +kernel
theorem dX11_says_79 : decode cX11_says 79 = .ok (.iaload, 1) := by decide +kernel
theorem dX11_says_80 : decode cX11_says 80 = .ok (.iastore, 1) := by decide +kernel
theorem dX11_says_81 : decode cX11_says 81 = .ok (.iinc 2 1, 3) := by decide +kernel
theorem dX11_says_84 : decode cX11_says 84 = .ok (.goto 117, 3) := by decide +kernel
theorem dX11_says_87 : decode cX11_says 87 = .ok (.aload_n 0, 1) := by decide +kernel
theorem dX11_says_88 : decode cX11_says 88 = .ok (.getfield 97, 3) := by decide +kernel
theorem dX11_says_91 : decode cX11_says 91 = .ok (.iload_n 2, 1) := by decide +kernel
theorem dX11_says_92 : decode cX11_says 92 = .ok (.iconst 2, 1) := by decide +kernel
theorem dX11_says_93 : decode cX11_says 93 = .ok (.isub, 1) := by decide +kernel
theorem dX11_says_94 : decode cX11_says 94 = .ok (.iaload, 1) := by decide +kernel
theorem dX11_says_95 : decode cX11_says 95 = .ok (.i2l, 1) := by decide +kernel
theorem dX11_says_96 : decode cX11_says 96 = .ok (.lstore 5, 2) := by decide +kernel
theorem dX11_says_98 : decode cX11_says 98 = .ok (.aload_n 0, 1) := by decide +kernel
theorem dX11_says_99 : decode cX11_says 99 = .ok (.getfield 97, 3) := by decide +kernel
theorem dX11_says_102 : decode cX11_says 102 = .ok (.iload_n 2, 1) := by decide +kernel
theorem dX11_says_103 : decode cX11_says 103 = .ok (.iconst 1, 1) := by decide +kernel
theorem dX11_says_104 : decode cX11_says 104 = .ok (.isub, 1) := by decide +kernel
theorem dX11_says_105 : decode cX11_says 105 = .ok (.iaload, 1) := by decide +kernel
theorem dX11_says_106 : decode cX11_says 106 = .ok (.i2l, 1) := by decide +kernel
theorem dX11_says_107 : decode cX11_says 107 = .ok (.lstore 7, 2) := by decide +kernel
theorem dX11_says_109 : decode cX11_says 109 = .ok (.iinc 2 (-1), 3) := by decide +kernel
theorem dX11_says_112 : decode cX11_says 112 = .ok (.aload_n 0, 1) := by decide +kernel
theorem dX11_says_113 : decode cX11_says 113 = .ok (.getfield 97, 3) := by decide +kernel
theorem dX11_says_116 : decode cX11_says 116 = .ok (.iload_n 2, 1) := by decide +kernel
theorem dX11_says_117 : decode cX11_says 117 = .ok (.iconst 1, 1) := by decide +kernel
theorem dX11_says_118 : decode cX11_says 118 = .ok (.isub, 1) := by decide +kernel
theorem dX11_says_119 : decode cX11_says 119 = .ok (.iload 4, 2) := by decide +kernel
theorem dX11_says_121 : decode cX11_says 121 = .ok (.iconst 5, 1) := by decide +kernel
theorem dX11_says_122 : decode cX11_says 122 = .ok (.if_icmp .ne 19, 3) := by decide +kernel
theorem dX11_says_125 : decode cX11_says 125 = .ok (.lload 5, 2) := by decide +kernel
theorem dX11_says_127 : decode cX11_says 127 = .ok (.lload 7, 2) := by decide +kernel
theorem dX11_says_129 : decode cX11_says 129 = .ok (.lcmp, 1) := by decide +kernel
theorem dX11_says_130 : decode cX11_says 130 = .ok (.ifCond .ge 7, 3) := by decide +kernel
theorem dX11_says_133 : decode cX11_says 133 = .ok (.iconst 1, 1) := by decide +kernel
theorem dX11_says_134 : decode cX11_says 134 = .ok (.goto 66, 3) := by decide +kernel
theorem dX11_says_137 : decode cX11_says 137 = .ok (.iconst 0, 1) := by decide +kernel
theorem dX11_says_138 : decode cX11_says 138 = .ok (.goto 62, 3) := by decide +kernel
theorem dX11_says_141 : decode cX11_says 141 = .ok (.iload 4, 2) := by decide +kernel
theorem dX11_says_143 : decode cX11_says 143 = .ok (.bipush 6, 2) := by decide +kernel
theorem dX11_says_145 : decode cX11_says 145 = .ok (.if_icmp .ne 19, 3) := by decide +kernel
theorem dX11_says_148 : decode cX11_says 148 = .ok (.lload 5, 2) := by decide +kernel
theorem dX11_says_150 : decode cX11_says 150 = .ok (.lload 7, 2) := by decide +kernel
theorem dX11_says_152 : decode cX11_says 152 = .ok (.lcmp, 1) := by decide +kernel
theorem dX11_says_153 : decode cX11_says 153 = .ok (.ifCond .ne 7, 3) := by decide +kernel
theorem dX11_says_156 : decode cX11_says 156 = .ok (.iconst 1, 1) := by decide +kernel
theorem dX11_says_157 : decode cX11_says 157 = .ok (.goto 43, 3) := by decide +kernel
theorem dX11_says_160 : decode cX11_says 160 = .ok (.iconst 0, 1) := by decide +kernel
theorem dX11_says_161 : decode cX11_says 161 = .ok (.goto 39, 3) := by decide +kernel
theorem dX11_says_164 : decode cX11_says 164 = .ok (.iload 4, 2) := by decide +kernel
theorem dX11_says_166 : decode cX11_says 166 = .ok (.iconst 2, 1) := by decide +kernel
theorem dX11_says_167 : decode cX11_says 167 = .ok (.if_icmp .ne 11, 3) := by decide +kernel
theorem dX11_says_170 : decode cX11_says 170 = .ok (.lload 5, 2) := by decide +kernel
theorem dX11_says_172 : decode cX11_says 172 = .ok (.lload 7, 2) := by decide +kernel
theorem dX11_says_174 : decode cX11_says 174 = .ok (.ladd, 1) := by decide +kernel
theorem dX11_says_175 : decode cX11_says 175 = .ok (.goto 22, 3) := by decide +kernel
theorem dX11_says_178 : decode cX11_says 178 = .ok (.iload 4, 2) := by decide +kernel
theorem dX11_says_180 : decode cX11_says 180 = .ok (.iconst 3, 1) := by decide +kernel
theorem dX11_says_181 : decode cX11_says 181 = .ok (.if_icmp .ne 11, 3) := by decide +kernel
theorem dX11_says_184 : decode cX11_says 184 = .ok (.lload 5, 2) := by decide +kernel
theorem dX11_says_186 : decode cX11_says 186 = .ok (.lload 7, 2) := by decide +kernel
theorem dX11_says_188 : decode cX11_says 188 = .ok (.lsub, 1) := by decide +kernel
theorem dX11_says_189 : decode cX11_says 189 = .ok (.goto 8, 3) := by decide +kernel
theorem dX11_says_192 : decode cX11_says 192 = .ok (.lload 5, 2) := by decide +kernel
theorem dX11_says_194 : decode cX11_says 194 = .ok (.lload 7, 2) := by decide +kernel
theorem dX11_says_196 : decode cX11_says 196 = .ok (.lmul, 1) := by decide +kernel
theorem dX11_says_197 : decode cX11_says 197 = .ok (.invokestatic 313, 3) := by decide +kernel
theorem dX11_says_200 : decode cX11_says 200 = .ok (.iastore, 1) := by decide +kernel
theorem dX11_says_201 : decode cX11_says 201 = .ok (.iinc 3 1, 3) := by decide +kernel
theorem dX11_says_204 : decode cX11_says 204 = .ok (.goto (-195), 3) := by decide +kernel
theorem dX11_says_207 : decode cX11_says 207 = .ok (.aload_n 0, 1) := by decide +kernel
theorem dX11_says_208 : decode cX11_says 208 = .ok (.getfield 97, 3) := by decide +kernel
theorem dX11_says_211 : decode cX11_says 211 = .ok (.iconst 0, 1) := by decide +kernel
theorem dX11_says_212 : decode cX11_says 212 = .ok (.iaload, 1) := by decide +kernel
theorem dX11_says_213 : decode cX11_says 213 = .ok (.ireturn, 1) := by decide +kernel
theorem dX11_isNext_0 : decode cX11_isNext 0 = .ok (.aload_n 0, 1) := by decide +kernel
theorem dX11_isNext_1 : decode cX11_isNext 1 = .ok (.getfield 49, 3) := by decide +kernel
theorem dX11_isNext_4 : decode cX11_isNext 4 = .ok (.iload_n 1, 1) := by decide +kernel
theorem dX11_isNext_5 : decode cX11_isNext 5 = .ok (.baload, 1) := by decide +kernel
theorem dX11_isNext_6 : decode cX11_isNext 6 = .ok (.ifCond .eq 16, 3) := by decide +kernel
theorem dX11_isNext_9 : decode cX11_isNext 9 = .ok (.iload_n 2, 1) := by decide +kernel
theorem dX11_isNext_10 : decode cX11_isNext 10 = .ok (.iload_n 3, 1) := by decide +kernel
theorem dX11_isNext_11 : decode cX11_isNext 11 = .ok (.if_icmp .lt 7, 3) := by decide +kernel
theorem dX11_isNext_14 : decode cX11_isNext 14 = .ok (.iconst 1, 1) := by decide +kernel
theorem dX11_isNext_15 : decode cX11_isNext 15 = .ok (.goto 17, 3) := by decide +kernel
theorem dX11_isNext_18 : decode cX11_isNext 18 = .ok (.iconst 0, 1) := by decide +kernel
theorem dX11_isNext_19 : decode cX11_isNext 19 = .ok (.goto 13, 3) := by decide +kernel
theorem dX11_isNext_22 : decode cX11_isNext 22 = .ok (.iload_n 2, 1) := by decide +kernel
theorem dX11_isNext_23 : decode cX11_isNext 23 = .ok (.iload_n 3, 1) := by decide +kernel
theorem dX11_isNext_24 : decode cX11_isNext 24 = .ok (.if_icmp .gt 7, 3) := by decide +kernel
theorem dX11_isNext_27 : decode cX11_isNext 27 = .ok (.iconst 1, 1) := by decide +kernel
theorem dX11_isNext_28 : decode cX11_isNext 28 = .ok (.goto 4, 3) := by decide +kernel
theorem dX11_isNext_31 : decode cX11_isNext 31 = .ok (.iconst 0, 1) := by decide +kernel
theorem dX11_isNext_32 : decode cX11_isNext 32 = .ok (.ireturn, 1) := by decide +kernel
theorem dX11_placeBy_0 : decode cX11_placeBy 0 = .ok (.iload_n 0, 1) := by decide +kernel
theorem dX11_placeBy_1 : decode cX11_placeBy 1 = .ok (.ifCond .ne 7, 3) := by decide +kernel
theorem dX11_placeBy_4 : decode cX11_placeBy 4 = .ok (.iconst 0, 1) := by decide +kernel
theorem dX11_placeBy_5 : decode cX11_placeBy 5 = .ok (.goto 17, 3) := by decide +kernel
theorem dX11_placeBy_8 : decode cX11_placeBy 8 = .ok (.iload_n 0, 1) := by decide +kernel
theorem dX11_placeBy_9 : decode cX11_placeBy 9 = .ok (.iconst 2, 1) := by decide +kernel
theorem dX11_placeBy_10 : decode cX11_placeBy 10 = .ok (.if_icmp .ne 9, 3) := by decide +kernel
theorem dX11_placeBy_13 : decode cX11_placeBy 13 = .ok (.iload_n 1, 1) := by decide +kernel
theorem dX11_placeBy_14 : decode cX11_placeBy 14 = .ok (.iconst 2, 1) := by decide +kernel
theorem dX11_placeBy_15 : decode cX11_placeBy 15 = .ok (.idiv, 1) := by decide +kernel
theorem dX11_placeBy_16 : decode cX11_placeBy 16 = .ok (.goto 6, 3) := by decide +kernel
theorem dX11_placeBy_19 : decode cX11_placeBy 19 = .ok (.iload_n 1, 1) := by decide +kernel
theorem dX11_placeBy_20 : decode cX11_placeBy 20 = .ok (.iconst 1, 1) := by decide +kernel
theorem dX11_placeBy_21 : decode cX11_placeBy 21 = .ok (.isub, 1) := by decide +kernel
theorem dX11_placeBy_22 : decode cX11_placeBy 22 = .ok (.ireturn, 1) := by decide +kernel
theorem dX11_isTold_0 : decode cX11_isTold 0 = .ok (.iload_n 1, 1) := by decide +kernel
theorem dX11_isTold_1 : decode cX11_isTold 1 = .ok (.iconst 4, 1) := by decide +kernel
theorem dX11_isTold_2 : decode cX11_isTold 2 = .ok (.if_icmp .lt 17, 3) := by decide +kernel
theorem dX11_isTold_5 : decode cX11_isTold 5 = .ok (.iload_n 1, 1) := by decide +kernel
theorem dX11_isTold_6 : decode cX11_isTold 6 = .ok (.iconst 4, 1) := by decide +kernel
theorem dX11_isTold_7 : decode cX11_isTold 7 = .ok (.isub, 1) := by decide +kernel
theorem dX11_isTold_8 : decode cX11_isTold 8 = .ok (.aload_n 0, 1) := by decide +kernel
theorem dX11_isTold_9 : decode cX11_isTold 9 = .ok (.getfield 285, 3) := by decide +kernel
theorem dX11_isTold_12 : decode cX11_isTold 12 = .ok (.if_icmp .ge 7, 3) := by decide +kernel
theorem dX11_isTold_15 : decode cX11_isTold 15 = .ok (.iconst 1, 1) := by decide +kernel
theorem dX11_isTold_16 : decode cX11_isTold 16 = .ok (.goto 4, 3) := by decide +kernel
theorem dX11_isTold_19 : decode cX11_isTold 19 = .ok (.iconst 0, 1) := by decide +kernel
theorem dX11_isTold_20 : decode cX11_isTold 20 = .ok (.ireturn, 1) := by decide +kernel
theorem dX11_of_0 : decode cX11_of 0 = .ok (.aload_n 0, 1) := by decide +kernel
theorem dX11_of_1 : decode cX11_of 1 = .ok (.getfield 64, 3) := by decide +kernel
theorem dX11_of_4 : decode cX11_of 4 = .ok (.bipush 7, 2) := by decide +kernel
theorem dX11_of_6 : decode cX11_of 6 = .ok (.iload_n 1, 1) := by decide +kernel
theorem dX11_of_7 : decode cX11_of 7 = .ok (.imul, 1) := by decide +kernel
theorem dX11_of_8 : decode cX11_of 8 = .ok (.iload_n 2, 1) := by decide +kernel
theorem dX11_of_9 : decode cX11_of 9 = .ok (.iadd, 1) := by decide +kernel
theorem dX11_of_10 : decode cX11_of 10 = .ok (.iaload, 1) := by decide +kernel
theorem dX11_of_11 : decode cX11_of 11 = .ok (.ireturn, 1) := by decide +kernel
theorem dX11_sets_0 : decode cX11_sets 0 = .ok (.aload_n 0, 1) := by decide +kernel
theorem dX11_sets_1 : decode cX11_sets 1 = .ok (.getfield 64, 3) := by decide +kernel
theorem dX11_sets_4 : decode cX11_sets 4 = .ok (.bipush 7, 2) := by decide +kernel
theorem dX11_sets_6 : decode cX11_sets 6 = .ok (.iload_n 1, 1) := by decide +kernel
theorem dX11_sets_7 : decode cX11_sets 7 = .ok (.imul, 1) := by decide +kernel
theorem dX11_sets_8 : decode cX11_sets 8 = .ok (.iload_n 2, 1) := by decide +kernel
theorem dX11_sets_9 : decode cX11_sets 9 = .ok (.iadd, 1) := by decide +kernel
theorem dX11_sets_10 : decode cX11_sets 10 = .ok (.iload_n 3, 1) := by decide +kernel
theorem dX11_sets_11 : decode cX11_sets 11 = .ok (.iastore, 1) := by decide +kernel
theorem dX11_sets_12 : decode cX11_sets 12 = .ok (.return_, 1) := by decide +kernel
theorem dX11_sortHas_0 : decode cX11_sortHas 0 = .ok (.aload_n 0, 1) := by decide +kernel
theorem dX11_sortHas_1 : decode cX11_sortHas 1 = .ok (.getfield 30, 3) := by decide +kernel
theorem dX11_sortHas_4 : decode cX11_sortHas 4 = .ok (.bipush 6, 2) := by decide +kernel
theorem dX11_sortHas_6 : decode cX11_sortHas 6 = .ok (.iload_n 1, 1) := by decide +kernel
theorem dX11_sortHas_7 : decode cX11_sortHas 7 = .ok (.imul, 1) := by decide +kernel
theorem dX11_sortHas_8 : decode cX11_sortHas 8 = .ok (.iload_n 2, 1) := by decide +kernel
theorem dX11_sortHas_9 : decode cX11_sortHas 9 = .ok (.iadd, 1) := by decide +kernel
theorem dX11_sortHas_10 : decode cX11_sortHas 10 = .ok (.iaload, 1) := by decide +kernel
theorem dX11_sortHas_11 : decode cX11_sortHas 11 = .ok (.ireturn, 1) := by decide +kernel
theorem dX11_tells_0 : decode cX11_tells 0 = .ok (.aload_n 0, 1) := by decide +kernel
theorem dX11_tells_1 : decode cX11_tells 1 = .ok (.getfield 67, 3) := by decide +kernel
theorem dX11_tells_4 : decode cX11_tells 4 = .ok (.bipush 7, 2) := by decide +kernel
theorem dX11_tells_6 : decode cX11_tells 6 = .ok (.iload_n 1, 1) := by decide +kernel
theorem dX11_tells_7 : decode cX11_tells 7 = .ok (.imul, 1) := by decide +kernel
theorem dX11_tells_8 : decode cX11_tells 8 = .ok (.iload_n 2, 1) := by decide +kernel
theorem dX11_tells_9 : decode cX11_tells 9 = .ok (.iadd, 1) := by decide +kernel
theorem dX11_tells_10 : decode cX11_tells 10 = .ok (.dup2, 1) := by decide +kernel
theorem dX11_tells_11 : decode cX11_tells 11 = .ok (.iaload, 1) := by decide +kernel
theorem dX11_tells_12 : decode cX11_tells 12 = .ok (.iload_n 3, 1) := by decide +kernel
theorem dX11_tells_13 : decode cX11_tells 13 = .ok (.iadd, 1) := by decide +kernel
theorem dX11_tells_14 : decode cX11_tells 14 = .ok (.iastore, 1) := by decide +kernel
theorem dX11_tells_15 : decode cX11_tells 15 = .ok (.return_, 1) := by decide +kernel
theorem dX11_isSort_0 : decode cX11_isSort 0 = .ok (.iload_n 1, 1) := by decide +kernel
theorem dX11_isSort_1 : decode cX11_isSort 1 = .ok (.iconst 0, 1) := by decide +kernel
theorem dX11_isSort_2 : decode cX11_isSort 2 = .ok (.aload_n 0, 1) := by decide +kernel
theorem dX11_isSort_3 : decode cX11_isSort 3 = .ok (.getfield 291, 3) := by decide +kernel
theorem dX11_isSort_6 : decode cX11_isSort 6 = .ok (.iconst 1, 1) := by decide +kernel
theorem dX11_isSort_7 : decode cX11_isSort 7 = .ok (.isub, 1) := by decide +kernel
theorem dX11_isSort_8 : decode cX11_isSort 8 = .ok (.invokestatic 122, 3) := by decide +kernel
theorem dX11_isSort_11 : decode cX11_isSort 11 = .ok (.ireturn, 1) := by decide +kernel
theorem dX11_isCounter_0 : decode cX11_isCounter 0 = .ok (.iload_n 1, 1) := by decide +kernel
theorem dX11_isCounter_1 : decode cX11_isCounter 1 = .ok (.iconst 0, 1) := by decide +kernel
theorem dX11_isCounter_2 : decode cX11_isCounter 2 = .ok (.aload_n 0, 1) := by decide +kernel
theorem dX11_isCounter_3 : decode cX11_isCounter 3 = .ok (.getfield 288, 3) := by decide +kernel
theorem dX11_isCounter_6 : decode cX11_isCounter 6 = .ok (.iconst 1, 1) := by decide +kernel
theorem dX11_isCounter_7 : decode cX11_isCounter 7 = .ok (.isub, 1) := by decide +kernel
theorem dX11_isCounter_8 : decode cX11_isCounter 8 = .ok (.invokestatic 122, 3) := by decide +kernel
theorem dX11_isCounter_11 : decode cX11_isCounter 11 = .ok (.ireturn, 1) := by decide +kernel
theorem dX11_isHere_0 : decode cX11_isHere 0 = .ok (.aload_n 0, 1) := by decide +kernel
theorem dX11_isHere_1 : decode cX11_isHere 1 = .ok (.getfield 288, 3) := by decide +kernel
theorem dX11_isHere_4 : decode cX11_isHere 4 = .ok (.ifCond .le 27, 3) := by decide +kernel
theorem dX11_isHere_7 : decode cX11_isHere 7 = .ok (.iload_n 1, 1) := by decide +kernel
theorem dX11_isHere_8 : decode cX11_isHere 8 = .ok (.iconst 0, 1) := by decide +kernel
theorem dX11_isHere_9 : decode cX11_isHere 9 = .ok (.bipush 29, 2) := by decide +kernel
theorem dX11_isHere_11 : decode cX11_isHere 11 = .ok (.invokestatic 122, 3) := by decide +kernel
theorem dX11_isHere_14 : decode cX11_isHere 14 = .ok (.ifCond .eq 17, 3) := by decide +kernel
theorem dX11_isHere_17 : decode cX11_isHere 17 = .ok (.aload_n 0, 1) := by decide +kernel
theorem dX11_isHere_18 : decode cX11_isHere 18 = .ok (.iload_n 1, 1) := by decide +kernel
theorem dX11_isHere_19 : decode cX11_isHere 19 = .ok (.iconst 2, 1) := by decide +kernel
theorem dX11_isHere_20 : decode cX11_isHere 20 = .ok (.invokevirtual 317, 3) := by decide +kernel
theorem dX11_isHere_23 : decode cX11_isHere 23 = .ok (.iconst (-1), 1) := by decide +kernel
theorem dX11_isHere_24 : decode cX11_isHere 24 = .ok (.if_icmp .eq 7, 3) := by decide +kernel
theorem dX11_isHere_27 : decode cX11_isHere 27 = .ok (.iconst 1, 1) := by decide +kernel
theorem dX11_isHere_28 : decode cX11_isHere 28 = .ok (.goto 4, 3) := by decide +kernel
theorem dX11_isHere_31 : decode cX11_isHere 31 = .ok (.iconst 0, 1) := by decide +kernel
theorem dX11_isHere_32 : decode cX11_isHere 32 = .ok (.ireturn, 1) := by decide +kernel
theorem dX11_counter_0 : decode cX11_counter 0 = .ok (.aload_n 0, 1) := by decide +kernel
theorem dX11_counter_1 : decode cX11_counter 1 = .ok (.iload_n 1, 1) := by decide +kernel
theorem dX11_counter_2 : decode cX11_counter 2 = .ok (.invokevirtual 321, 3) := by decide +kernel
theorem dX11_counter_5 : decode cX11_counter 5 = .ok (.ifCond .ne 5, 3) := by decide +kernel
theorem dX11_counter_8 : decode cX11_counter 8 = .ok (.iconst (-1), 1) := by decide +kernel
theorem dX11_counter_9 : decode cX11_counter 9 = .ok (.ireturn, 1) := by decide +kernel
theorem dX11_counter_10 : decode cX11_counter 10 = .ok (.iload_n 2, 1) := by decide +kernel
theorem dX11_counter_11 : decode cX11_counter 11 = .ok (.tableswitch 74 0 4 #[33, 42, 53, 60, 67], 33) := by decide +kernel
theorem dX11_counter_44 : decode cX11_counter 44 = .ok (.aload_n 0, 1) := by decide +kernel
theorem dX11_counter_45 : decode cX11_counter 45 = .ok (.getfield 27, 3) := by decide +kernel
theorem dX11_counter_48 : decode cX11_counter 48 = .ok (.iconst 3, 1) := by decide +kernel
theorem dX11_counter_49 : decode cX11_counter 49 = .ok (.iload_n 1, 1) := by decide +kernel
theorem dX11_counter_50 : decode cX11_counter 50 = .ok (.imul, 1) := by decide +kernel
theorem dX11_counter_51 : decode cX11_counter 51 = .ok (.iaload, 1) := by decide +kernel
theorem dX11_counter_52 : decode cX11_counter 52 = .ok (.ireturn, 1) := by decide +kernel
theorem dX11_counter_53 : decode cX11_counter 53 = .ok (.aload_n 0, 1) := by decide +kernel
theorem dX11_counter_54 : decode cX11_counter 54 = .ok (.getfield 27, 3) := by decide +kernel
theorem dX11_counter_57 : decode cX11_counter 57 = .ok (.iconst 3, 1) := by decide +kernel
theorem dX11_counter_58 : decode cX11_counter 58 = .ok (.iload_n 1, 1) := by decide +kernel
theorem dX11_counter_59 : decode cX11_counter 59 = .ok (.imul, 1) := by decide +kernel
theorem dX11_counter_60 : decode cX11_counter 60 = .ok (.iconst 1, 1) := by decide +kernel
theorem dX11_counter_61 : decode cX11_counter 61 = .ok (.iadd, 1) := by decide +kernel
theorem dX11_counter_62 : decode cX11_counter 62 = .ok (.iaload, 1) := by decide +kernel
theorem dX11_counter_63 : decode cX11_counter 63 = .ok (.ireturn, 1) := by decide +kernel
theorem dX11_counter_64 : decode cX11_counter 64 = .ok (.aload_n 0, 1) := by decide +kernel
theorem dX11_counter_65 : decode cX11_counter 65 = .ok (.getfield 52, 3) := by decide +kernel
theorem dX11_counter_68 : decode cX11_counter 68 = .ok (.iload_n 1, 1) := by decide +kernel
theorem dX11_counter_69 : decode cX11_counter 69 = .ok (.iaload, 1) := by decide +kernel
theorem dX11_counter_70 : decode cX11_counter 70 = .ok (.ireturn, 1) := by decide +kernel
theorem dX11_counter_71 : decode cX11_counter 71 = .ok (.aload_n 0, 1) := by decide +kernel
theorem dX11_counter_72 : decode cX11_counter 72 = .ok (.getfield 58, 3) := by decide +kernel
theorem dX11_counter_75 : decode cX11_counter 75 = .ok (.iload_n 1, 1) := by decide +kernel
theorem dX11_counter_76 : decode cX11_counter 76 = .ok (.iaload, 1) := by decide +kernel
theorem dX11_counter_77 : decode cX11_counter 77 = .ok (.ireturn, 1) := by decide +kernel
theorem dX11_counter_78 : decode cX11_counter 78 = .ok (.aload_n 0, 1) := by decide +kernel
theorem dX11_counter_79 : decode cX11_counter 79 = .ok (.getfield 55, 3) := by decide +kernel
theorem dX11_counter_82 : decode cX11_counter 82 = .ok (.iload_n 1, 1) := by decide +kernel
theorem dX11_counter_83 : decode cX11_counter 83 = .ok (.iaload, 1) := by decide +kernel
theorem dX11_counter_84 : decode cX11_counter 84 = .ok (.ireturn, 1) := by decide +kernel
theorem dX11_counter_85 : decode cX11_counter 85 = .ok (.iconst (-1), 1) := by decide +kernel
theorem dX11_counter_86 : decode cX11_counter 86 = .ok (.ireturn, 1) := by decide +kernel
theorem dX11_unlikeOf_0 : decode cX11_unlikeOf 0 = .ok (.lload_n 0, 1) := by decide +kernel
theorem dX11_unlikeOf_1 : decode cX11_unlikeOf 1 = .ok (.lload_n 2, 1) := by decide +kernel
theorem dX11_unlikeOf_2 : decode cX11_unlikeOf 2 = .ok (.lmul, 1) := by decide +kernel
theorem dX11_unlikeOf_3 : decode cX11_unlikeOf 3 = .ok (.lload 4, 2) := by decide +kernel
theorem dX11_unlikeOf_5 : decode cX11_unlikeOf 5 = .ok (.lload 4, 2) := by decide +kernel
theorem dX11_unlikeOf_7 : decode cX11_unlikeOf 7 = .ok (.lmul, 1) := by decide +kernel
theorem dX11_unlikeOf_8 : decode cX11_unlikeOf 8 = .ok (.lsub, 1) := by decide +kernel
theorem dX11_unlikeOf_9 : decode cX11_unlikeOf 9 = .ok (.lload_n 0, 1) := by decide +kernel
theorem dX11_unlikeOf_10 : decode cX11_unlikeOf 10 = .ok (.lload_n 0, 1) := by decide +kernel
theorem dX11_unlikeOf_11 : decode cX11_unlikeOf 11 = .ok (.lmul, 1) := by decide +kernel
theorem dX11_unlikeOf_12 : decode cX11_unlikeOf 12 = .ok (.ldiv, 1) := by decide +kernel
theorem dX11_unlikeOf_13 : decode cX11_unlikeOf 13 = .ok (.l2i, 1) := by decide +kernel
theorem dX11_unlikeOf_14 : decode cX11_unlikeOf 14 = .ok (.ireturn, 1) := by decide +kernel
theorem dX11_sort_0 : decode cX11_sort 0 = .ok (.aload_n 0, 1) := by decide +kernel
theorem dX11_sort_1 : decode cX11_sort 1 = .ok (.iload_n 1, 1) := by decide +kernel
theorem dX11_sort_2 : decode cX11_sort 2 = .ok (.invokevirtual 324, 3) := by decide +kernel
theorem dX11_sort_5 : decode cX11_sort 5 = .ok (.ifCond .ne 7, 3) := by decide +kernel
theorem dX11_sort_8 : decode cX11_sort 8 = .ok (.ldc_w 284, 3) := by decide +kernel
theorem dX11_sort_11 : decode cX11_sort 11 = .ok (.ireturn, 1) := by decide +kernel
theorem dX11_sort_12 : decode cX11_sort 12 = .ok (.iload_n 2, 1) := by decide +kernel
theorem dX11_sort_13 : decode cX11_sort 13 = .ok (.iconst 0, 1) := by decide +kernel
theorem dX11_sort_14 : decode cX11_sort 14 = .ok (.iconst 5, 1) := by decide +kernel
theorem dX11_sort_15 : decode cX11_sort 15 = .ok (.invokestatic 122, 3) := by decide +kernel
theorem dX11_sort_18 : decode cX11_sort 18 = .ok (.ifCond .eq 10, 3) := by decide +kernel
theorem dX11_sort_21 : decode cX11_sort 21 = .ok (.aload_n 0, 1) := by decide +kernel
theorem dX11_sort_22 : decode cX11_sort 22 = .ok (.iload_n 1, 1) := by decide +kernel
theorem dX11_sort_23 : decode cX11_sort 23 = .ok (.iload_n 2, 1) := by decide +kernel
theorem dX11_sort_24 : decode cX11_sort 24 = .ok (.invokevirtual 327, 3) := by decide +kernel
theorem dX11_sort_27 : decode cX11_sort 27 = .ok (.ireturn, 1) := by decide +kernel
theorem dX11_sort_28 : decode cX11_sort 28 = .ok (.iload_n 2, 1) := by decide +kernel
theorem dX11_sort_29 : decode cX11_sort 29 = .ok (.bipush 10, 2) := by decide +kernel
theorem dX11_sort_31 : decode cX11_sort 31 = .ok (.bipush 16, 2) := by decide +kernel
theorem dX11_sort_33 : decode cX11_sort 33 = .ok (.invokestatic 122, 3) := by decide +kernel
theorem dX11_sort_36 : decode cX11_sort 36 = .ok (.ifCond .eq 18, 3) := by decide +kernel
theorem dX11_sort_39 : decode cX11_sort 39 = .ok (.aload_n 0, 1) := by decide +kernel
theorem dX11_sort_40 : decode cX11_sort 40 = .ok (.getfield 67, 3) := by decide +kernel
theorem dX11_sort_43 : decode cX11_sort 43 = .ok (.bipush 7, 2) := by decide +kernel
theorem dX11_sort_45 : decode cX11_sort 45 = .ok (.iload_n 1, 1) := by decide +kernel
theorem dX11_sort_46 : decode cX11_sort 46 = .ok (.imul, 1) := by decide +kernel
theorem dX11_sort_47 : decode cX11_sort 47 = .ok (.iload_n 2, 1) := by decide +kernel
theorem dX11_sort_48 : decode cX11_sort 48 = .ok (.iadd, 1) := by decide +kernel
theorem dX11_sort_49 : decode cX11_sort 49 = .ok (.bipush 10, 2) := by decide +kernel
theorem dX11_sort_51 : decode cX11_sort 51 = .ok (.isub, 1) := by decide +kernel
theorem dX11_sort_52 : decode cX11_sort 52 = .ok (.iaload, 1) := by decide +kernel
theorem dX11_sort_53 : decode cX11_sort 53 = .ok (.ireturn, 1) := by decide +kernel
theorem dX11_sort_54 : decode cX11_sort 54 = .ok (.aload_n 0, 1) := by decide +kernel
theorem dX11_sort_55 : decode cX11_sort 55 = .ok (.getfield 67, 3) := by decide +kernel
theorem dX11_sort_58 : decode cX11_sort 58 = .ok (.bipush 7, 2) := by decide +kernel
theorem dX11_sort_60 : decode cX11_sort 60 = .ok (.iload_n 1, 1) := by decide +kernel
theorem dX11_sort_61 : decode cX11_sort 61 = .ok (.imul, 1) := by decide +kernel
theorem dX11_sort_62 : decode cX11_sort 62 = .ok (.iconst 1, 1) := by decide +kernel
theorem dX11_sort_63 : decode cX11_sort 63 = .ok (.iadd, 1) := by decide +kernel
theorem dX11_sort_64 : decode cX11_sort 64 = .ok (.iaload, 1) := by decide +kernel
theorem dX11_sort_65 : decode cX11_sort 65 = .ok (.istore_n 3, 1) := by decide +kernel
theorem dX11_sort_66 : decode cX11_sort 66 = .ok (.iload_n 2, 1) := by decide +kernel
theorem dX11_sort_67 : decode cX11_sort 67 = .ok (.bipush 17, 2) := by decide +kernel
theorem dX11_sort_69 : decode cX11_sort 69 = .ok (.if_icmp .ne 7, 3) := by decide +kernel
theorem dX11_sort_72 : decode cX11_sort 72 = .ok (.iload_n 3, 1) := by decide +kernel
theorem dX11_sort_73 : decode cX11_sort 73 = .ok (.ifCond .ne 9, 3) := by decide +kernel
theorem dX11_sort_76 : decode cX11_sort 76 = .ok (.ldc_w 284, 3) := by decide +kernel
theorem dX11_sort_79 : decode cX11_sort 79 = .ok (.goto 32, 3) := by decide +kernel
theorem dX11_sort_82 : decode cX11_sort 82 = .ok (.iload_n 3, 1) := by decide +kernel
theorem dX11_sort_83 : decode cX11_sort 83 = .ok (.i2l, 1) := by decide +kernel
theorem dX11_sort_84 : decode cX11_sort 84 = .ok (.aload_n 0, 1) := by decide +kernel
theorem dX11_sort_85 : decode cX11_sort 85 = .ok (.getfield 67, 3) := by decide +kernel
theorem dX11_sort_88 : decode cX11_sort 88 = .ok (.bipush 7, 2) := by decide +kernel
theorem dX11_sort_90 : decode cX11_sort 90 = .ok (.iload_n 1, 1) := by decide +kernel
theorem dX11_sort_91 : decode cX11_sort 91 = .ok (.imul, 1) := by decide +kernel
theorem dX11_sort_92 : decode cX11_sort 92 = .ok (.iconst 4, 1) := by decide +kernel
theorem dX11_sort_93 : decode cX11_sort 93 = .ok (.iadd, 1) := by decide +kernel
theorem dX11_sort_94 : decode cX11_sort 94 = .ok (.iaload, 1) := by decide +kernel
theorem dX11_sort_95 : decode cX11_sort 95 = .ok (.i2l, 1) := by decide +kernel
theorem dX11_sort_96 : decode cX11_sort 96 = .ok (.aload_n 0, 1) := by decide +kernel
theorem dX11_sort_97 : decode cX11_sort 97 = .ok (.getfield 67, 3) := by decide +kernel
theorem dX11_sort_100 : decode cX11_sort 100 = .ok (.bipush 7, 2) := by decide +kernel
theorem dX11_sort_102 : decode cX11_sort 102 = .ok (.iload_n 1, 1) := by decide +kernel
theorem dX11_sort_103 : decode cX11_sort 103 = .ok (.imul, 1) := by decide +kernel
theorem dX11_sort_104 : decode cX11_sort 104 = .ok (.iconst 3, 1) := by decide +kernel
theorem dX11_sort_105 : decode cX11_sort 105 = .ok (.iadd, 1) := by decide +kernel
theorem dX11_sort_106 : decode cX11_sort 106 = .ok (.iaload, 1) := by decide +kernel
theorem dX11_sort_107 : decode cX11_sort 107 = .ok (.i2l, 1) := by decide +kernel
theorem dX11_sort_108 : decode cX11_sort 108 = .ok (.invokestatic 330, 3) := by decide +kernel
theorem dX11_sort_111 : decode cX11_sort 111 = .ok (.ireturn, 1) := by decide +kernel
theorem dX11_seed_0 : decode cX11_seed 0 = .ok (.iload_n 1, 1) := by decide +kernel
theorem dX11_seed_1 : decode cX11_seed 1 = .ok (.iconst 0, 1) := by decide +kernel
theorem dX11_seed_2 : decode cX11_seed 2 = .ok (.ldc_w 334, 3) := by decide +kernel
theorem dX11_seed_5 : decode cX11_seed 5 = .ok (.invokestatic 122, 3) := by decide +kernel
theorem dX11_seed_8 : decode cX11_seed 8 = .ok (.ifCond .ne 5, 3) := by decide +kernel
theorem dX11_seed_11 : decode cX11_seed 11 = .ok (.iconst 0, 1) := by decide +kernel
theorem dX11_seed_12 : decode cX11_seed 12 = .ok (.ireturn, 1) := by decide +kernel
theorem dX11_seed_13 : decode cX11_seed 13 = .ok (.aload_n 0, 1) := by decide +kernel
theorem dX11_seed_14 : decode cX11_seed 14 = .ok (.iload_n 1, 1) := by decide +kernel
theorem dX11_seed_15 : decode cX11_seed 15 = .ok (.i2l, 1) := by decide +kernel
theorem dX11_seed_16 : decode cX11_seed 16 = .ok (.putfield 306, 3) := by decide +kernel
theorem dX11_seed_19 : decode cX11_seed 19 = .ok (.iconst 1, 1) := by decide +kernel
theorem dX11_seed_20 : decode cX11_seed 20 = .ok (.ireturn, 1) := by decide +kernel
theorem dX11_draws_0 : decode cX11_draws 0 = .ok (.aload_n 0, 1) := by decide +kernel
theorem dX11_draws_1 : decode cX11_draws 1 = .ok (.aload_n 0, 1) := by decide +kernel
theorem dX11_draws_2 : decode cX11_draws 2 = .ok (.getfield 306, 3) := by decide +kernel
theorem dX11_draws_5 : decode cX11_draws 5 = .ok (.ldc2_w 335, 3) := by decide +kernel
theorem dX11_draws_8 : decode cX11_draws 8 = .ok (.lmul, 1) := by decide +kernel
theorem dX11_draws_9 : decode cX11_draws 9 = .ok (.ldc2_w 337, 3) := by decide +kernel
theorem dX11_draws_12 : decode cX11_draws 12 = .ok (.ladd, 1) := by decide +kernel
theorem dX11_draws_13 : decode cX11_draws 13 = .ok (.ldc2_w 339, 3) := by decide +kernel
theorem dX11_draws_16 : decode cX11_draws 16 = .ok (.land, 1) := by decide +kernel
theorem dX11_draws_17 : decode cX11_draws 17 = .ok (.putfield 306, 3) := by decide +kernel
theorem dX11_draws_20 : decode cX11_draws 20 = .ok (.aload_n 0, 1) := by decide +kernel
theorem dX11_draws_21 : decode cX11_draws 21 = .ok (.getfield 306, 3) := by decide +kernel
theorem dX11_draws_24 : decode cX11_draws 24 = .ok (.ldc2_w 341, 3) := by decide +kernel
theorem dX11_draws_27 : decode cX11_draws 27 = .ok (.ldiv, 1) := by decide +kernel
theorem dX11_draws_28 : decode cX11_draws 28 = .ok (.iload_n 1, 1) := by decide +kernel
theorem dX11_draws_29 : decode cX11_draws 29 = .ok (.i2l, 1) := by decide +kernel
theorem dX11_draws_30 : decode cX11_draws 30 = .ok (.lrem, 1) := by decide +kernel
theorem dX11_draws_31 : decode cX11_draws 31 = .ok (.l2i, 1) := by decide +kernel
theorem dX11_draws_32 : decode cX11_draws 32 = .ok (.ireturn, 1) := by decide +kernel
theorem dX11_free_0 : decode cX11_free 0 = .ok (.iconst 0, 1) := by decide +kernel
theorem dX11_free_1 : decode cX11_free 1 = .ok (.istore_n 1, 1) := by decide +kernel
theorem dX11_free_2 : decode cX11_free 2 = .ok (.iload_n 1, 1) := by decide +kernel
theorem dX11_free_3 : decode cX11_free 3 = .ok (.bipush 30, 2) := by decide +kernel
theorem dX11_free_5 : decode cX11_free 5 = .ok (.if_icmp .ge 19, 3) := by decide +kernel
theorem dX11_free_8 : decode cX11_free 8 = .ok (.aload_n 0, 1) := by decide +kernel
theorem dX11_free_9 : decode cX11_free 9 = .ok (.iload_n 1, 1) := by decide +kernel
theorem dX11_free_10 : decode cX11_free 10 = .ok (.iconst 2, 1) := by decide +kernel
theorem dX11_free_11 : decode cX11_free 11 = .ok (.invokevirtual 317, 3) := by decide +kernel
theorem dX11_free_14 : decode cX11_free 14 = .ok (.iconst (-1), 1) := by decide +kernel
theorem dX11_free_15 : decode cX11_free 15 = .ok (.if_icmp .eq 9, 3) := by decide +kernel
theorem dX11_free_18 : decode cX11_free 18 = .ok (.iinc 1 1, 3) := by decide +kernel
theorem dX11_free_21 : decode cX11_free 21 = .ok (.goto (-19), 3) := by decide +kernel
theorem dX11_free_24 : decode cX11_free 24 = .ok (.iload_n 1, 1) := by decide +kernel
theorem dX11_free_25 : decode cX11_free 25 = .ok (.bipush 30, 2) := by decide +kernel
theorem dX11_free_27 : decode cX11_free 27 = .ok (.if_icmp .ge 7, 3) := by decide +kernel
theorem dX11_free_30 : decode cX11_free 30 = .ok (.iload_n 1, 1) := by decide +kernel
theorem dX11_free_31 : decode cX11_free 31 = .ok (.goto 4, 3) := by decide +kernel
theorem dX11_free_34 : decode cX11_free 34 = .ok (.iconst (-1), 1) := by decide +kernel
theorem dX11_free_35 : decode cX11_free 35 = .ok (.ireturn, 1) := by decide +kernel
theorem dX11_entersAt_0 : decode cX11_entersAt 0 = .ok (.aload_n 0, 1) := by decide +kernel
theorem dX11_entersAt_1 : decode cX11_entersAt 1 = .ok (.iload_n 1, 1) := by decide +kernel
theorem dX11_entersAt_2 : decode cX11_entersAt 2 = .ok (.iconst 1, 1) := by decide +kernel
theorem dX11_entersAt_3 : decode cX11_entersAt 3 = .ok (.invokevirtual 317, 3) := by decide +kernel
theorem dX11_entersAt_6 : decode cX11_entersAt 6 = .ok (.istore_n 2, 1) := by decide +kernel
theorem dX11_entersAt_7 : decode cX11_entersAt 7 = .ok (.aload_n 0, 1) := by decide +kernel
theorem dX11_entersAt_8 : decode cX11_entersAt 8 = .ok (.getfield 61, 3) := by decide +kernel
theorem dX11_entersAt_11 : decode cX11_entersAt 11 = .ok (.bipush 30, 2) := by decide +kernel
theorem dX11_entersAt_13 : decode cX11_entersAt 13 = .ok (.iload_n 2, 1) := by decide +kernel
theorem dX11_entersAt_14 : decode cX11_entersAt 14 = .ok (.imul, 1) := by decide +kernel
theorem dX11_entersAt_15 : decode cX11_entersAt 15 = .ok (.aload_n 0, 1) := by decide +kernel
theorem dX11_entersAt_16 : decode cX11_entersAt 16 = .ok (.getfield 58, 3) := by decide +kernel
theorem dX11_entersAt_19 : decode cX11_entersAt 19 = .ok (.iload_n 2, 1) := by decide +kernel
theorem dX11_entersAt_20 : decode cX11_entersAt 20 = .ok (.iaload, 1) := by decide +kernel
theorem dX11_entersAt_21 : decode cX11_entersAt 21 = .ok (.iadd, 1) := by decide +kernel
theorem dX11_entersAt_22 : decode cX11_entersAt 22 = .ok (.iload_n 1, 1) := by decide +kernel
theorem dX11_entersAt_23 : decode cX11_entersAt 23 = .ok (.iastore, 1) := by decide +kernel
theorem dX11_entersAt_24 : decode cX11_entersAt 24 = .ok (.aload_n 0, 1) := by decide +kernel
theorem dX11_entersAt_25 : decode cX11_entersAt 25 = .ok (.getfield 58, 3) := by decide +kernel
theorem dX11_entersAt_28 : decode cX11_entersAt 28 = .ok (.iload_n 2, 1) := by decide +kernel
theorem dX11_entersAt_29 : decode cX11_entersAt 29 = .ok (.dup2, 1) := by decide +kernel
theorem dX11_entersAt_30 : decode cX11_entersAt 30 = .ok (.iaload, 1) := by decide +kernel
theorem dX11_entersAt_31 : decode cX11_entersAt 31 = .ok (.iconst 1, 1) := by decide +kernel
theorem dX11_entersAt_32 : decode cX11_entersAt 32 = .ok (.iadd, 1) := by decide +kernel
theorem dX11_entersAt_33 : decode cX11_entersAt 33 = .ok (.iastore, 1) := by decide +kernel
theorem dX11_entersAt_34 : decode cX11_entersAt 34 = .ok (.aload_n 0, 1) := by decide +kernel
theorem dX11_entersAt_35 : decode cX11_entersAt 35 = .ok (.iload_n 1, 1) := by decide +kernel
theorem dX11_entersAt_36 : decode cX11_entersAt 36 = .ok (.iconst 2, 1) := by decide +kernel
theorem dX11_entersAt_37 : decode cX11_entersAt 37 = .ok (.iconst 0, 1) := by decide +kernel
theorem dX11_entersAt_38 : decode cX11_entersAt 38 = .ok (.invokevirtual 343, 3) := by decide +kernel
theorem dX11_entersAt_41 : decode cX11_entersAt 41 = .ok (.aload_n 0, 1) := by decide +kernel
theorem dX11_entersAt_42 : decode cX11_entersAt 42 = .ok (.iload_n 1, 1) := by decide +kernel
theorem dX11_entersAt_43 : decode cX11_entersAt 43 = .ok (.iconst 4, 1) := by decide +kernel
theorem dX11_entersAt_44 : decode cX11_entersAt 44 = .ok (.aload_n 0, 1) := by decide +kernel
theorem dX11_entersAt_45 : decode cX11_entersAt 45 = .ok (.getfield 301, 3) := by decide +kernel
theorem dX11_entersAt_48 : decode cX11_entersAt 48 = .ok (.invokevirtual 343, 3) := by decide +kernel
theorem dX11_entersAt_51 : decode cX11_entersAt 51 = .ok (.aload_n 0, 1) := by decide +kernel
theorem dX11_entersAt_52 : decode cX11_entersAt 52 = .ok (.iload_n 1, 1) := by decide +kernel
theorem dX11_entersAt_53 : decode cX11_entersAt 53 = .ok (.bipush 6, 2) := by decide +kernel
theorem dX11_entersAt_55 : decode cX11_entersAt 55 = .ok (.iconst (-1), 1) := by decide +kernel
theorem dX11_entersAt_56 : decode cX11_entersAt 56 = .ok (.invokevirtual 343, 3) := by decide +kernel
theorem dX11_entersAt_59 : decode cX11_entersAt 59 = .ok (.aload_n 0, 1) := by decide +kernel
theorem dX11_entersAt_60 : decode cX11_entersAt 60 = .ok (.aload_n 0, 1) := by decide +kernel
theorem dX11_entersAt_61 : decode cX11_entersAt 61 = .ok (.iload_n 1, 1) := by decide +kernel
theorem dX11_entersAt_62 : decode cX11_entersAt 62 = .ok (.iconst 0, 1) := by decide +kernel
theorem dX11_entersAt_63 : decode cX11_entersAt 63 = .ok (.invokevirtual 317, 3) := by decide +kernel
theorem dX11_entersAt_66 : decode cX11_entersAt 66 = .ok (.bipush 6, 2) := by decide +kernel
theorem dX11_entersAt_68 : decode cX11_entersAt 68 = .ok (.aload_n 0, 1) := by decide +kernel
theorem dX11_entersAt_69 : decode cX11_entersAt 69 = .ok (.getfield 297, 3) := by decide +kernel
theorem dX11_entersAt_72 : decode cX11_entersAt 72 = .ok (.ineg, 1) := by decide +kernel
theorem dX11_entersAt_73 : decode cX11_entersAt 73 = .ok (.invokevirtual 347, 3) := by decide +kernel
theorem dX11_entersAt_76 : decode cX11_entersAt 76 = .ok (.return_, 1) := by decide +kernel
theorem dX11_arrives_0 : decode cX11_arrives 0 = .ok (.aload_n 0, 1) := by decide +kernel
theorem dX11_arrives_1 : decode cX11_arrives 1 = .ok (.iload_n 1, 1) := by decide +kernel
theorem dX11_arrives_2 : decode cX11_arrives 2 = .ok (.iconst 0, 1) := by decide +kernel
theorem dX11_arrives_3 : decode cX11_arrives 3 = .ok (.iload_n 2, 1) := by decide +kernel
theorem dX11_arrives_4 : decode cX11_arrives 4 = .ok (.invokevirtual 343, 3) := by decide +kernel
theorem dX11_arrives_7 : decode cX11_arrives 7 = .ok (.aload_n 0, 1) := by decide +kernel
theorem dX11_arrives_8 : decode cX11_arrives 8 = .ok (.iload_n 1, 1) := by decide +kernel
theorem dX11_arrives_9 : decode cX11_arrives 9 = .ok (.iconst 1, 1) := by decide +kernel
theorem dX11_arrives_10 : decode cX11_arrives 10 = .ok (.iload_n 3, 1) := by decide +kernel
theorem dX11_arrives_11 : decode cX11_arrives 11 = .ok (.invokevirtual 343, 3) := by decide +kernel
theorem dX11_arrives_14 : decode cX11_arrives 14 = .ok (.aload_n 0, 1) := by decide +kernel
theorem dX11_arrives_15 : decode cX11_arrives 15 = .ok (.iload_n 1, 1) := by decide +kernel
theorem dX11_arrives_16 : decode cX11_arrives 16 = .ok (.iconst 3, 1) := by decide +kernel
theorem dX11_arrives_17 : decode cX11_arrives 17 = .ok (.aload_n 0, 1) := by decide +kernel
theorem dX11_arrives_18 : decode cX11_arrives 18 = .ok (.getfield 301, 3) := by decide +kernel
theorem dX11_arrives_21 : decode cX11_arrives 21 = .ok (.invokevirtual 343, 3) := by decide +kernel
theorem dX11_arrives_24 : decode cX11_arrives 24 = .ok (.aload_n 0, 1) := by decide +kernel
theorem dX11_arrives_25 : decode cX11_arrives 25 = .ok (.iload_n 1, 1) := by decide +kernel
theorem dX11_arrives_26 : decode cX11_arrives 26 = .ok (.iconst 4, 1) := by decide +kernel
theorem dX11_arrives_27 : decode cX11_arrives 27 = .ok (.iconst (-1), 1) := by decide +kernel
theorem dX11_arrives_28 : decode cX11_arrives 28 = .ok (.invokevirtual 343, 3) := by decide +kernel
theorem dX11_arrives_31 : decode cX11_arrives 31 = .ok (.aload_n 0, 1) := by decide +kernel
theorem dX11_arrives_32 : decode cX11_arrives 32 = .ok (.iload_n 1, 1) := by decide +kernel
theorem dX11_arrives_33 : decode cX11_arrives 33 = .ok (.iconst 5, 1) := by decide +kernel
theorem dX11_arrives_34 : decode cX11_arrives 34 = .ok (.iconst 0, 1) := by decide +kernel
theorem dX11_arrives_35 : decode cX11_arrives 35 = .ok (.invokevirtual 343, 3) := by decide +kernel
theorem dX11_arrives_38 : decode cX11_arrives 38 = .ok (.aload_n 0, 1) := by decide +kernel
theorem dX11_arrives_39 : decode cX11_arrives 39 = .ok (.iload_n 1, 1) := by decide +kernel
theorem dX11_arrives_40 : decode cX11_arrives 40 = .ok (.bipush 6, 2) := by decide +kernel
theorem dX11_arrives_42 : decode cX11_arrives 42 = .ok (.iconst (-1), 1) := by decide +kernel
theorem dX11_arrives_43 : decode cX11_arrives 43 = .ok (.invokevirtual 343, 3) := by decide +kernel
theorem dX11_arrives_46 : decode cX11_arrives 46 = .ok (.aload_n 0, 1) := by decide +kernel
theorem dX11_arrives_47 : decode cX11_arrives 47 = .ok (.iload_n 1, 1) := by decide +kernel
theorem dX11_arrives_48 : decode cX11_arrives 48 = .ok (.iconst 2, 1) := by decide +kernel
theorem dX11_arrives_49 : decode cX11_arrives 49 = .ok (.iconst 2, 1) := by decide +kernel
theorem dX11_arrives_50 : decode cX11_arrives 50 = .ok (.invokevirtual 343, 3) := by decide +kernel
theorem dX11_arrives_53 : decode cX11_arrives 53 = .ok (.aload_n 0, 1) := by decide +kernel
theorem dX11_arrives_54 : decode cX11_arrives 54 = .ok (.iload_n 2, 1) := by decide +kernel
theorem dX11_arrives_55 : decode cX11_arrives 55 = .ok (.iconst 0, 1) := by decide +kernel
theorem dX11_arrives_56 : decode cX11_arrives 56 = .ok (.iconst 1, 1) := by decide +kernel
theorem dX11_arrives_57 : decode cX11_arrives 57 = .ok (.invokevirtual 347, 3) := by decide +kernel
theorem dX11_arrives_60 : decode cX11_arrives 60 = .ok (.iload 4, 2) := by decide +kernel
theorem dX11_arrives_62 : decode cX11_arrives 62 = .ok (.ifCond .eq 8, 3) := by decide +kernel
theorem dX11_arrives_65 : decode cX11_arrives 65 = .ok (.aload_n 0, 1) := by decide +kernel
theorem dX11_arrives_66 : decode cX11_arrives 66 = .ok (.iload_n 1, 1) := by decide +kernel
theorem dX11_arrives_67 : decode cX11_arrives 67 = .ok (.invokevirtual 350, 3) := by decide +kernel
theorem dX11_arrives_70 : decode cX11_arrives 70 = .ok (.return_, 1) := by decide +kernel
theorem dX11_placeOf_0 : decode cX11_placeOf 0 = .ok (.aload_n 0, 1) := by decide +kernel
theorem dX11_placeOf_1 : decode cX11_placeOf 1 = .ok (.iload_n 1, 1) := by decide +kernel
theorem dX11_placeOf_2 : decode cX11_placeOf 2 = .ok (.iconst 1, 1) := by decide +kernel
theorem dX11_placeOf_3 : decode cX11_placeOf 3 = .ok (.invokevirtual 317, 3) := by decide +kernel
theorem dX11_placeOf_6 : decode cX11_placeOf 6 = .ok (.istore_n 2, 1) := by decide +kernel
theorem dX11_placeOf_7 : decode cX11_placeOf 7 = .ok (.iconst 0, 1) := by decide +kernel
theorem dX11_placeOf_8 : decode cX11_placeOf 8 = .ok (.istore_n 3, 1) := by decide +kernel
theorem dX11_placeOf_9 : decode cX11_placeOf 9 = .ok (.aload_n 0, 1) := by decide +kernel
theorem dX11_placeOf_10 : decode cX11_placeOf 10 = .ok (.getfield 61, 3) := by decide +kernel
theorem dX11_placeOf_13 : decode cX11_placeOf 13 = .ok (.bipush 30, 2) := by decide +kernel
theorem dX11_placeOf_15 : decode cX11_placeOf 15 = .ok (.iload_n 2, 1) := by decide +kernel
theorem dX11_placeOf_16 : decode cX11_placeOf 16 = .ok (.imul, 1) := by decide +kernel
theorem dX11_placeOf_17 : decode cX11_placeOf 17 = .ok (.iload_n 3, 1) := by decide +kernel
theorem dX11_placeOf_18 : decode cX11_placeOf 18 = .ok (.iadd, 1) := by decide +kernel
theorem dX11_placeOf_19 : decode cX11_placeOf 19 = .ok (.iaload, 1) := by decide +kernel
theorem dX11_placeOf_20 : decode cX11_placeOf 20 = .ok (.iload_n 1, 1) := by decide +kernel
theorem dX11_placeOf_21 : decode cX11_placeOf 21 = .ok (.if_icmp .eq 9, 3) := by decide +kernel
theorem dX11_placeOf_24 : decode cX11_placeOf 24 = .ok (.iinc 3 1, 3) := by decide +kernel
theorem dX11_placeOf_27 : decode cX11_placeOf 27 = .ok (.goto (-18), 3) := by decide +kernel
theorem dX11_placeOf_30 : decode cX11_placeOf 30 = .ok (.iload_n 3, 1) := by decide +kernel
theorem dX11_placeOf_31 : decode cX11_placeOf 31 = .ok (.ireturn, 1) := by decide +kernel
theorem dX11_leavesRow_0 : decode cX11_leavesRow 0 = .ok (.aload_n 0, 1) := by decide +kernel
theorem dX11_leavesRow_1 : decode cX11_leavesRow 1 = .ok (.iload_n 1, 1) := by decide +kernel
theorem dX11_leavesRow_2 : decode cX11_leavesRow 2 = .ok (.iconst 1, 1) := by decide +kernel
theorem dX11_leavesRow_3 : decode cX11_leavesRow 3 = .ok (.invokevirtual 317, 3) := by decide +kernel
theorem dX11_leavesRow_6 : decode cX11_leavesRow 6 = .ok (.istore_n 2, 1) := by decide +kernel
theorem dX11_leavesRow_7 : decode cX11_leavesRow 7 = .ok (.aload_n 0, 1) := by decide +kernel
theorem dX11_leavesRow_8 : decode cX11_leavesRow 8 = .ok (.getfield 58, 3) := by decide +kernel
theorem dX11_leavesRow_11 : decode cX11_leavesRow 11 = .ok (.iload_n 2, 1) := by decide +kernel
theorem dX11_leavesRow_12 : decode cX11_leavesRow 12 = .ok (.dup2, 1) := by decide +kernel
theorem dX11_leavesRow_13 : decode cX11_leavesRow 13 = .ok (.iaload, 1) := by decide +kernel
theorem dX11_leavesRow_14 : decode cX11_leavesRow 14 = .ok (.iconst 1, 1) := by decide +kernel
theorem dX11_leavesRow_15 : decode cX11_leavesRow 15 = .ok (.isub, 1) := by decide +kernel
theorem dX11_leavesRow_16 : decode cX11_leavesRow 16 = .ok (.iastore, 1) := by decide +kernel
theorem dX11_leavesRow_17 : decode cX11_leavesRow 17 = .ok (.aload_n 0, 1) := by decide +kernel
theorem dX11_leavesRow_18 : decode cX11_leavesRow 18 = .ok (.iload_n 1, 1) := by decide +kernel
theorem dX11_leavesRow_19 : decode cX11_leavesRow 19 = .ok (.invokevirtual 353, 3) := by decide +kernel
theorem dX11_leavesRow_22 : decode cX11_leavesRow 22 = .ok (.istore_n 3, 1) := by decide +kernel
theorem dX11_leavesRow_23 : decode cX11_leavesRow 23 = .ok (.iload_n 3, 1) := by decide +kernel
theorem dX11_leavesRow_24 : decode cX11_leavesRow 24 = .ok (.aload_n 0, 1) := by decide +kernel
theorem dX11_leavesRow_25 : decode cX11_leavesRow 25 = .ok (.getfield 58, 3) := by decide +kernel
theorem dX11_leavesRow_28 : decode cX11_leavesRow 28 = .ok (.iload_n 2, 1) := by decide +kernel
theorem dX11_leavesRow_29 : decode cX11_leavesRow 29 = .ok (.iaload, 1) := by decide +kernel
theorem dX11_leavesRow_30 : decode cX11_leavesRow 30 = .ok (.if_icmp .ge 33, 3) := by decide +kernel
theorem dX11_leavesRow_33 : decode cX11_leavesRow 33 = .ok (.aload_n 0, 1) := by decide +kernel
theorem dX11_leavesRow_34 : decode cX11_leavesRow 34 = .ok (.getfield 61, 3) := by decide +kernel
theorem dX11_leavesRow_37 : decode cX11_leavesRow 37 = .ok (.bipush 30, 2) := by decide +kernel
theorem dX11_leavesRow_39 : decode cX11_leavesRow 39 = .ok (.iload_n 2, 1) := by decide +kernel
theorem dX11_leavesRow_40 : decode cX11_leavesRow 40 = .ok (.imul, 1) := by decide +kernel
theorem dX11_leavesRow_41 : decode cX11_leavesRow 41 = .ok (.iload_n 3, 1) := by decide +kernel
theorem dX11_leavesRow_42 : decode cX11_leavesRow 42 = .ok (.iadd, 1) := by decide +kernel
theorem dX11_leavesRow_43 : decode cX11_leavesRow 43 = .ok (.aload_n 0, 1) := by decide +kernel
theorem dX11_leavesRow_44 : decode cX11_leavesRow 44 = .ok (.getfield 61, 3) := by decide +kernel
theorem dX11_leavesRow_47 : decode cX11_leavesRow 47 = .ok (.bipush 30, 2) := by decide +kernel
theorem dX11_leavesRow_49 : decode cX11_leavesRow 49 = .ok (.iload_n 2, 1) := by decide +kernel
theorem dX11_leavesRow_50 : decode cX11_leavesRow 50 = .ok (.imul, 1) := by decide +kernel
theorem dX11_leavesRow_51 : decode cX11_leavesRow 51 = .ok (.iload_n 3, 1) := by decide +kernel
theorem dX11_leavesRow_52 : decode cX11_leavesRow 52 = .ok (.iadd, 1) := by decide +kernel
theorem dX11_leavesRow_53 : decode cX11_leavesRow 53 = .ok (.iconst 1, 1) := by decide +kernel
theorem dX11_leavesRow_54 : decode cX11_leavesRow 54 = .ok (.iadd, 1) := by decide +kernel
theorem dX11_leavesRow_55 : decode cX11_leavesRow 55 = .ok (.iaload, 1) := by decide +kernel
theorem dX11_leavesRow_56 : decode cX11_leavesRow 56 = .ok (.iastore, 1) := by decide +kernel
theorem dX11_leavesRow_57 : decode cX11_leavesRow 57 = .ok (.iinc 3 1, 3) := by decide +kernel
theorem dX11_leavesRow_60 : decode cX11_leavesRow 60 = .ok (.goto (-37), 3) := by decide +kernel
theorem dX11_leavesRow_63 : decode cX11_leavesRow 63 = .ok (.return_, 1) := by decide +kernel
theorem dX11_turns_0 : decode cX11_turns 0 = .ok (.aload_n 0, 1) := by decide +kernel
theorem dX11_turns_1 : decode cX11_turns 1 = .ok (.iload_n 1, 1) := by decide +kernel
theorem dX11_turns_2 : decode cX11_turns 2 = .ok (.invokevirtual 356, 3) := by decide +kernel
theorem dX11_turns_5 : decode cX11_turns 5 = .ok (.aload_n 0, 1) := by decide +kernel
theorem dX11_turns_6 : decode cX11_turns 6 = .ok (.iload_n 1, 1) := by decide +kernel
theorem dX11_turns_7 : decode cX11_turns 7 = .ok (.iconst 5, 1) := by decide +kernel
theorem dX11_turns_8 : decode cX11_turns 8 = .ok (.aload_n 0, 1) := by decide +kernel
theorem dX11_turns_9 : decode cX11_turns 9 = .ok (.iload_n 1, 1) := by decide +kernel
theorem dX11_turns_10 : decode cX11_turns 10 = .ok (.iconst 5, 1) := by decide +kernel
theorem dX11_turns_11 : decode cX11_turns 11 = .ok (.invokevirtual 317, 3) := by decide +kernel
theorem dX11_turns_14 : decode cX11_turns 14 = .ok (.iconst 1, 1) := by decide +kernel
theorem dX11_turns_15 : decode cX11_turns 15 = .ok (.iadd, 1) := by decide +kernel
theorem dX11_turns_16 : decode cX11_turns 16 = .ok (.invokevirtual 343, 3) := by decide +kernel
theorem dX11_turns_19 : decode cX11_turns 19 = .ok (.aload_n 0, 1) := by decide +kernel
theorem dX11_turns_20 : decode cX11_turns 20 = .ok (.iload_n 1, 1) := by decide +kernel
theorem dX11_turns_21 : decode cX11_turns 21 = .ok (.iconst 2, 1) := by decide +kernel
theorem dX11_turns_22 : decode cX11_turns 22 = .ok (.iconst 1, 1) := by decide +kernel
theorem dX11_turns_23 : decode cX11_turns 23 = .ok (.invokevirtual 343, 3) := by decide +kernel
theorem dX11_turns_26 : decode cX11_turns 26 = .ok (.aload_n 0, 1) := by decide +kernel
theorem dX11_turns_27 : decode cX11_turns 27 = .ok (.iload_n 1, 1) := by decide +kernel
theorem dX11_turns_28 : decode cX11_turns 28 = .ok (.bipush 6, 2) := by decide +kernel
theorem dX11_turns_30 : decode cX11_turns 30 = .ok (.aload_n 0, 1) := by decide +kernel
theorem dX11_turns_31 : decode cX11_turns 31 = .ok (.getfield 301, 3) := by decide +kernel
theorem dX11_turns_34 : decode cX11_turns 34 = .ok (.aload_n 0, 1) := by decide +kernel
theorem dX11_turns_35 : decode cX11_turns 35 = .ok (.getfield 299, 3) := by decide +kernel
theorem dX11_turns_38 : decode cX11_turns 38 = .ok (.iadd, 1) := by decide +kernel
theorem dX11_turns_39 : decode cX11_turns 39 = .ok (.invokevirtual 343, 3) := by decide +kernel
theorem dX11_turns_42 : decode cX11_turns 42 = .ok (.aload_n 0, 1) := by decide +kernel
theorem dX11_turns_43 : decode cX11_turns 43 = .ok (.getfield 299, 3) := by decide +kernel
theorem dX11_turns_46 : decode cX11_turns 46 = .ok (.ifCond .ne 8, 3) := by decide +kernel
theorem dX11_turns_49 : decode cX11_turns 49 = .ok (.aload_n 0, 1) := by decide +kernel
theorem dX11_turns_50 : decode cX11_turns 50 = .ok (.iload_n 1, 1) := by decide +kernel
theorem dX11_turns_51 : decode cX11_turns 51 = .ok (.invokevirtual 350, 3) := by decide +kernel
theorem dX11_turns_54 : decode cX11_turns 54 = .ok (.return_, 1) := by decide +kernel
theorem dX11_givesUp_0 : decode cX11_givesUp 0 = .ok (.aload_n 0, 1) := by decide +kernel
theorem dX11_givesUp_1 : decode cX11_givesUp 1 = .ok (.iload_n 1, 1) := by decide +kernel
theorem dX11_givesUp_2 : decode cX11_givesUp 2 = .ok (.iconst 2, 1) := by decide +kernel
theorem dX11_givesUp_3 : decode cX11_givesUp 3 = .ok (.invokevirtual 317, 3) := by decide +kernel
theorem dX11_givesUp_6 : decode cX11_givesUp 6 = .ok (.ifCond .ne 8, 3) := by decide +kernel
theorem dX11_givesUp_9 : decode cX11_givesUp 9 = .ok (.aload_n 0, 1) := by decide +kernel
theorem dX11_givesUp_10 : decode cX11_givesUp 10 = .ok (.iload_n 1, 1) := by decide +kernel
theorem dX11_givesUp_11 : decode cX11_givesUp 11 = .ok (.invokevirtual 356, 3) := by decide +kernel
theorem dX11_givesUp_14 : decode cX11_givesUp 14 = .ok (.aload_n 0, 1) := by decide +kernel
theorem dX11_givesUp_15 : decode cX11_givesUp 15 = .ok (.aload_n 0, 1) := by decide +kernel
theorem dX11_givesUp_16 : decode cX11_givesUp 16 = .ok (.iload_n 1, 1) := by decide +kernel
theorem dX11_givesUp_17 : decode cX11_givesUp 17 = .ok (.iconst 0, 1) := by decide +kernel
theorem dX11_givesUp_18 : decode cX11_givesUp 18 = .ok (.invokevirtual 317, 3) := by decide +kernel
theorem dX11_givesUp_21 : decode cX11_givesUp 21 = .ok (.iconst 2, 1) := by decide +kernel
theorem dX11_givesUp_22 : decode cX11_givesUp 22 = .ok (.iconst 1, 1) := by decide +kernel
theorem dX11_givesUp_23 : decode cX11_givesUp 23 = .ok (.invokevirtual 347, 3) := by decide +kernel
theorem dX11_givesUp_26 : decode cX11_givesUp 26 = .ok (.aload_n 0, 1) := by decide +kernel
theorem dX11_givesUp_27 : decode cX11_givesUp 27 = .ok (.iload_n 1, 1) := by decide +kernel
theorem dX11_givesUp_28 : decode cX11_givesUp 28 = .ok (.iconst 2, 1) := by decide +kernel
theorem dX11_givesUp_29 : decode cX11_givesUp 29 = .ok (.iconst (-1), 1) := by decide +kernel
theorem dX11_givesUp_30 : decode cX11_givesUp 30 = .ok (.invokevirtual 343, 3) := by decide +kernel
theorem dX11_givesUp_33 : decode cX11_givesUp 33 = .ok (.return_, 1) := by decide +kernel
theorem dX11_come_0 : decode cX11_come 0 = .ok (.aload_n 0, 1) := by decide +kernel
theorem dX11_come_1 : decode cX11_come 1 = .ok (.iload_n 1, 1) := by decide +kernel
theorem dX11_come_2 : decode cX11_come 2 = .ok (.invokevirtual 324, 3) := by decide +kernel
theorem dX11_come_5 : decode cX11_come 5 = .ok (.ifCond .eq 30, 3) := by decide +kernel
theorem dX11_come_8 : decode cX11_come 8 = .ok (.aload_n 0, 1) := by decide +kernel
theorem dX11_come_9 : decode cX11_come 9 = .ok (.iload_n 2, 1) := by decide +kernel
theorem dX11_come_10 : decode cX11_come 10 = .ok (.invokevirtual 321, 3) := by decide +kernel
theorem dX11_come_13 : decode cX11_come 13 = .ok (.ifCond .eq 22, 3) := by decide +kernel
theorem dX11_come_16 : decode cX11_come 16 = .ok (.aload_n 0, 1) := by decide +kernel
theorem dX11_come_17 : decode cX11_come 17 = .ok (.getfield 301, 3) := by decide +kernel
theorem dX11_come_20 : decode cX11_come 20 = .ok (.aload_n 0, 1) := by decide +kernel
theorem dX11_come_21 : decode cX11_come 21 = .ok (.getfield 294, 3) := by decide +kernel
theorem dX11_come_24 : decode cX11_come 24 = .ok (.if_icmp .ge 11, 3) := by decide +kernel
theorem dX11_come_27 : decode cX11_come 27 = .ok (.aload_n 0, 1) := by decide +kernel
theorem dX11_come_28 : decode cX11_come 28 = .ok (.invokevirtual 359, 3) := by decide +kernel
theorem dX11_come_31 : decode cX11_come 31 = .ok (.iconst (-1), 1) := by decide +kernel
theorem dX11_come_32 : decode cX11_come 32 = .ok (.if_icmp .ne 5, 3) := by decide +kernel
theorem dX11_come_35 : decode cX11_come 35 = .ok (.iconst (-1), 1) := by decide +kernel
theorem dX11_come_36 : decode cX11_come 36 = .ok (.ireturn, 1) := by decide +kernel
theorem dX11_come_37 : decode cX11_come 37 = .ok (.aload_n 0, 1) := by decide +kernel
theorem dX11_come_38 : decode cX11_come 38 = .ok (.invokevirtual 359, 3) := by decide +kernel
theorem dX11_come_41 : decode cX11_come 41 = .ok (.istore_n 3, 1) := by decide +kernel
theorem dX11_come_42 : decode cX11_come 42 = .ok (.aload_n 0, 1) := by decide +kernel
theorem dX11_come_43 : decode cX11_come 43 = .ok (.iload_n 3, 1) := by decide +kernel
theorem dX11_come_44 : decode cX11_come 44 = .ok (.iload_n 1, 1) := by decide +kernel
theorem dX11_come_45 : decode cX11_come 45 = .ok (.iload_n 2, 1) := by decide +kernel
theorem dX11_come_46 : decode cX11_come 46 = .ok (.iconst 1, 1) := by decide +kernel
theorem dX11_come_47 : decode cX11_come 47 = .ok (.invokevirtual 362, 3) := by decide +kernel
theorem dX11_come_50 : decode cX11_come 50 = .ok (.iload_n 3, 1) := by decide +kernel
theorem dX11_come_51 : decode cX11_come 51 = .ok (.ireturn, 1) := by decide +kernel
theorem dX11_turn_0 : decode cX11_turn 0 = .ok (.aload_n 0, 1) := by decide +kernel
theorem dX11_turn_1 : decode cX11_turn 1 = .ok (.iload_n 1, 1) := by decide +kernel
theorem dX11_turn_2 : decode cX11_turn 2 = .ok (.invokevirtual 366, 3) := by decide +kernel
theorem dX11_turn_5 : decode cX11_turn 5 = .ok (.ifCond .eq 12, 3) := by decide +kernel
theorem dX11_turn_8 : decode cX11_turn 8 = .ok (.aload_n 0, 1) := by decide +kernel
theorem dX11_turn_9 : decode cX11_turn 9 = .ok (.iload_n 1, 1) := by decide +kernel
theorem dX11_turn_10 : decode cX11_turn 10 = .ok (.iconst 2, 1) := by decide +kernel
theorem dX11_turn_11 : decode cX11_turn 11 = .ok (.invokevirtual 317, 3) := by decide +kernel
theorem dX11_turn_14 : decode cX11_turn 14 = .ok (.ifCond .eq 5, 3) := by decide +kernel
theorem dX11_turn_17 : decode cX11_turn 17 = .ok (.iconst 0, 1) := by decide +kernel
theorem dX11_turn_18 : decode cX11_turn 18 = .ok (.ireturn, 1) := by decide +kernel
theorem dX11_turn_19 : decode cX11_turn 19 = .ok (.aload_n 0, 1) := by decide +kernel
theorem dX11_turn_20 : decode cX11_turn 20 = .ok (.iload_n 1, 1) := by decide +kernel
theorem dX11_turn_21 : decode cX11_turn 21 = .ok (.invokevirtual 369, 3) := by decide +kernel
theorem dX11_turn_24 : decode cX11_turn 24 = .ok (.iconst 1, 1) := by decide +kernel
theorem dX11_turn_25 : decode cX11_turn 25 = .ok (.ireturn, 1) := by decide +kernel
theorem dX11_leave_0 : decode cX11_leave 0 = .ok (.aload_n 0, 1) := by decide +kernel
theorem dX11_leave_1 : decode cX11_leave 1 = .ok (.iload_n 1, 1) := by decide +kernel
theorem dX11_leave_2 : decode cX11_leave 2 = .ok (.invokevirtual 366, 3) := by decide +kernel
theorem dX11_leave_5 : decode cX11_leave 5 = .ok (.ifCond .ne 5, 3) := by decide +kernel
theorem dX11_leave_8 : decode cX11_leave 8 = .ok (.iconst 0, 1) := by decide +kernel
theorem dX11_leave_9 : decode cX11_leave 9 = .ok (.ireturn, 1) := by decide +kernel
theorem dX11_leave_10 : decode cX11_leave 10 = .ok (.aload_n 0, 1) := by decide +kernel
theorem dX11_leave_11 : decode cX11_leave 11 = .ok (.iload_n 1, 1) := by decide +kernel
theorem dX11_leave_12 : decode cX11_leave 12 = .ok (.invokevirtual 371, 3) := by decide +kernel
theorem dX11_leave_15 : decode cX11_leave 15 = .ok (.iconst 1, 1) := by decide +kernel
theorem dX11_leave_16 : decode cX11_leave 16 = .ok (.ireturn, 1) := by decide +kernel
theorem dX11_person_0 : decode cX11_person 0 = .ok (.aload_n 0, 1) := by decide +kernel
theorem dX11_person_1 : decode cX11_person 1 = .ok (.iload_n 1, 1) := by decide +kernel
theorem dX11_person_2 : decode cX11_person 2 = .ok (.invokevirtual 366, 3) := by decide +kernel
theorem dX11_person_5 : decode cX11_person 5 = .ok (.ifCond .ne 5, 3) := by decide +kernel
theorem dX11_person_8 : decode cX11_person 8 = .ok (.iconst (-1), 1) := by decide +kernel
theorem dX11_person_9 : decode cX11_person 9 = .ok (.ireturn, 1) := by decide +kernel
theorem dX11_person_10 : decode cX11_person 10 = .ok (.iload_n 2, 1) := by decide +kernel
theorem dX11_person_11 : decode cX11_person 11 = .ok (.tableswitch 114 0 7 #[45, 52, 59, 66, 73, 80, 87, 106], 45) := by decide +kernel
theorem dX11_person_56 : decode cX11_person 56 = .ok (.aload_n 0, 1) := by decide +kernel
theorem dX11_person_57 : decode cX11_person 57 = .ok (.iload_n 1, 1) := by decide +kernel
theorem dX11_person_58 : decode cX11_person 58 = .ok (.iconst 0, 1) := by decide +kernel
theorem dX11_person_59 : decode cX11_person 59 = .ok (.invokevirtual 317, 3) := by decide +kernel
theorem dX11_person_62 : decode cX11_person 62 = .ok (.ireturn, 1) := by decide +kernel
theorem dX11_person_63 : decode cX11_person 63 = .ok (.aload_n 0, 1) := by decide +kernel
theorem dX11_person_64 : decode cX11_person 64 = .ok (.iload_n 1, 1) := by decide +kernel
theorem dX11_person_65 : decode cX11_person 65 = .ok (.iconst 1, 1) := by decide +kernel
theorem dX11_person_66 : decode cX11_person 66 = .ok (.invokevirtual 317, 3) := by decide +kernel
theorem dX11_person_69 : decode cX11_person 69 = .ok (.ireturn, 1) := by decide +kernel
theorem dX11_person_70 : decode cX11_person 70 = .ok (.aload_n 0, 1) := by decide +kernel
theorem dX11_person_71 : decode cX11_person 71 = .ok (.iload_n 1, 1) := by decide +kernel
theorem dX11_person_72 : decode cX11_person 72 = .ok (.iconst 2, 1) := by decide +kernel
theorem dX11_person_73 : decode cX11_person 73 = .ok (.invokevirtual 317, 3) := by decide +kernel
theorem dX11_person_76 : decode cX11_person 76 = .ok (.ireturn, 1) := by decide +kernel
theorem dX11_person_77 : decode cX11_person 77 = .ok (.aload_n 0, 1) := by decide +kernel
theorem dX11_person_78 : decode cX11_person 78 = .ok (.iload_n 1, 1) := by decide +kernel
theorem dX11_person_79 : decode cX11_person 79 = .ok (.iconst 3, 1) := by decide +kernel
theorem dX11_person_80 : decode cX11_person 80 = .ok (.invokevirtual 317, 3) := by decide +kernel
theorem dX11_person_83 : decode cX11_person 83 = .ok (.ireturn, 1) := by decide +kernel
theorem dX11_person_84 : decode cX11_person 84 = .ok (.aload_n 0, 1) := by decide +kernel
theorem dX11_person_85 : decode cX11_person 85 = .ok (.iload_n 1, 1) := by decide +kernel
theorem dX11_person_86 : decode cX11_person 86 = .ok (.iconst 4, 1) := by decide +kernel
theorem dX11_person_87 : decode cX11_person 87 = .ok (.invokevirtual 317, 3) := by decide +kernel
theorem dX11_person_90 : decode cX11_person 90 = .ok (.ireturn, 1) := by decide +kernel
theorem dX11_person_91 : decode cX11_person 91 = .ok (.aload_n 0, 1) := by decide +kernel
theorem dX11_person_92 : decode cX11_person 92 = .ok (.iload_n 1, 1) := by decide +kernel
theorem dX11_person_93 : decode cX11_person 93 = .ok (.iconst 5, 1) := by decide +kernel
theorem dX11_person_94 : decode cX11_person 94 = .ok (.invokevirtual 317, 3) := by decide +kernel
theorem dX11_person_97 : decode cX11_person 97 = .ok (.ireturn, 1) := by decide +kernel
theorem dX11_person_98 : decode cX11_person 98 = .ok (.aload_n 0, 1) := by decide +kernel
theorem dX11_person_99 : decode cX11_person 99 = .ok (.iload_n 1, 1) := by decide +kernel
theorem dX11_person_100 : decode cX11_person 100 = .ok (.iconst 2, 1) := by decide +kernel
theorem dX11_person_101 : decode cX11_person 101 = .ok (.invokevirtual 317, 3) := by decide +kernel
theorem dX11_person_104 : decode cX11_person 104 = .ok (.ifCond .ne 11, 3) := by decide +kernel
theorem dX11_person_107 : decode cX11_person 107 = .ok (.aload_n 0, 1) := by decide +kernel
theorem dX11_person_108 : decode cX11_person 108 = .ok (.iload_n 1, 1) := by decide +kernel
theorem dX11_person_109 : decode cX11_person 109 = .ok (.invokevirtual 353, 3) := by decide +kernel
theorem dX11_person_112 : decode cX11_person 112 = .ok (.goto 4, 3) := by decide +kernel
theorem dX11_person_115 : decode cX11_person 115 = .ok (.iconst (-1), 1) := by decide +kernel
theorem dX11_person_116 : decode cX11_person 116 = .ok (.ireturn, 1) := by decide +kernel
theorem dX11_person_117 : decode cX11_person 117 = .ok (.aload_n 0, 1) := by decide +kernel
theorem dX11_person_118 : decode cX11_person 118 = .ok (.iload_n 1, 1) := by decide +kernel
theorem dX11_person_119 : decode cX11_person 119 = .ok (.bipush 6, 2) := by decide +kernel
theorem dX11_person_121 : decode cX11_person 121 = .ok (.invokevirtual 317, 3) := by decide +kernel
theorem dX11_person_124 : decode cX11_person 124 = .ok (.ireturn, 1) := by decide +kernel
theorem dX11_person_125 : decode cX11_person 125 = .ok (.iconst (-1), 1) := by decide +kernel
theorem dX11_person_126 : decode cX11_person 126 = .ok (.ireturn, 1) := by decide +kernel
theorem dX11_placeTold_0 : decode cX11_placeTold 0 = .ok (.iconst 0, 1) := by decide +kernel
theorem dX11_placeTold_1 : decode cX11_placeTold 1 = .ok (.istore_n 3, 1) := by decide +kernel
theorem dX11_placeTold_2 : decode cX11_placeTold 2 = .ok (.iconst 0, 1) := by decide +kernel
theorem dX11_placeTold_3 : decode cX11_placeTold 3 = .ok (.istore 4, 2) := by decide +kernel
theorem dX11_placeTold_5 : decode cX11_placeTold 5 = .ok (.iconst 0, 1) := by decide +kernel
theorem dX11_placeTold_6 : decode cX11_placeTold 6 = .ok (.istore 5, 2) := by decide +kernel
theorem dX11_placeTold_8 : decode cX11_placeTold 8 = .ok (.iload 5, 2) := by decide +kernel
theorem dX11_placeTold_10 : decode cX11_placeTold 10 = .ok (.aload_n 0, 1) := by decide +kernel
theorem dX11_placeTold_11 : decode cX11_placeTold 11 = .ok (.getfield 58, 3) := by decide +kernel
theorem dX11_placeTold_14 : decode cX11_placeTold 14 = .ok (.iload_n 1, 1) := by decide +kernel
theorem dX11_placeTold_15 : decode cX11_placeTold 15 = .ok (.iaload, 1) := by decide +kernel
theorem dX11_placeTold_16 : decode cX11_placeTold 16 = .ok (.if_icmp .ge 198, 3) := by decide +kernel
theorem dX11_placeTold_19 : decode cX11_placeTold 19 = .ok (.aload_n 0, 1) := by decide +kernel
theorem dX11_placeTold_20 : decode cX11_placeTold 20 = .ok (.getfield 61, 3) := by decide +kernel
theorem dX11_placeTold_23 : decode cX11_placeTold 23 = .ok (.bipush 30, 2) := by decide +kernel
theorem dX11_placeTold_25 : decode cX11_placeTold 25 = .ok (.iload_n 1, 1) := by decide +kernel
theorem dX11_placeTold_26 : decode cX11_placeTold 26 = .ok (.imul, 1) := by decide +kernel
theorem dX11_placeTold_27 : decode cX11_placeTold 27 = .ok (.iload 5, 2) := by decide +kernel
theorem dX11_placeTold_29 : decode cX11_placeTold 29 = .ok (.iadd, 1) := by decide +kernel
theorem dX11_placeTold_30 : decode cX11_placeTold 30 = .ok (.iaload, 1) := by decide +kernel
theorem dX11_placeTold_31 : decode cX11_placeTold 31 = .ok (.istore 6, 2) := by decide +kernel
theorem dX11_placeTold_33 : decode cX11_placeTold 33 = .ok (.aload_n 0, 1) := by decide +kernel
theorem dX11_placeTold_34 : decode cX11_placeTold 34 = .ok (.getfield 94, 3) := by decide +kernel
theorem dX11_placeTold_37 : decode cX11_placeTold 37 = .ok (.iconst 0, 1) := by decide +kernel
theorem dX11_placeTold_38 : decode cX11_placeTold 38 = .ok (.aload_n 0, 1) := by decide +kernel
theorem dX11_placeTold_39 : decode cX11_placeTold 39 = .ok (.iload 6, 2) := by decide +kernel
theorem dX11_placeTold_41 : decode cX11_placeTold 41 = .ok (.iconst 4, 1) := by decide +kernel
theorem dX11_placeTold_42 : decode cX11_placeTold 42 = .ok (.invokevirtual 317, 3) := by decide +kernel
theorem dX11_placeTold_45 : decode cX11_placeTold 45 = .ok (.iastore, 1) := by decide +kernel
theorem dX11_placeTold_46 : decode cX11_placeTold 46 = .ok (.aload_n 0, 1) := by decide +kernel
theorem dX11_placeTold_47 : decode cX11_placeTold 47 = .ok (.getfield 94, 3) := by decide +kernel
theorem dX11_placeTold_50 : decode cX11_placeTold 50 = .ok (.iconst 1, 1) := by decide +kernel
theorem dX11_placeTold_51 : decode cX11_placeTold 51 = .ok (.aload_n 0, 1) := by decide +kernel
theorem dX11_placeTold_52 : decode cX11_placeTold 52 = .ok (.getfield 301, 3) := by decide +kernel
theorem dX11_placeTold_55 : decode cX11_placeTold 55 = .ok (.aload_n 0, 1) := by decide +kernel
theorem dX11_placeTold_56 : decode cX11_placeTold 56 = .ok (.iload 6, 2) := by decide +kernel
theorem dX11_placeTold_58 : decode cX11_placeTold 58 = .ok (.iconst 3, 1) := by decide +kernel
theorem dX11_placeTold_59 : decode cX11_placeTold 59 = .ok (.invokevirtual 317, 3) := by decide +kernel
theorem dX11_placeTold_62 : decode cX11_placeTold 62 = .ok (.isub, 1) := by decide +kernel
theorem dX11_placeTold_63 : decode cX11_placeTold 63 = .ok (.iastore, 1) := by decide +kernel
theorem dX11_placeTold_64 : decode cX11_placeTold 64 = .ok (.aload_n 0, 1) := by decide +kernel
theorem dX11_placeTold_65 : decode cX11_placeTold 65 = .ok (.getfield 94, 3) := by decide +kernel
theorem dX11_placeTold_68 : decode cX11_placeTold 68 = .ok (.iconst 2, 1) := by decide +kernel
theorem dX11_placeTold_69 : decode cX11_placeTold 69 = .ok (.aload_n 0, 1) := by decide +kernel
theorem dX11_placeTold_70 : decode cX11_placeTold 70 = .ok (.iload 6, 2) := by decide +kernel
theorem dX11_placeTold_72 : decode cX11_placeTold 72 = .ok (.iconst 0, 1) := by decide +kernel
theorem dX11_placeTold_73 : decode cX11_placeTold 73 = .ok (.invokevirtual 317, 3) := by decide +kernel
theorem dX11_placeTold_76 : decode cX11_placeTold 76 = .ok (.iastore, 1) := by decide +kernel
theorem dX11_placeTold_77 : decode cX11_placeTold 77 = .ok (.aload_n 0, 1) := by decide +kernel
theorem dX11_placeTold_78 : decode cX11_placeTold 78 = .ok (.getfield 94, 3) := by decide +kernel
theorem dX11_placeTold_81 : decode cX11_placeTold 81 = .ok (.iconst 3, 1) := by decide +kernel
theorem dX11_placeTold_82 : decode cX11_placeTold 82 = .ok (.aload_n 0, 1) := by decide +kernel
theorem dX11_placeTold_83 : decode cX11_placeTold 83 = .ok (.aload_n 0, 1) := by decide +kernel
theorem dX11_placeTold_84 : decode cX11_placeTold 84 = .ok (.iload 6, 2) := by decide +kernel
theorem dX11_placeTold_86 : decode cX11_placeTold 86 = .ok (.iconst 0, 1) := by decide +kernel
theorem dX11_placeTold_87 : decode cX11_placeTold 87 = .ok (.invokevirtual 317, 3) := by decide +kernel
theorem dX11_placeTold_90 : decode cX11_placeTold 90 = .ok (.iconst 1, 1) := by decide +kernel
theorem dX11_placeTold_91 : decode cX11_placeTold 91 = .ok (.invokevirtual 327, 3) := by decide +kernel
theorem dX11_placeTold_94 : decode cX11_placeTold 94 = .ok (.iastore, 1) := by decide +kernel
theorem dX11_placeTold_95 : decode cX11_placeTold 95 = .ok (.aload_n 0, 1) := by decide +kernel
theorem dX11_placeTold_96 : decode cX11_placeTold 96 = .ok (.getfield 94, 3) := by decide +kernel
theorem dX11_placeTold_99 : decode cX11_placeTold 99 = .ok (.iconst 4, 1) := by decide +kernel
theorem dX11_placeTold_100 : decode cX11_placeTold 100 = .ok (.iload 5, 2) := by decide +kernel
theorem dX11_placeTold_102 : decode cX11_placeTold 102 = .ok (.iastore, 1) := by decide +kernel
theorem dX11_placeTold_103 : decode cX11_placeTold 103 = .ok (.aload_n 0, 1) := by decide +kernel
theorem dX11_placeTold_104 : decode cX11_placeTold 104 = .ok (.getfield 94, 3) := by decide +kernel
theorem dX11_placeTold_107 : decode cX11_placeTold 107 = .ok (.iconst 5, 1) := by decide +kernel
theorem dX11_placeTold_108 : decode cX11_placeTold 108 = .ok (.aload_n 0, 1) := by decide +kernel
theorem dX11_placeTold_109 : decode cX11_placeTold 109 = .ok (.getfield 58, 3) := by decide +kernel
theorem dX11_placeTold_112 : decode cX11_placeTold 112 = .ok (.iload_n 1, 1) := by decide +kernel
theorem dX11_placeTold_113 : decode cX11_placeTold 113 = .ok (.iaload, 1) := by decide +kernel
theorem dX11_placeTold_114 : decode cX11_placeTold 114 = .ok (.iconst 1, 1) := by decide +kernel
theorem dX11_placeTold_115 : decode cX11_placeTold 115 = .ok (.isub, 1) := by decide +kernel
theorem dX11_placeTold_116 : decode cX11_placeTold 116 = .ok (.iload 5, 2) := by decide +kernel
theorem dX11_placeTold_118 : decode cX11_placeTold 118 = .ok (.isub, 1) := by decide +kernel
theorem dX11_placeTold_119 : decode cX11_placeTold 119 = .ok (.iastore, 1) := by decide +kernel
theorem dX11_placeTold_120 : decode cX11_placeTold 120 = .ok (.aload_n 0, 1) := by decide +kernel
theorem dX11_placeTold_121 : decode cX11_placeTold 121 = .ok (.getfield 94, 3) := by decide +kernel
theorem dX11_placeTold_124 : decode cX11_placeTold 124 = .ok (.bipush 6, 2) := by decide +kernel
theorem dX11_placeTold_126 : decode cX11_placeTold 126 = .ok (.aload_n 0, 1) := by decide +kernel
theorem dX11_placeTold_127 : decode cX11_placeTold 127 = .ok (.getfield 58, 3) := by decide +kernel
theorem dX11_placeTold_130 : decode cX11_placeTold 130 = .ok (.iload_n 1, 1) := by decide +kernel
theorem dX11_placeTold_131 : decode cX11_placeTold 131 = .ok (.iaload, 1) := by decide +kernel
theorem dX11_placeTold_132 : decode cX11_placeTold 132 = .ok (.iastore, 1) := by decide +kernel
theorem dX11_placeTold_133 : decode cX11_placeTold 133 = .ok (.aload_n 0, 1) := by decide +kernel
theorem dX11_placeTold_134 : decode cX11_placeTold 134 = .ok (.getfield 94, 3) := by decide +kernel
theorem dX11_placeTold_137 : decode cX11_placeTold 137 = .ok (.bipush 7, 2) := by decide +kernel
theorem dX11_placeTold_139 : decode cX11_placeTold 139 = .ok (.aload_n 0, 1) := by decide +kernel
theorem dX11_placeTold_140 : decode cX11_placeTold 140 = .ok (.getfield 301, 3) := by decide +kernel
theorem dX11_placeTold_143 : decode cX11_placeTold 143 = .ok (.iastore, 1) := by decide +kernel
theorem dX11_placeTold_144 : decode cX11_placeTold 144 = .ok (.aload_n 0, 1) := by decide +kernel
theorem dX11_placeTold_145 : decode cX11_placeTold 145 = .ok (.getfield 94, 3) := by decide +kernel
theorem dX11_placeTold_148 : decode cX11_placeTold 148 = .ok (.bipush 8, 2) := by decide +kernel
theorem dX11_placeTold_150 : decode cX11_placeTold 150 = .ok (.aload_n 0, 1) := by decide +kernel
theorem dX11_placeTold_151 : decode cX11_placeTold 151 = .ok (.getfield 294, 3) := by decide +kernel
theorem dX11_placeTold_154 : decode cX11_placeTold 154 = .ok (.aload_n 0, 1) := by decide +kernel
theorem dX11_placeTold_155 : decode cX11_placeTold 155 = .ok (.getfield 301, 3) := by decide +kernel
theorem dX11_placeTold_158 : decode cX11_placeTold 158 = .ok (.isub, 1) := by decide +kernel
theorem dX11_placeTold_159 : decode cX11_placeTold 159 = .ok (.iastore, 1) := by decide +kernel
theorem dX11_placeTold_160 : decode cX11_placeTold 160 = .ok (.aload_n 0, 1) := by decide +kernel
theorem dX11_placeTold_161 : decode cX11_placeTold 161 = .ok (.getfield 94, 3) := by decide +kernel
theorem dX11_placeTold_164 : decode cX11_placeTold 164 = .ok (.bipush 9, 2) := by decide +kernel
theorem dX11_placeTold_166 : decode cX11_placeTold 166 = .ok (.aload_n 0, 1) := by decide +kernel
theorem dX11_placeTold_167 : decode cX11_placeTold 167 = .ok (.iload 6, 2) := by decide +kernel
theorem dX11_placeTold_169 : decode cX11_placeTold 169 = .ok (.iconst 5, 1) := by decide +kernel
theorem dX11_placeTold_170 : decode cX11_placeTold 170 = .ok (.invokevirtual 317, 3) := by decide +kernel
theorem dX11_placeTold_173 : decode cX11_placeTold 173 = .ok (.iastore, 1) := by decide +kernel
theorem dX11_placeTold_174 : decode cX11_placeTold 174 = .ok (.aload_n 0, 1) := by decide +kernel
theorem dX11_placeTold_175 : decode cX11_placeTold 175 = .ok (.iload_n 2, 1) := by decide +kernel
theorem dX11_placeTold_176 : decode cX11_placeTold 176 = .ok (.invokevirtual 374, 3) := by decide +kernel
theorem dX11_placeTold_179 : decode cX11_placeTold 179 = .ok (.istore 7, 2) := by decide +kernel
theorem dX11_placeTold_181 : decode cX11_placeTold 181 = .ok (.iload 5, 2) := by decide +kernel
theorem dX11_placeTold_183 : decode cX11_placeTold 183 = .ok (.ifCond .le 18, 3) := by decide +kernel
theorem dX11_placeTold_186 : decode cX11_placeTold 186 = .ok (.aload_n 0, 1) := by decide +kernel
theorem dX11_placeTold_187 : decode cX11_placeTold 187 = .ok (.iload_n 2, 1) := by decide +kernel
theorem dX11_placeTold_188 : decode cX11_placeTold 188 = .ok (.iload 7, 2) := by decide +kernel
theorem dX11_placeTold_190 : decode cX11_placeTold 190 = .ok (.iload 4, 2) := by decide +kernel
theorem dX11_placeTold_192 : decode cX11_placeTold 192 = .ok (.invokevirtual 377, 3) := by decide +kernel
theorem dX11_placeTold_195 : decode cX11_placeTold 195 = .ok (.ifCond .ne 6, 3) := by decide +kernel
theorem dX11_placeTold_198 : decode cX11_placeTold 198 = .ok (.goto 10, 3) := by decide +kernel
theorem dX11_placeTold_201 : decode cX11_placeTold 201 = .ok (.iload 5, 2) := by decide +kernel
theorem dX11_placeTold_203 : decode cX11_placeTold 203 = .ok (.istore_n 3, 1) := by decide +kernel
theorem dX11_placeTold_204 : decode cX11_placeTold 204 = .ok (.iload 7, 2) := by decide +kernel
theorem dX11_placeTold_206 : decode cX11_placeTold 206 = .ok (.istore 4, 2) := by decide +kernel
theorem dX11_placeTold_208 : decode cX11_placeTold 208 = .ok (.iinc 5 1, 3) := by decide +kernel
theorem dX11_placeTold_211 : decode cX11_placeTold 211 = .ok (.goto (-203), 3) := by decide +kernel
theorem dX11_placeTold_214 : decode cX11_placeTold 214 = .ok (.iload_n 3, 1) := by decide +kernel
theorem dX11_placeTold_215 : decode cX11_placeTold 215 = .ok (.ireturn, 1) := by decide +kernel
theorem dX11_placeNext_0 : decode cX11_placeNext 0 = .ok (.aload_n 0, 1) := by decide +kernel
theorem dX11_placeNext_1 : decode cX11_placeNext 1 = .ok (.iload_n 2, 1) := by decide +kernel
theorem dX11_placeNext_2 : decode cX11_placeNext 2 = .ok (.invokevirtual 380, 3) := by decide +kernel
theorem dX11_placeNext_5 : decode cX11_placeNext 5 = .ok (.ifCond .eq 14, 3) := by decide +kernel
theorem dX11_placeNext_8 : decode cX11_placeNext 8 = .ok (.aload_n 0, 1) := by decide +kernel
theorem dX11_placeNext_9 : decode cX11_placeNext 9 = .ok (.iload_n 1, 1) := by decide +kernel
theorem dX11_placeNext_10 : decode cX11_placeNext 10 = .ok (.iload_n 2, 1) := by decide +kernel
theorem dX11_placeNext_11 : decode cX11_placeNext 11 = .ok (.iconst 4, 1) := by decide +kernel
theorem dX11_placeNext_12 : decode cX11_placeNext 12 = .ok (.isub, 1) := by decide +kernel
theorem dX11_placeNext_13 : decode cX11_placeNext 13 = .ok (.invokevirtual 383, 3) := by decide +kernel
theorem dX11_placeNext_16 : decode cX11_placeNext 16 = .ok (.goto 13, 3) := by decide +kernel
theorem dX11_placeNext_19 : decode cX11_placeNext 19 = .ok (.iload_n 2, 1) := by decide +kernel
theorem dX11_placeNext_20 : decode cX11_placeNext 20 = .ok (.aload_n 0, 1) := by decide +kernel
theorem dX11_placeNext_21 : decode cX11_placeNext 21 = .ok (.getfield 58, 3) := by decide +kernel
theorem dX11_placeNext_24 : decode cX11_placeNext 24 = .ok (.iload_n 1, 1) := by decide +kernel
theorem dX11_placeNext_25 : decode cX11_placeNext 25 = .ok (.iaload, 1) := by decide +kernel
theorem dX11_placeNext_26 : decode cX11_placeNext 26 = .ok (.invokestatic 386, 3) := by decide +kernel
theorem dX11_placeNext_29 : decode cX11_placeNext 29 = .ok (.ireturn, 1) := by decide +kernel
theorem dX11_next_0 : decode cX11_next 0 = .ok (.aload_n 0, 1) := by decide +kernel
theorem dX11_next_1 : decode cX11_next 1 = .ok (.iload_n 1, 1) := by decide +kernel
theorem dX11_next_2 : decode cX11_next 2 = .ok (.invokevirtual 321, 3) := by decide +kernel
theorem dX11_next_5 : decode cX11_next 5 = .ok (.ifCond .eq 27, 3) := by decide +kernel
theorem dX11_next_8 : decode cX11_next 8 = .ok (.iload_n 2, 1) := by decide +kernel
theorem dX11_next_9 : decode cX11_next 9 = .ok (.iconst 0, 1) := by decide +kernel
theorem dX11_next_10 : decode cX11_next 10 = .ok (.bipush 8, 2) := by decide +kernel
theorem dX11_next_12 : decode cX11_next 12 = .ok (.invokestatic 122, 3) := by decide +kernel
theorem dX11_next_15 : decode cX11_next 15 = .ok (.ifCond .eq 17, 3) := by decide +kernel
theorem dX11_next_18 : decode cX11_next 18 = .ok (.iload_n 2, 1) := by decide +kernel
theorem dX11_next_19 : decode cX11_next 19 = .ok (.iconst 3, 1) := by decide +kernel
theorem dX11_next_20 : decode cX11_next 20 = .ok (.if_icmp .eq 12, 3) := by decide +kernel
theorem dX11_next_23 : decode cX11_next 23 = .ok (.aload_n 0, 1) := by decide +kernel
theorem dX11_next_24 : decode cX11_next 24 = .ok (.getfield 58, 3) := by decide +kernel
theorem dX11_next_27 : decode cX11_next 27 = .ok (.iload_n 1, 1) := by decide +kernel
theorem dX11_next_28 : decode cX11_next 28 = .ok (.iaload, 1) := by decide +kernel
theorem dX11_next_29 : decode cX11_next 29 = .ok (.ifCond .ne 5, 3) := by decide +kernel
theorem dX11_next_32 : decode cX11_next 32 = .ok (.iconst (-1), 1) := by decide +kernel
theorem dX11_next_33 : decode cX11_next 33 = .ok (.ireturn, 1) := by decide +kernel
theorem dX11_next_34 : decode cX11_next 34 = .ok (.aload_n 0, 1) := by decide +kernel
theorem dX11_next_35 : decode cX11_next 35 = .ok (.getfield 61, 3) := by decide +kernel
theorem dX11_next_38 : decode cX11_next 38 = .ok (.bipush 30, 2) := by decide +kernel
theorem dX11_next_40 : decode cX11_next 40 = .ok (.iload_n 1, 1) := by decide +kernel
theorem dX11_next_41 : decode cX11_next 41 = .ok (.imul, 1) := by decide +kernel
theorem dX11_next_42 : decode cX11_next 42 = .ok (.aload_n 0, 1) := by decide +kernel
theorem dX11_next_43 : decode cX11_next 43 = .ok (.iload_n 1, 1) := by decide +kernel
theorem dX11_next_44 : decode cX11_next 44 = .ok (.iload_n 2, 1) := by decide +kernel
theorem dX11_next_45 : decode cX11_next 45 = .ok (.invokevirtual 389, 3) := by decide +kernel
theorem dX11_next_48 : decode cX11_next 48 = .ok (.iadd, 1) := by decide +kernel
theorem dX11_next_49 : decode cX11_next 49 = .ok (.iaload, 1) := by decide +kernel
theorem dX11_next_50 : decode cX11_next 50 = .ok (.ireturn, 1) := by decide +kernel
theorem dX11_inside_0 : decode cX11_inside 0 = .ok (.aload_n 0, 1) := by decide +kernel
theorem dX11_inside_1 : decode cX11_inside 1 = .ok (.iload_n 1, 1) := by decide +kernel
theorem dX11_inside_2 : decode cX11_inside 2 = .ok (.invokevirtual 321, 3) := by decide +kernel
theorem dX11_inside_5 : decode cX11_inside 5 = .ok (.ifCond .eq 33, 3) := by decide +kernel
theorem dX11_inside_8 : decode cX11_inside 8 = .ok (.iload_n 2, 1) := by decide +kernel
theorem dX11_inside_9 : decode cX11_inside 9 = .ok (.iconst 0, 1) := by decide +kernel
theorem dX11_inside_10 : decode cX11_inside 10 = .ok (.aload_n 0, 1) := by decide +kernel
theorem dX11_inside_11 : decode cX11_inside 11 = .ok (.getfield 58, 3) := by decide +kernel
theorem dX11_inside_14 : decode cX11_inside 14 = .ok (.iload_n 1, 1) := by decide +kernel
theorem dX11_inside_15 : decode cX11_inside 15 = .ok (.iaload, 1) := by decide +kernel
theorem dX11_inside_16 : decode cX11_inside 16 = .ok (.iconst 1, 1) := by decide +kernel
theorem dX11_inside_17 : decode cX11_inside 17 = .ok (.isub, 1) := by decide +kernel
theorem dX11_inside_18 : decode cX11_inside 18 = .ok (.invokestatic 122, 3) := by decide +kernel
