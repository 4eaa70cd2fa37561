theorem dX11_inside_21 : decode cX11_inside 21 = .ok (.ifCond .eq 17, 3) := by decide +kernel
theorem dX11_inside_24 : decode cX11_inside 24 = .ok (.aload_n 0, 1) := by decide +kernel
theorem dX11_inside_25 : decode cX11_inside 25 = .ok (.getfield 61, 3) := by decide +kernel
theorem dX11_inside_28 : decode cX11_inside 28 = .ok (.bipush 30, 2) := by decide +kernel
theorem dX11_inside_30 : decode cX11_inside 30 = .ok (.iload_n 1, 1) := by decide +kernel
theorem dX11_inside_31 : decode cX11_inside 31 = .ok (.imul, 1) := by decide +kernel
theorem dX11_inside_32 : decode cX11_inside 32 = .ok (.iload_n 2, 1) := by decide +kernel
theorem dX11_inside_33 : decode cX11_inside 33 = .ok (.iadd, 1) := by decide +kernel
theorem dX11_inside_34 : decode cX11_inside 34 = .ok (.iaload, 1) := by decide +kernel
theorem dX11_inside_35 : decode cX11_inside 35 = .ok (.goto 4, 3) := by decide +kernel
theorem dX11_inside_38 : decode cX11_inside 38 = .ok (.iconst (-1), 1) := by decide +kernel
theorem dX11_inside_39 : decode cX11_inside 39 = .ok (.ireturn, 1) := by decide +kernel
theorem dX11_somebodyComes_0 : decode cX11_somebodyComes 0 = .ok (.aload_n 0, 1) := by decide +kernel
theorem dX11_somebodyComes_1 : decode cX11_somebodyComes 1 = .ok (.bipush 16, 2) := by decide +kernel
theorem dX11_somebodyComes_3 : decode cX11_somebodyComes 3 = .ok (.invokevirtual 392, 3) := by decide +kernel
theorem dX11_somebodyComes_6 : decode cX11_somebodyComes 6 = .ok (.aload_n 0, 1) := by decide +kernel
theorem dX11_somebodyComes_7 : decode cX11_somebodyComes 7 = .ok (.iload_n 1, 1) := by decide +kernel
theorem dX11_somebodyComes_8 : decode cX11_somebodyComes 8 = .ok (.iconst 0, 1) := by decide +kernel
theorem dX11_somebodyComes_9 : decode cX11_somebodyComes 9 = .ok (.invokevirtual 327, 3) := by decide +kernel
theorem dX11_somebodyComes_12 : decode cX11_somebodyComes 12 = .ok (.if_icmp .lt 4, 3) := by decide +kernel
theorem dX11_somebodyComes_15 : decode cX11_somebodyComes 15 = .ok (.return_, 1) := by decide +kernel
theorem dX11_somebodyComes_16 : decode cX11_somebodyComes 16 = .ok (.aload_n 0, 1) := by decide +kernel
theorem dX11_somebodyComes_17 : decode cX11_somebodyComes 17 = .ok (.invokevirtual 359, 3) := by decide +kernel
theorem dX11_somebodyComes_20 : decode cX11_somebodyComes 20 = .ok (.istore_n 2, 1) := by decide +kernel
theorem dX11_somebodyComes_21 : decode cX11_somebodyComes 21 = .ok (.iload_n 2, 1) := by decide +kernel
theorem dX11_somebodyComes_22 : decode cX11_somebodyComes 22 = .ok (.iconst (-1), 1) := by decide +kernel
theorem dX11_somebodyComes_23 : decode cX11_somebodyComes 23 = .ok (.if_icmp .ne 4, 3) := by decide +kernel
theorem dX11_somebodyComes_26 : decode cX11_somebodyComes 26 = .ok (.return_, 1) := by decide +kernel
theorem dX11_somebodyComes_27 : decode cX11_somebodyComes 27 = .ok (.iconst 0, 1) := by decide +kernel
theorem dX11_somebodyComes_28 : decode cX11_somebodyComes 28 = .ok (.istore_n 3, 1) := by decide +kernel
theorem dX11_somebodyComes_29 : decode cX11_somebodyComes 29 = .ok (.iconst 1, 1) := by decide +kernel
theorem dX11_somebodyComes_30 : decode cX11_somebodyComes 30 = .ok (.istore 4, 2) := by decide +kernel
theorem dX11_somebodyComes_32 : decode cX11_somebodyComes 32 = .ok (.iload 4, 2) := by decide +kernel
theorem dX11_somebodyComes_34 : decode cX11_somebodyComes 34 = .ok (.aload_n 0, 1) := by decide +kernel
theorem dX11_somebodyComes_35 : decode cX11_somebodyComes 35 = .ok (.getfield 288, 3) := by decide +kernel
theorem dX11_somebodyComes_38 : decode cX11_somebodyComes 38 = .ok (.if_icmp .ge 28, 3) := by decide +kernel
theorem dX11_somebodyComes_41 : decode cX11_somebodyComes 41 = .ok (.aload_n 0, 1) := by decide +kernel
theorem dX11_somebodyComes_42 : decode cX11_somebodyComes 42 = .ok (.getfield 58, 3) := by decide +kernel
theorem dX11_somebodyComes_45 : decode cX11_somebodyComes 45 = .ok (.iload 4, 2) := by decide +kernel
theorem dX11_somebodyComes_47 : decode cX11_somebodyComes 47 = .ok (.iaload, 1) := by decide +kernel
theorem dX11_somebodyComes_48 : decode cX11_somebodyComes 48 = .ok (.aload_n 0, 1) := by decide +kernel
theorem dX11_somebodyComes_49 : decode cX11_somebodyComes 49 = .ok (.getfield 58, 3) := by decide +kernel
theorem dX11_somebodyComes_52 : decode cX11_somebodyComes 52 = .ok (.iload_n 3, 1) := by decide +kernel
theorem dX11_somebodyComes_53 : decode cX11_somebodyComes 53 = .ok (.iaload, 1) := by decide +kernel
theorem dX11_somebodyComes_54 : decode cX11_somebodyComes 54 = .ok (.if_icmp .ge 6, 3) := by decide +kernel
theorem dX11_somebodyComes_57 : decode cX11_somebodyComes 57 = .ok (.iload 4, 2) := by decide +kernel
theorem dX11_somebodyComes_59 : decode cX11_somebodyComes 59 = .ok (.istore_n 3, 1) := by decide +kernel
theorem dX11_somebodyComes_60 : decode cX11_somebodyComes 60 = .ok (.iinc 4 1, 3) := by decide +kernel
theorem dX11_somebodyComes_63 : decode cX11_somebodyComes 63 = .ok (.goto (-31), 3) := by decide +kernel
theorem dX11_somebodyComes_66 : decode cX11_somebodyComes 66 = .ok (.aload_n 0, 1) := by decide +kernel
theorem dX11_somebodyComes_67 : decode cX11_somebodyComes 67 = .ok (.iload_n 2, 1) := by decide +kernel
theorem dX11_somebodyComes_68 : decode cX11_somebodyComes 68 = .ok (.iload_n 1, 1) := by decide +kernel
theorem dX11_somebodyComes_69 : decode cX11_somebodyComes 69 = .ok (.iload_n 3, 1) := by decide +kernel
theorem dX11_somebodyComes_70 : decode cX11_somebodyComes 70 = .ok (.aload_n 0, 1) := by decide +kernel
theorem dX11_somebodyComes_71 : decode cX11_somebodyComes 71 = .ok (.iload_n 1, 1) := by decide +kernel
theorem dX11_somebodyComes_72 : decode cX11_somebodyComes 72 = .ok (.iconst 5, 1) := by decide +kernel
theorem dX11_somebodyComes_73 : decode cX11_somebodyComes 73 = .ok (.invokevirtual 327, 3) := by decide +kernel
theorem dX11_somebodyComes_76 : decode cX11_somebodyComes 76 = .ok (.iconst 2, 1) := by decide +kernel
theorem dX11_somebodyComes_77 : decode cX11_somebodyComes 77 = .ok (.if_icmp .lt 12, 3) := by decide +kernel
theorem dX11_somebodyComes_80 : decode cX11_somebodyComes 80 = .ok (.aload_n 0, 1) := by decide +kernel
theorem dX11_somebodyComes_81 : decode cX11_somebodyComes 81 = .ok (.getfield 58, 3) := by decide +kernel
theorem dX11_somebodyComes_84 : decode cX11_somebodyComes 84 = .ok (.iload_n 3, 1) := by decide +kernel
theorem dX11_somebodyComes_85 : decode cX11_somebodyComes 85 = .ok (.iaload, 1) := by decide +kernel
theorem dX11_somebodyComes_86 : decode cX11_somebodyComes 86 = .ok (.ifCond .ne 7, 3) := by decide +kernel
theorem dX11_somebodyComes_89 : decode cX11_somebodyComes 89 = .ok (.iconst 1, 1) := by decide +kernel
theorem dX11_somebodyComes_90 : decode cX11_somebodyComes 90 = .ok (.goto 4, 3) := by decide +kernel
theorem dX11_somebodyComes_93 : decode cX11_somebodyComes 93 = .ok (.iconst 0, 1) := by decide +kernel
theorem dX11_somebodyComes_94 : decode cX11_somebodyComes 94 = .ok (.invokevirtual 362, 3) := by decide +kernel
theorem dX11_somebodyComes_97 : decode cX11_somebodyComes 97 = .ok (.return_, 1) := by decide +kernel
theorem dX11_serves_0 : decode cX11_serves 0 = .ok (.aload_n 0, 1) := by decide +kernel
theorem dX11_serves_1 : decode cX11_serves 1 = .ok (.getfield 27, 3) := by decide +kernel
theorem dX11_serves_4 : decode cX11_serves 4 = .ok (.iconst 3, 1) := by decide +kernel
theorem dX11_serves_5 : decode cX11_serves 5 = .ok (.iload_n 1, 1) := by decide +kernel
theorem dX11_serves_6 : decode cX11_serves 6 = .ok (.imul, 1) := by decide +kernel
theorem dX11_serves_7 : decode cX11_serves 7 = .ok (.iaload, 1) := by decide +kernel
theorem dX11_serves_8 : decode cX11_serves 8 = .ok (.istore_n 2, 1) := by decide +kernel
theorem dX11_serves_9 : decode cX11_serves 9 = .ok (.aload_n 0, 1) := by decide +kernel
theorem dX11_serves_10 : decode cX11_serves 10 = .ok (.getfield 58, 3) := by decide +kernel
theorem dX11_serves_13 : decode cX11_serves 13 = .ok (.iload_n 1, 1) := by decide +kernel
theorem dX11_serves_14 : decode cX11_serves 14 = .ok (.iaload, 1) := by decide +kernel
theorem dX11_serves_15 : decode cX11_serves 15 = .ok (.istore_n 3, 1) := by decide +kernel
theorem dX11_serves_16 : decode cX11_serves 16 = .ok (.iload_n 2, 1) := by decide +kernel
theorem dX11_serves_17 : decode cX11_serves 17 = .ok (.iconst 3, 1) := by decide +kernel
theorem dX11_serves_18 : decode cX11_serves 18 = .ok (.if_icmp .ne 11, 3) := by decide +kernel
theorem dX11_serves_21 : decode cX11_serves 21 = .ok (.aload_n 0, 1) := by decide +kernel
theorem dX11_serves_22 : decode cX11_serves 22 = .ok (.iload_n 3, 1) := by decide +kernel
theorem dX11_serves_23 : decode cX11_serves 23 = .ok (.invokevirtual 392, 3) := by decide +kernel
theorem dX11_serves_26 : decode cX11_serves 26 = .ok (.goto 9, 3) := by decide +kernel
theorem dX11_serves_29 : decode cX11_serves 29 = .ok (.aload_n 0, 1) := by decide +kernel
theorem dX11_serves_30 : decode cX11_serves 30 = .ok (.iload_n 1, 1) := by decide +kernel
theorem dX11_serves_31 : decode cX11_serves 31 = .ok (.iload_n 2, 1) := by decide +kernel
theorem dX11_serves_32 : decode cX11_serves 32 = .ok (.invokevirtual 389, 3) := by decide +kernel
theorem dX11_serves_35 : decode cX11_serves 35 = .ok (.istore 4, 2) := by decide +kernel
theorem dX11_serves_37 : decode cX11_serves 37 = .ok (.aload_n 0, 1) := by decide +kernel
theorem dX11_serves_38 : decode cX11_serves 38 = .ok (.getfield 61, 3) := by decide +kernel
theorem dX11_serves_41 : decode cX11_serves 41 = .ok (.bipush 30, 2) := by decide +kernel
theorem dX11_serves_43 : decode cX11_serves 43 = .ok (.iload_n 1, 1) := by decide +kernel
theorem dX11_serves_44 : decode cX11_serves 44 = .ok (.imul, 1) := by decide +kernel
theorem dX11_serves_45 : decode cX11_serves 45 = .ok (.iload 4, 2) := by decide +kernel
theorem dX11_serves_47 : decode cX11_serves 47 = .ok (.iadd, 1) := by decide +kernel
theorem dX11_serves_48 : decode cX11_serves 48 = .ok (.iaload, 1) := by decide +kernel
theorem dX11_serves_49 : decode cX11_serves 49 = .ok (.istore 5, 2) := by decide +kernel
theorem dX11_serves_51 : decode cX11_serves 51 = .ok (.aload_n 0, 1) := by decide +kernel
theorem dX11_serves_52 : decode cX11_serves 52 = .ok (.iload 5, 2) := by decide +kernel
theorem dX11_serves_54 : decode cX11_serves 54 = .ok (.iconst 0, 1) := by decide +kernel
theorem dX11_serves_55 : decode cX11_serves 55 = .ok (.invokevirtual 317, 3) := by decide +kernel
theorem dX11_serves_58 : decode cX11_serves 58 = .ok (.istore 6, 2) := by decide +kernel
theorem dX11_serves_60 : decode cX11_serves 60 = .ok (.aload_n 0, 1) := by decide +kernel
theorem dX11_serves_61 : decode cX11_serves 61 = .ok (.getfield 301, 3) := by decide +kernel
theorem dX11_serves_64 : decode cX11_serves 64 = .ok (.aload_n 0, 1) := by decide +kernel
theorem dX11_serves_65 : decode cX11_serves 65 = .ok (.iload 5, 2) := by decide +kernel
theorem dX11_serves_67 : decode cX11_serves 67 = .ok (.iconst 3, 1) := by decide +kernel
theorem dX11_serves_68 : decode cX11_serves 68 = .ok (.invokevirtual 317, 3) := by decide +kernel
theorem dX11_serves_71 : decode cX11_serves 71 = .ok (.isub, 1) := by decide +kernel
theorem dX11_serves_72 : decode cX11_serves 72 = .ok (.istore 7, 2) := by decide +kernel
theorem dX11_serves_74 : decode cX11_serves 74 = .ok (.aload_n 0, 1) := by decide +kernel
theorem dX11_serves_75 : decode cX11_serves 75 = .ok (.getfield 303, 3) := by decide +kernel
theorem dX11_serves_78 : decode cX11_serves 78 = .ok (.bipush 20, 2) := by decide +kernel
theorem dX11_serves_80 : decode cX11_serves 80 = .ok (.if_icmp .ne 45, 3) := by decide +kernel
theorem dX11_serves_83 : decode cX11_serves 83 = .ok (.iconst 5, 1) := by decide +kernel
theorem dX11_serves_84 : decode cX11_serves 84 = .ok (.istore 8, 2) := by decide +kernel
theorem dX11_serves_86 : decode cX11_serves 86 = .ok (.iload 8, 2) := by decide +kernel
theorem dX11_serves_88 : decode cX11_serves 88 = .ok (.bipush 100, 2) := by decide +kernel
theorem dX11_serves_90 : decode cX11_serves 90 = .ok (.if_icmp .ge 25, 3) := by decide +kernel
theorem dX11_serves_93 : decode cX11_serves 93 = .ok (.aload_n 0, 1) := by decide +kernel
theorem dX11_serves_94 : decode cX11_serves 94 = .ok (.getfield 70, 3) := by decide +kernel
theorem dX11_serves_97 : decode cX11_serves 97 = .ok (.iload 8, 2) := by decide +kernel
theorem dX11_serves_99 : decode cX11_serves 99 = .ok (.iconst 5, 1) := by decide +kernel
theorem dX11_serves_100 : decode cX11_serves 100 = .ok (.isub, 1) := by decide +kernel
theorem dX11_serves_101 : decode cX11_serves 101 = .ok (.aload_n 0, 1) := by decide +kernel
theorem dX11_serves_102 : decode cX11_serves 102 = .ok (.getfield 70, 3) := by decide +kernel
theorem dX11_serves_105 : decode cX11_serves 105 = .ok (.iload 8, 2) := by decide +kernel
theorem dX11_serves_107 : decode cX11_serves 107 = .ok (.iaload, 1) := by decide +kernel
theorem dX11_serves_108 : decode cX11_serves 108 = .ok (.iastore, 1) := by decide +kernel
theorem dX11_serves_109 : decode cX11_serves 109 = .ok (.iinc 8 1, 3) := by decide +kernel
theorem dX11_serves_112 : decode cX11_serves 112 = .ok (.goto (-26), 3) := by decide +kernel
theorem dX11_serves_115 : decode cX11_serves 115 = .ok (.aload_n 0, 1) := by decide +kernel
theorem dX11_serves_116 : decode cX11_serves 116 = .ok (.dup, 1) := by decide +kernel
theorem dX11_serves_117 : decode cX11_serves 117 = .ok (.getfield 303, 3) := by decide +kernel
theorem dX11_serves_120 : decode cX11_serves 120 = .ok (.iconst 1, 1) := by decide +kernel
theorem dX11_serves_121 : decode cX11_serves 121 = .ok (.isub, 1) := by decide +kernel
theorem dX11_serves_122 : decode cX11_serves 122 = .ok (.putfield 303, 3) := by decide +kernel
theorem dX11_serves_125 : decode cX11_serves 125 = .ok (.iconst 5, 1) := by decide +kernel
theorem dX11_serves_126 : decode cX11_serves 126 = .ok (.aload_n 0, 1) := by decide +kernel
theorem dX11_serves_127 : decode cX11_serves 127 = .ok (.getfield 303, 3) := by decide +kernel
theorem dX11_serves_130 : decode cX11_serves 130 = .ok (.imul, 1) := by decide +kernel
theorem dX11_serves_131 : decode cX11_serves 131 = .ok (.istore 8, 2) := by decide +kernel
theorem dX11_serves_133 : decode cX11_serves 133 = .ok (.aload_n 0, 1) := by decide +kernel
theorem dX11_serves_134 : decode cX11_serves 134 = .ok (.getfield 70, 3) := by decide +kernel
theorem dX11_serves_137 : decode cX11_serves 137 = .ok (.iload 8, 2) := by decide +kernel
theorem dX11_serves_139 : decode cX11_serves 139 = .ok (.aload_n 0, 1) := by decide +kernel
theorem dX11_serves_140 : decode cX11_serves 140 = .ok (.getfield 301, 3) := by decide +kernel
theorem dX11_serves_143 : decode cX11_serves 143 = .ok (.iastore, 1) := by decide +kernel
theorem dX11_serves_144 : decode cX11_serves 144 = .ok (.aload_n 0, 1) := by decide +kernel
theorem dX11_serves_145 : decode cX11_serves 145 = .ok (.getfield 70, 3) := by decide +kernel
theorem dX11_serves_148 : decode cX11_serves 148 = .ok (.iload 8, 2) := by decide +kernel
theorem dX11_serves_150 : decode cX11_serves 150 = .ok (.iconst 1, 1) := by decide +kernel
theorem dX11_serves_151 : decode cX11_serves 151 = .ok (.iadd, 1) := by decide +kernel
theorem dX11_serves_152 : decode cX11_serves 152 = .ok (.iload_n 1, 1) := by decide +kernel
theorem dX11_serves_153 : decode cX11_serves 153 = .ok (.iastore, 1) := by decide +kernel
theorem dX11_serves_154 : decode cX11_serves 154 = .ok (.aload_n 0, 1) := by decide +kernel
theorem dX11_serves_155 : decode cX11_serves 155 = .ok (.getfield 70, 3) := by decide +kernel
theorem dX11_serves_158 : decode cX11_serves 158 = .ok (.iload 8, 2) := by decide +kernel
theorem dX11_serves_160 : decode cX11_serves 160 = .ok (.iconst 2, 1) := by decide +kernel
theorem dX11_serves_161 : decode cX11_serves 161 = .ok (.iadd, 1) := by decide +kernel
theorem dX11_serves_162 : decode cX11_serves 162 = .ok (.iload 5, 2) := by decide +kernel
theorem dX11_serves_164 : decode cX11_serves 164 = .ok (.iastore, 1) := by decide +kernel
theorem dX11_serves_165 : decode cX11_serves 165 = .ok (.aload_n 0, 1) := by decide +kernel
theorem dX11_serves_166 : decode cX11_serves 166 = .ok (.getfield 70, 3) := by decide +kernel
theorem dX11_serves_169 : decode cX11_serves 169 = .ok (.iload 8, 2) := by decide +kernel
theorem dX11_serves_171 : decode cX11_serves 171 = .ok (.iconst 3, 1) := by decide +kernel
theorem dX11_serves_172 : decode cX11_serves 172 = .ok (.iadd, 1) := by decide +kernel
theorem dX11_serves_173 : decode cX11_serves 173 = .ok (.iload_n 3, 1) := by decide +kernel
theorem dX11_serves_174 : decode cX11_serves 174 = .ok (.iastore, 1) := by decide +kernel
theorem dX11_serves_175 : decode cX11_serves 175 = .ok (.aload_n 0, 1) := by decide +kernel
theorem dX11_serves_176 : decode cX11_serves 176 = .ok (.getfield 70, 3) := by decide +kernel
theorem dX11_serves_179 : decode cX11_serves 179 = .ok (.iload 8, 2) := by decide +kernel
theorem dX11_serves_181 : decode cX11_serves 181 = .ok (.iconst 4, 1) := by decide +kernel
theorem dX11_serves_182 : decode cX11_serves 182 = .ok (.iadd, 1) := by decide +kernel
theorem dX11_serves_183 : decode cX11_serves 183 = .ok (.iload 4, 2) := by decide +kernel
theorem dX11_serves_185 : decode cX11_serves 185 = .ok (.iastore, 1) := by decide +kernel
theorem dX11_serves_186 : decode cX11_serves 186 = .ok (.aload_n 0, 1) := by decide +kernel
theorem dX11_serves_187 : decode cX11_serves 187 = .ok (.dup, 1) := by decide +kernel
theorem dX11_serves_188 : decode cX11_serves 188 = .ok (.getfield 303, 3) := by decide +kernel
theorem dX11_serves_191 : decode cX11_serves 191 = .ok (.iconst 1, 1) := by decide +kernel
theorem dX11_serves_192 : decode cX11_serves 192 = .ok (.iadd, 1) := by decide +kernel
theorem dX11_serves_193 : decode cX11_serves 193 = .ok (.putfield 303, 3) := by decide +kernel
theorem dX11_serves_196 : decode cX11_serves 196 = .ok (.aload_n 0, 1) := by decide +kernel
theorem dX11_serves_197 : decode cX11_serves 197 = .ok (.iload 5, 2) := by decide +kernel
theorem dX11_serves_199 : decode cX11_serves 199 = .ok (.invokevirtual 356, 3) := by decide +kernel
theorem dX11_serves_202 : decode cX11_serves 202 = .ok (.aload_n 0, 1) := by decide +kernel
theorem dX11_serves_203 : decode cX11_serves 203 = .ok (.iload 5, 2) := by decide +kernel
theorem dX11_serves_205 : decode cX11_serves 205 = .ok (.iconst 2, 1) := by decide +kernel
theorem dX11_serves_206 : decode cX11_serves 206 = .ok (.iconst (-1), 1) := by decide +kernel
theorem dX11_serves_207 : decode cX11_serves 207 = .ok (.invokevirtual 343, 3) := by decide +kernel
theorem dX11_serves_210 : decode cX11_serves 210 = .ok (.aload_n 0, 1) := by decide +kernel
theorem dX11_serves_211 : decode cX11_serves 211 = .ok (.getfield 52, 3) := by decide +kernel
theorem dX11_serves_214 : decode cX11_serves 214 = .ok (.iload_n 1, 1) := by decide +kernel
theorem dX11_serves_215 : decode cX11_serves 215 = .ok (.dup2, 1) := by decide +kernel
theorem dX11_serves_216 : decode cX11_serves 216 = .ok (.iaload, 1) := by decide +kernel
theorem dX11_serves_217 : decode cX11_serves 217 = .ok (.iconst 1, 1) := by decide +kernel
theorem dX11_serves_218 : decode cX11_serves 218 = .ok (.isub, 1) := by decide +kernel
theorem dX11_serves_219 : decode cX11_serves 219 = .ok (.iastore, 1) := by decide +kernel
theorem dX11_serves_220 : decode cX11_serves 220 = .ok (.aload_n 0, 1) := by decide +kernel
theorem dX11_serves_221 : decode cX11_serves 221 = .ok (.getfield 55, 3) := by decide +kernel
theorem dX11_serves_224 : decode cX11_serves 224 = .ok (.iload_n 1, 1) := by decide +kernel
theorem dX11_serves_225 : decode cX11_serves 225 = .ok (.aload_n 0, 1) := by decide +kernel
theorem dX11_serves_226 : decode cX11_serves 226 = .ok (.getfield 301, 3) := by decide +kernel
theorem dX11_serves_229 : decode cX11_serves 229 = .ok (.aload_n 0, 1) := by decide +kernel
theorem dX11_serves_230 : decode cX11_serves 230 = .ok (.getfield 27, 3) := by decide +kernel
theorem dX11_serves_233 : decode cX11_serves 233 = .ok (.iconst 3, 1) := by decide +kernel
theorem dX11_serves_234 : decode cX11_serves 234 = .ok (.iload_n 1, 1) := by decide +kernel
theorem dX11_serves_235 : decode cX11_serves 235 = .ok (.imul, 1) := by decide +kernel
theorem dX11_serves_236 : decode cX11_serves 236 = .ok (.iconst 1, 1) := by decide +kernel
theorem dX11_serves_237 : decode cX11_serves 237 = .ok (.iadd, 1) := by decide +kernel
theorem dX11_serves_238 : decode cX11_serves 238 = .ok (.iaload, 1) := by decide +kernel
theorem dX11_serves_239 : decode cX11_serves 239 = .ok (.iadd, 1) := by decide +kernel
theorem dX11_serves_240 : decode cX11_serves 240 = .ok (.iastore, 1) := by decide +kernel
theorem dX11_serves_241 : decode cX11_serves 241 = .ok (.aload_n 0, 1) := by decide +kernel
theorem dX11_serves_242 : decode cX11_serves 242 = .ok (.iload 6, 2) := by decide +kernel
theorem dX11_serves_244 : decode cX11_serves 244 = .ok (.iconst 1, 1) := by decide +kernel
theorem dX11_serves_245 : decode cX11_serves 245 = .ok (.iconst 1, 1) := by decide +kernel
theorem dX11_serves_246 : decode cX11_serves 246 = .ok (.invokevirtual 347, 3) := by decide +kernel
theorem dX11_serves_249 : decode cX11_serves 249 = .ok (.aload_n 0, 1) := by decide +kernel
theorem dX11_serves_250 : decode cX11_serves 250 = .ok (.iload 6, 2) := by decide +kernel
theorem dX11_serves_252 : decode cX11_serves 252 = .ok (.iconst 3, 1) := by decide +kernel
theorem dX11_serves_253 : decode cX11_serves 253 = .ok (.iload 7, 2) := by decide +kernel
theorem dX11_serves_255 : decode cX11_serves 255 = .ok (.invokevirtual 347, 3) := by decide +kernel
theorem dX11_serves_258 : decode cX11_serves 258 = .ok (.aload_n 0, 1) := by decide +kernel
theorem dX11_serves_259 : decode cX11_serves 259 = .ok (.iload 6, 2) := by decide +kernel
theorem dX11_serves_261 : decode cX11_serves 261 = .ok (.iconst 4, 1) := by decide +kernel
theorem dX11_serves_262 : decode cX11_serves 262 = .ok (.iload 7, 2) := by decide +kernel
theorem dX11_serves_264 : decode cX11_serves 264 = .ok (.iload 7, 2) := by decide +kernel
theorem dX11_serves_266 : decode cX11_serves 266 = .ok (.imul, 1) := by decide +kernel
theorem dX11_serves_267 : decode cX11_serves 267 = .ok (.invokevirtual 347, 3) := by decide +kernel
theorem dX11_serves_270 : decode cX11_serves 270 = .ok (.aload_n 0, 1) := by decide +kernel
theorem dX11_serves_271 : decode cX11_serves 271 = .ok (.getfield 67, 3) := by decide +kernel
theorem dX11_serves_274 : decode cX11_serves 274 = .ok (.bipush 7, 2) := by decide +kernel
theorem dX11_serves_276 : decode cX11_serves 276 = .ok (.iload 6, 2) := by decide +kernel
theorem dX11_serves_278 : decode cX11_serves 278 = .ok (.imul, 1) := by decide +kernel
theorem dX11_serves_279 : decode cX11_serves 279 = .ok (.iconst 5, 1) := by decide +kernel
theorem dX11_serves_280 : decode cX11_serves 280 = .ok (.iadd, 1) := by decide +kernel
theorem dX11_serves_281 : decode cX11_serves 281 = .ok (.aload_n 0, 1) := by decide +kernel
theorem dX11_serves_282 : decode cX11_serves 282 = .ok (.getfield 67, 3) := by decide +kernel
theorem dX11_serves_285 : decode cX11_serves 285 = .ok (.bipush 7, 2) := by decide +kernel
theorem dX11_serves_287 : decode cX11_serves 287 = .ok (.iload 6, 2) := by decide +kernel
theorem dX11_serves_289 : decode cX11_serves 289 = .ok (.imul, 1) := by decide +kernel
theorem dX11_serves_290 : decode cX11_serves 290 = .ok (.iconst 5, 1) := by decide +kernel
theorem dX11_serves_291 : decode cX11_serves 291 = .ok (.iadd, 1) := by decide +kernel
theorem dX11_serves_292 : decode cX11_serves 292 = .ok (.iaload, 1) := by decide +kernel
theorem dX11_serves_293 : decode cX11_serves 293 = .ok (.iload 7, 2) := by decide +kernel
theorem dX11_serves_295 : decode cX11_serves 295 = .ok (.invokestatic 395, 3) := by decide +kernel
theorem dX11_serves_298 : decode cX11_serves 298 = .ok (.iastore, 1) := by decide +kernel
theorem dX11_serves_299 : decode cX11_serves 299 = .ok (.aload_n 0, 1) := by decide +kernel
theorem dX11_serves_300 : decode cX11_serves 300 = .ok (.iload 6, 2) := by decide +kernel
theorem dX11_serves_302 : decode cX11_serves 302 = .ok (.bipush 6, 2) := by decide +kernel
theorem dX11_serves_304 : decode cX11_serves 304 = .ok (.aload_n 0, 1) := by decide +kernel
theorem dX11_serves_305 : decode cX11_serves 305 = .ok (.iload 6, 2) := by decide +kernel
theorem dX11_serves_307 : decode cX11_serves 307 = .ok (.iconst 1, 1) := by decide +kernel
theorem dX11_serves_308 : decode cX11_serves 308 = .ok (.invokevirtual 327, 3) := by decide +kernel
theorem dX11_serves_311 : decode cX11_serves 311 = .ok (.invokevirtual 347, 3) := by decide +kernel
theorem dX11_serves_314 : decode cX11_serves 314 = .ok (.return_, 1) := by decide +kernel
theorem dX11_minuteGoes_0 : decode cX11_minuteGoes 0 = .ok (.iconst 0, 1) := by decide +kernel
theorem dX11_minuteGoes_1 : decode cX11_minuteGoes 1 = .ok (.istore_n 1, 1) := by decide +kernel
theorem dX11_minuteGoes_2 : decode cX11_minuteGoes 2 = .ok (.iload_n 1, 1) := by decide +kernel
theorem dX11_minuteGoes_3 : decode cX11_minuteGoes 3 = .ok (.aload_n 0, 1) := by decide +kernel
theorem dX11_minuteGoes_4 : decode cX11_minuteGoes 4 = .ok (.getfield 291, 3) := by decide +kernel
theorem dX11_minuteGoes_7 : decode cX11_minuteGoes 7 = .ok (.if_icmp .ge 14, 3) := by decide +kernel
theorem dX11_minuteGoes_10 : decode cX11_minuteGoes 10 = .ok (.aload_n 0, 1) := by decide +kernel
theorem dX11_minuteGoes_11 : decode cX11_minuteGoes 11 = .ok (.iload_n 1, 1) := by decide +kernel
theorem dX11_minuteGoes_12 : decode cX11_minuteGoes 12 = .ok (.invokevirtual 400, 3) := by decide +kernel
theorem dX11_minuteGoes_15 : decode cX11_minuteGoes 15 = .ok (.iinc 1 1, 3) := by decide +kernel
theorem dX11_minuteGoes_18 : decode cX11_minuteGoes 18 = .ok (.goto (-16), 3) := by decide +kernel
theorem dX11_minuteGoes_21 : decode cX11_minuteGoes 21 = .ok (.iconst 0, 1) := by decide +kernel
theorem dX11_minuteGoes_22 : decode cX11_minuteGoes 22 = .ok (.istore_n 1, 1) := by decide +kernel
theorem dX11_minuteGoes_23 : decode cX11_minuteGoes 23 = .ok (.iload_n 1, 1) := by decide +kernel
theorem dX11_minuteGoes_24 : decode cX11_minuteGoes 24 = .ok (.bipush 30, 2) := by decide +kernel
theorem dX11_minuteGoes_26 : decode cX11_minuteGoes 26 = .ok (.if_icmp .ge 72, 3) := by decide +kernel
theorem dX11_minuteGoes_29 : decode cX11_minuteGoes 29 = .ok (.aload_n 0, 1) := by decide +kernel
theorem dX11_minuteGoes_30 : decode cX11_minuteGoes 30 = .ok (.iload_n 1, 1) := by decide +kernel
theorem dX11_minuteGoes_31 : decode cX11_minuteGoes 31 = .ok (.iconst 2, 1) := by decide +kernel
theorem dX11_minuteGoes_32 : decode cX11_minuteGoes 32 = .ok (.invokevirtual 317, 3) := by decide +kernel
theorem dX11_minuteGoes_35 : decode cX11_minuteGoes 35 = .ok (.iconst 2, 1) := by decide +kernel
theorem dX11_minuteGoes_36 : decode cX11_minuteGoes 36 = .ok (.if_icmp .ne 17, 3) := by decide +kernel
theorem dX11_minuteGoes_39 : decode cX11_minuteGoes 39 = .ok (.aload_n 0, 1) := by decide +kernel
theorem dX11_minuteGoes_40 : decode cX11_minuteGoes 40 = .ok (.getfield 58, 3) := by decide +kernel
theorem dX11_minuteGoes_43 : decode cX11_minuteGoes 43 = .ok (.aload_n 0, 1) := by decide +kernel
theorem dX11_minuteGoes_44 : decode cX11_minuteGoes 44 = .ok (.iload_n 1, 1) := by decide +kernel
theorem dX11_minuteGoes_45 : decode cX11_minuteGoes 45 = .ok (.iconst 1, 1) := by decide +kernel
theorem dX11_minuteGoes_46 : decode cX11_minuteGoes 46 = .ok (.invokevirtual 317, 3) := by decide +kernel
theorem dX11_minuteGoes_49 : decode cX11_minuteGoes 49 = .ok (.iaload, 1) := by decide +kernel
theorem dX11_minuteGoes_50 : decode cX11_minuteGoes 50 = .ok (.ifCond .eq 27, 3) := by decide +kernel
theorem dX11_minuteGoes_53 : decode cX11_minuteGoes 53 = .ok (.aload_n 0, 1) := by decide +kernel
theorem dX11_minuteGoes_54 : decode cX11_minuteGoes 54 = .ok (.iload_n 1, 1) := by decide +kernel
theorem dX11_minuteGoes_55 : decode cX11_minuteGoes 55 = .ok (.iconst 2, 1) := by decide +kernel
theorem dX11_minuteGoes_56 : decode cX11_minuteGoes 56 = .ok (.invokevirtual 317, 3) := by decide +kernel
theorem dX11_minuteGoes_59 : decode cX11_minuteGoes 59 = .ok (.iconst 1, 1) := by decide +kernel
theorem dX11_minuteGoes_60 : decode cX11_minuteGoes 60 = .ok (.if_icmp .ne 21, 3) := by decide +kernel
theorem dX11_minuteGoes_63 : decode cX11_minuteGoes 63 = .ok (.aload_n 0, 1) := by decide +kernel
theorem dX11_minuteGoes_64 : decode cX11_minuteGoes 64 = .ok (.iload_n 1, 1) := by decide +kernel
theorem dX11_minuteGoes_65 : decode cX11_minuteGoes 65 = .ok (.bipush 6, 2) := by decide +kernel
theorem dX11_minuteGoes_67 : decode cX11_minuteGoes 67 = .ok (.invokevirtual 317, 3) := by decide +kernel
theorem dX11_minuteGoes_70 : decode cX11_minuteGoes 70 = .ok (.aload_n 0, 1) := by decide +kernel
theorem dX11_minuteGoes_71 : decode cX11_minuteGoes 71 = .ok (.getfield 301, 3) := by decide +kernel
theorem dX11_minuteGoes_74 : decode cX11_minuteGoes 74 = .ok (.if_icmp .gt 7, 3) := by decide +kernel
theorem dX11_minuteGoes_77 : decode cX11_minuteGoes 77 = .ok (.iconst 1, 1) := by decide +kernel
theorem dX11_minuteGoes_78 : decode cX11_minuteGoes 78 = .ok (.goto 4, 3) := by decide +kernel
theorem dX11_minuteGoes_81 : decode cX11_minuteGoes 81 = .ok (.iconst 0, 1) := by decide +kernel
theorem dX11_minuteGoes_82 : decode cX11_minuteGoes 82 = .ok (.istore_n 2, 1) := by decide +kernel
theorem dX11_minuteGoes_83 : decode cX11_minuteGoes 83 = .ok (.iload_n 2, 1) := by decide +kernel
theorem dX11_minuteGoes_84 : decode cX11_minuteGoes 84 = .ok (.ifCond .eq 8, 3) := by decide +kernel
theorem dX11_minuteGoes_87 : decode cX11_minuteGoes 87 = .ok (.aload_n 0, 1) := by decide +kernel
theorem dX11_minuteGoes_88 : decode cX11_minuteGoes 88 = .ok (.iload_n 1, 1) := by decide +kernel
theorem dX11_minuteGoes_89 : decode cX11_minuteGoes 89 = .ok (.invokevirtual 350, 3) := by decide +kernel
theorem dX11_minuteGoes_92 : decode cX11_minuteGoes 92 = .ok (.iinc 1 1, 3) := by decide +kernel
theorem dX11_minuteGoes_95 : decode cX11_minuteGoes 95 = .ok (.goto (-72), 3) := by decide +kernel
theorem dX11_minuteGoes_98 : decode cX11_minuteGoes 98 = .ok (.iconst 0, 1) := by decide +kernel
theorem dX11_minuteGoes_99 : decode cX11_minuteGoes 99 = .ok (.istore_n 1, 1) := by decide +kernel
theorem dX11_minuteGoes_100 : decode cX11_minuteGoes 100 = .ok (.iload_n 1, 1) := by decide +kernel
theorem dX11_minuteGoes_101 : decode cX11_minuteGoes 101 = .ok (.bipush 30, 2) := by decide +kernel
theorem dX11_minuteGoes_103 : decode cX11_minuteGoes 103 = .ok (.if_icmp .ge 59, 3) := by decide +kernel
theorem dX11_minuteGoes_106 : decode cX11_minuteGoes 106 = .ok (.aload_n 0, 1) := by decide +kernel
theorem dX11_minuteGoes_107 : decode cX11_minuteGoes 107 = .ok (.iload_n 1, 1) := by decide +kernel
theorem dX11_minuteGoes_108 : decode cX11_minuteGoes 108 = .ok (.iconst 2, 1) := by decide +kernel
theorem dX11_minuteGoes_109 : decode cX11_minuteGoes 109 = .ok (.invokevirtual 317, 3) := by decide +kernel
theorem dX11_minuteGoes_112 : decode cX11_minuteGoes 112 = .ok (.ifCond .ne 44, 3) := by decide +kernel
theorem dX11_minuteGoes_115 : decode cX11_minuteGoes 115 = .ok (.aload_n 0, 1) := by decide +kernel
theorem dX11_minuteGoes_116 : decode cX11_minuteGoes 116 = .ok (.aload_n 0, 1) := by decide +kernel
theorem dX11_minuteGoes_117 : decode cX11_minuteGoes 117 = .ok (.iload_n 1, 1) := by decide +kernel
theorem dX11_minuteGoes_118 : decode cX11_minuteGoes 118 = .ok (.iconst 0, 1) := by decide +kernel
theorem dX11_minuteGoes_119 : decode cX11_minuteGoes 119 = .ok (.invokevirtual 317, 3) := by decide +kernel
theorem dX11_minuteGoes_122 : decode cX11_minuteGoes 122 = .ok (.iconst 5, 1) := by decide +kernel
theorem dX11_minuteGoes_123 : decode cX11_minuteGoes 123 = .ok (.invokevirtual 327, 3) := by decide +kernel
theorem dX11_minuteGoes_126 : decode cX11_minuteGoes 126 = .ok (.iconst 1, 1) := by decide +kernel
theorem dX11_minuteGoes_127 : decode cX11_minuteGoes 127 = .ok (.if_icmp .ne 29, 3) := by decide +kernel
theorem dX11_minuteGoes_130 : decode cX11_minuteGoes 130 = .ok (.aload_n 0, 1) := by decide +kernel
theorem dX11_minuteGoes_131 : decode cX11_minuteGoes 131 = .ok (.iload_n 1, 1) := by decide +kernel
theorem dX11_minuteGoes_132 : decode cX11_minuteGoes 132 = .ok (.invokevirtual 353, 3) := by decide +kernel
theorem dX11_minuteGoes_135 : decode cX11_minuteGoes 135 = .ok (.aload_n 0, 1) := by decide +kernel
theorem dX11_minuteGoes_136 : decode cX11_minuteGoes 136 = .ok (.getfield 58, 3) := by decide +kernel
theorem dX11_minuteGoes_139 : decode cX11_minuteGoes 139 = .ok (.aload_n 0, 1) := by decide +kernel
theorem dX11_minuteGoes_140 : decode cX11_minuteGoes 140 = .ok (.iload_n 1, 1) := by decide +kernel
theorem dX11_minuteGoes_141 : decode cX11_minuteGoes 141 = .ok (.iconst 1, 1) := by decide +kernel
theorem dX11_minuteGoes_142 : decode cX11_minuteGoes 142 = .ok (.invokevirtual 317, 3) := by decide +kernel
theorem dX11_minuteGoes_145 : decode cX11_minuteGoes 145 = .ok (.iaload, 1) := by decide +kernel
theorem dX11_minuteGoes_146 : decode cX11_minuteGoes 146 = .ok (.iconst 1, 1) := by decide +kernel
theorem dX11_minuteGoes_147 : decode cX11_minuteGoes 147 = .ok (.isub, 1) := by decide +kernel
theorem dX11_minuteGoes_148 : decode cX11_minuteGoes 148 = .ok (.if_icmp .ge 8, 3) := by decide +kernel
theorem dX11_minuteGoes_151 : decode cX11_minuteGoes 151 = .ok (.aload_n 0, 1) := by decide +kernel
theorem dX11_minuteGoes_152 : decode cX11_minuteGoes 152 = .ok (.iload_n 1, 1) := by decide +kernel
theorem dX11_minuteGoes_153 : decode cX11_minuteGoes 153 = .ok (.invokevirtual 369, 3) := by decide +kernel
theorem dX11_minuteGoes_156 : decode cX11_minuteGoes 156 = .ok (.iinc 1 1, 3) := by decide +kernel
theorem dX11_minuteGoes_159 : decode cX11_minuteGoes 159 = .ok (.goto (-59), 3) := by decide +kernel
theorem dX11_minuteGoes_162 : decode cX11_minuteGoes 162 = .ok (.iconst 0, 1) := by decide +kernel
theorem dX11_minuteGoes_163 : decode cX11_minuteGoes 163 = .ok (.istore_n 1, 1) := by decide +kernel
theorem dX11_minuteGoes_164 : decode cX11_minuteGoes 164 = .ok (.iload_n 1, 1) := by decide +kernel
theorem dX11_minuteGoes_165 : decode cX11_minuteGoes 165 = .ok (.aload_n 0, 1) := by decide +kernel
theorem dX11_minuteGoes_166 : decode cX11_minuteGoes 166 = .ok (.getfield 288, 3) := by decide +kernel
theorem dX11_minuteGoes_169 : decode cX11_minuteGoes 169 = .ok (.if_icmp .ge 45, 3) := by decide +kernel
theorem dX11_minuteGoes_172 : decode cX11_minuteGoes 172 = .ok (.aload_n 0, 1) := by decide +kernel
theorem dX11_minuteGoes_173 : decode cX11_minuteGoes 173 = .ok (.getfield 55, 3) := by decide +kernel
theorem dX11_minuteGoes_176 : decode cX11_minuteGoes 176 = .ok (.iload_n 1, 1) := by decide +kernel
theorem dX11_minuteGoes_177 : decode cX11_minuteGoes 177 = .ok (.iaload, 1) := by decide +kernel
theorem dX11_minuteGoes_178 : decode cX11_minuteGoes 178 = .ok (.aload_n 0, 1) := by decide +kernel
theorem dX11_minuteGoes_179 : decode cX11_minuteGoes 179 = .ok (.getfield 301, 3) := by decide +kernel
theorem dX11_minuteGoes_182 : decode cX11_minuteGoes 182 = .ok (.if_icmp .gt 26, 3) := by decide +kernel
theorem dX11_minuteGoes_185 : decode cX11_minuteGoes 185 = .ok (.aload_n 0, 1) := by decide +kernel
theorem dX11_minuteGoes_186 : decode cX11_minuteGoes 186 = .ok (.getfield 52, 3) := by decide +kernel
theorem dX11_minuteGoes_189 : decode cX11_minuteGoes 189 = .ok (.iload_n 1, 1) := by decide +kernel
theorem dX11_minuteGoes_190 : decode cX11_minuteGoes 190 = .ok (.iaload, 1) := by decide +kernel
theorem dX11_minuteGoes_191 : decode cX11_minuteGoes 191 = .ok (.ifCond .le 17, 3) := by decide +kernel
theorem dX11_minuteGoes_194 : decode cX11_minuteGoes 194 = .ok (.aload_n 0, 1) := by decide +kernel
theorem dX11_minuteGoes_195 : decode cX11_minuteGoes 195 = .ok (.getfield 58, 3) := by decide +kernel
theorem dX11_minuteGoes_198 : decode cX11_minuteGoes 198 = .ok (.iload_n 1, 1) := by decide +kernel
theorem dX11_minuteGoes_199 : decode cX11_minuteGoes 199 = .ok (.iaload, 1) := by decide +kernel
theorem dX11_minuteGoes_200 : decode cX11_minuteGoes 200 = .ok (.ifCond .le 8, 3) := by decide +kernel
theorem dX11_minuteGoes_203 : decode cX11_minuteGoes 203 = .ok (.aload_n 0, 1) := by decide +kernel
theorem dX11_minuteGoes_204 : decode cX11_minuteGoes 204 = .ok (.iload_n 1, 1) := by decide +kernel
theorem dX11_minuteGoes_205 : decode cX11_minuteGoes 205 = .ok (.invokevirtual 403, 3) := by decide +kernel
theorem dX11_minuteGoes_208 : decode cX11_minuteGoes 208 = .ok (.iinc 1 1, 3) := by decide +kernel
theorem dX11_minuteGoes_211 : decode cX11_minuteGoes 211 = .ok (.goto (-47), 3) := by decide +kernel
theorem dX11_minuteGoes_214 : decode cX11_minuteGoes 214 = .ok (.aload_n 0, 1) := by decide +kernel
theorem dX11_minuteGoes_215 : decode cX11_minuteGoes 215 = .ok (.dup, 1) := by decide +kernel
theorem dX11_minuteGoes_216 : decode cX11_minuteGoes 216 = .ok (.getfield 301, 3) := by decide +kernel
theorem dX11_minuteGoes_219 : decode cX11_minuteGoes 219 = .ok (.iconst 1, 1) := by decide +kernel
theorem dX11_minuteGoes_220 : decode cX11_minuteGoes 220 = .ok (.iadd, 1) := by decide +kernel
theorem dX11_minuteGoes_221 : decode cX11_minuteGoes 221 = .ok (.putfield 301, 3) := by decide +kernel
theorem dX11_minuteGoes_224 : decode cX11_minuteGoes 224 = .ok (.iconst 0, 1) := by decide +kernel
theorem dX11_minuteGoes_225 : decode cX11_minuteGoes 225 = .ok (.istore_n 1, 1) := by decide +kernel
theorem dX11_minuteGoes_226 : decode cX11_minuteGoes 226 = .ok (.iload_n 1, 1) := by decide +kernel
theorem dX11_minuteGoes_227 : decode cX11_minuteGoes 227 = .ok (.bipush 30, 2) := by decide +kernel
theorem dX11_minuteGoes_229 : decode cX11_minuteGoes 229 = .ok (.if_icmp .ge 101, 3) := by decide +kernel
theorem dX11_minuteGoes_232 : decode cX11_minuteGoes 232 = .ok (.aload_n 0, 1) := by decide +kernel
theorem dX11_minuteGoes_233 : decode cX11_minuteGoes 233 = .ok (.iload_n 1, 1) := by decide +kernel
theorem dX11_minuteGoes_234 : decode cX11_minuteGoes 234 = .ok (.iconst 2, 1) := by decide +kernel
theorem dX11_minuteGoes_235 : decode cX11_minuteGoes 235 = .ok (.invokevirtual 317, 3) := by decide +kernel
theorem dX11_minuteGoes_238 : decode cX11_minuteGoes 238 = .ok (.iconst (-1), 1) := by decide +kernel
theorem dX11_minuteGoes_239 : decode cX11_minuteGoes 239 = .ok (.if_icmp .ne 6, 3) := by decide +kernel
theorem dX11_minuteGoes_242 : decode cX11_minuteGoes 242 = .ok (.goto 82, 3) := by decide +kernel
theorem dX11_minuteGoes_245 : decode cX11_minuteGoes 245 = .ok (.aload_n 0, 1) := by decide +kernel
theorem dX11_minuteGoes_246 : decode cX11_minuteGoes 246 = .ok (.iload_n 1, 1) := by decide +kernel
theorem dX11_minuteGoes_247 : decode cX11_minuteGoes 247 = .ok (.iconst 0, 1) := by decide +kernel
theorem dX11_minuteGoes_248 : decode cX11_minuteGoes 248 = .ok (.invokevirtual 317, 3) := by decide +kernel
theorem dX11_minuteGoes_251 : decode cX11_minuteGoes 251 = .ok (.istore_n 2, 1) := by decide +kernel
theorem dX11_minuteGoes_252 : decode cX11_minuteGoes 252 = .ok (.aload_n 0, 1) := by decide +kernel
theorem dX11_minuteGoes_253 : decode cX11_minuteGoes 253 = .ok (.getfield 301, 3) := by decide +kernel
theorem dX11_minuteGoes_256 : decode cX11_minuteGoes 256 = .ok (.aload_n 0, 1) := by decide +kernel
theorem dX11_minuteGoes_257 : decode cX11_minuteGoes 257 = .ok (.iload_n 1, 1) := by decide +kernel
theorem dX11_minuteGoes_258 : decode cX11_minuteGoes 258 = .ok (.iconst 3, 1) := by decide +kernel
theorem dX11_minuteGoes_259 : decode cX11_minuteGoes 259 = .ok (.invokevirtual 317, 3) := by decide +kernel
theorem dX11_minuteGoes_262 : decode cX11_minuteGoes 262 = .ok (.isub, 1) := by decide +kernel
theorem dX11_minuteGoes_263 : decode cX11_minuteGoes 263 = .ok (.aload_n 0, 1) := by decide +kernel
theorem dX11_minuteGoes_264 : decode cX11_minuteGoes 264 = .ok (.iload_n 2, 1) := by decide +kernel
theorem dX11_minuteGoes_265 : decode cX11_minuteGoes 265 = .ok (.iconst 2, 1) := by decide +kernel
theorem dX11_minuteGoes_266 : decode cX11_minuteGoes 266 = .ok (.invokevirtual 327, 3) := by decide +kernel
theorem dX11_minuteGoes_269 : decode cX11_minuteGoes 269 = .ok (.if_icmp .ge 14, 3) := by decide +kernel
theorem dX11_minuteGoes_272 : decode cX11_minuteGoes 272 = .ok (.aload_n 0, 1) := by decide +kernel
theorem dX11_minuteGoes_273 : decode cX11_minuteGoes 273 = .ok (.getfield 301, 3) := by decide +kernel
theorem dX11_minuteGoes_276 : decode cX11_minuteGoes 276 = .ok (.aload_n 0, 1) := by decide +kernel
theorem dX11_minuteGoes_277 : decode cX11_minuteGoes 277 = .ok (.getfield 294, 3) := by decide +kernel
theorem dX11_minuteGoes_280 : decode cX11_minuteGoes 280 = .ok (.if_icmp .ne 11, 3) := by decide +kernel
theorem dX11_minuteGoes_283 : decode cX11_minuteGoes 283 = .ok (.aload_n 0, 1) := by decide +kernel
theorem dX11_minuteGoes_284 : decode cX11_minuteGoes 284 = .ok (.iload_n 1, 1) := by decide +kernel
theorem dX11_minuteGoes_285 : decode cX11_minuteGoes 285 = .ok (.invokevirtual 371, 3) := by decide +kernel
theorem dX11_minuteGoes_288 : decode cX11_minuteGoes 288 = .ok (.goto 36, 3) := by decide +kernel
theorem dX11_minuteGoes_291 : decode cX11_minuteGoes 291 = .ok (.aload_n 0, 1) := by decide +kernel
theorem dX11_minuteGoes_292 : decode cX11_minuteGoes 292 = .ok (.iload_n 2, 1) := by decide +kernel
theorem dX11_minuteGoes_293 : decode cX11_minuteGoes 293 = .ok (.bipush 6, 2) := by decide +kernel
theorem dX11_minuteGoes_295 : decode cX11_minuteGoes 295 = .ok (.aload_n 0, 1) := by decide +kernel
theorem dX11_minuteGoes_296 : decode cX11_minuteGoes 296 = .ok (.iload_n 1, 1) := by decide +kernel
theorem dX11_minuteGoes_297 : decode cX11_minuteGoes 297 = .ok (.iconst 2, 1) := by decide +kernel
theorem dX11_minuteGoes_298 : decode cX11_minuteGoes 298 = .ok (.invokevirtual 317, 3) := by decide +kernel
theorem dX11_minuteGoes_301 : decode cX11_minuteGoes 301 = .ok (.ifCond .ne 13, 3) := by decide +kernel
theorem dX11_minuteGoes_304 : decode cX11_minuteGoes 304 = .ok (.aload_n 0, 1) := by decide +kernel
theorem dX11_minuteGoes_305 : decode cX11_minuteGoes 305 = .ok (.iload_n 2, 1) := by decide +kernel
theorem dX11_minuteGoes_306 : decode cX11_minuteGoes 306 = .ok (.iconst 3, 1) := by decide +kernel
theorem dX11_minuteGoes_307 : decode cX11_minuteGoes 307 = .ok (.invokevirtual 327, 3) := by decide +kernel
theorem dX11_minuteGoes_310 : decode cX11_minuteGoes 310 = .ok (.ineg, 1) := by decide +kernel
theorem dX11_minuteGoes_311 : decode cX11_minuteGoes 311 = .ok (.goto 10, 3) := by decide +kernel
theorem dX11_minuteGoes_314 : decode cX11_minuteGoes 314 = .ok (.aload_n 0, 1) := by decide +kernel
theorem dX11_minuteGoes_315 : decode cX11_minuteGoes 315 = .ok (.iload_n 2, 1) := by decide +kernel
theorem dX11_minuteGoes_316 : decode cX11_minuteGoes 316 = .ok (.iconst 4, 1) := by decide +kernel
theorem dX11_minuteGoes_317 : decode cX11_minuteGoes 317 = .ok (.invokevirtual 327, 3) := by decide +kernel
theorem dX11_minuteGoes_320 : decode cX11_minuteGoes 320 = .ok (.ineg, 1) := by decide +kernel
theorem dX11_minuteGoes_321 : decode cX11_minuteGoes 321 = .ok (.invokevirtual 347, 3) := by decide +kernel
theorem dX11_minuteGoes_324 : decode cX11_minuteGoes 324 = .ok (.iinc 1 1, 3) := by decide +kernel
theorem dX11_minuteGoes_327 : decode cX11_minuteGoes 327 = .ok (.goto (-101), 3) := by decide +kernel
theorem dX11_minuteGoes_330 : decode cX11_minuteGoes 330 = .ok (.return_, 1) := by decide +kernel
theorem dX11_go_0 : decode cX11_go 0 = .ok (.aload_n 0, 1) := by decide +kernel
theorem dX11_go_1 : decode cX11_go 1 = .ok (.getfield 288, 3) := by decide +kernel
theorem dX11_go_4 : decode cX11_go 4 = .ok (.ifCond .eq 14, 3) := by decide +kernel
theorem dX11_go_7 : decode cX11_go 7 = .ok (.iload_n 1, 1) := by decide +kernel
theorem dX11_go_8 : decode cX11_go 8 = .ok (.iconst 1, 1) := by decide +kernel
theorem dX11_go_9 : decode cX11_go 9 = .ok (.sipush 240, 3) := by decide +kernel
theorem dX11_go_12 : decode cX11_go 12 = .ok (.invokestatic 122, 3) := by decide +kernel
theorem dX11_go_15 : decode cX11_go 15 = .ok (.ifCond .ne 5, 3) := by decide +kernel
theorem dX11_go_18 : decode cX11_go 18 = .ok (.iconst (-1), 1) := by decide +kernel
theorem dX11_go_19 : decode cX11_go 19 = .ok (.ireturn, 1) := by decide +kernel
theorem dX11_go_20 : decode cX11_go 20 = .ok (.iconst 0, 1) := by decide +kernel
theorem dX11_go_21 : decode cX11_go 21 = .ok (.istore_n 2, 1) := by decide +kernel
theorem dX11_go_22 : decode cX11_go 22 = .ok (.iload_n 2, 1) := by decide +kernel
theorem dX11_go_23 : decode cX11_go 23 = .ok (.iload_n 1, 1) := by decide +kernel
theorem dX11_go_24 : decode cX11_go 24 = .ok (.if_icmp .ge 24, 3) := by decide +kernel
theorem dX11_go_27 : decode cX11_go 27 = .ok (.aload_n 0, 1) := by decide +kernel
theorem dX11_go_28 : decode cX11_go 28 = .ok (.getfield 301, 3) := by decide +kernel
theorem dX11_go_31 : decode cX11_go 31 = .ok (.aload_n 0, 1) := by decide +kernel
theorem dX11_go_32 : decode cX11_go 32 = .ok (.getfield 294, 3) := by decide +kernel
theorem dX11_go_35 : decode cX11_go 35 = .ok (.if_icmp .ge 13, 3) := by decide +kernel
theorem dX11_go_38 : decode cX11_go 38 = .ok (.aload_n 0, 1) := by decide +kernel
theorem dX11_go_39 : decode cX11_go 39 = .ok (.invokevirtual 406, 3) := by decide +kernel
theorem dX11_go_42 : decode cX11_go 42 = .ok (.iinc 2 1, 3) := by decide +kernel
theorem dX11_go_45 : decode cX11_go 45 = .ok (.goto (-23), 3) := by decide +kernel
theorem dX11_go_48 : decode cX11_go 48 = .ok (.aload_n 0, 1) := by decide +kernel
theorem dX11_go_49 : decode cX11_go 49 = .ok (.getfield 301, 3) := by decide +kernel
theorem dX11_go_52 : decode cX11_go 52 = .ok (.ireturn, 1) := by decide +kernel
theorem dX11_comer_0 : decode cX11_comer 0 = .ok (.iload_n 1, 1) := by decide +kernel
theorem dX11_comer_1 : decode cX11_comer 1 = .ok (.iconst 0, 1) := by decide +kernel
theorem dX11_comer_2 : decode cX11_comer 2 = .ok (.sipush 200, 3) := by decide +kernel
theorem dX11_comer_5 : decode cX11_comer 5 = .ok (.invokestatic 122, 3) := by decide +kernel
theorem dX11_comer_8 : decode cX11_comer 8 = .ok (.ifCond .eq 44, 3) := by decide +kernel
theorem dX11_comer_11 : decode cX11_comer 11 = .ok (.iload_n 2, 1) := by decide +kernel
theorem dX11_comer_12 : decode cX11_comer 12 = .ok (.iconst 1, 1) := by decide +kernel
theorem dX11_comer_13 : decode cX11_comer 13 = .ok (.bipush 20, 2) := by decide +kernel
theorem dX11_comer_15 : decode cX11_comer 15 = .ok (.invokestatic 122, 3) := by decide +kernel
theorem dX11_comer_18 : decode cX11_comer 18 = .ok (.ifCond .eq 34, 3) := by decide +kernel
theorem dX11_comer_21 : decode cX11_comer 21 = .ok (.aload_n 0, 1) := by decide +kernel
theorem dX11_comer_22 : decode cX11_comer 22 = .ok (.getfield 409, 3) := by decide +kernel
theorem dX11_comer_25 : decode cX11_comer 25 = .ok (.bipush 8, 2) := by decide +kernel
theorem dX11_comer_27 : decode cX11_comer 27 = .ok (.if_icmp .eq 25, 3) := by decide +kernel
theorem dX11_comer_30 : decode cX11_comer 30 = .ok (.aload_n 0, 1) := by decide +kernel
theorem dX11_comer_31 : decode cX11_comer 31 = .ok (.getfield 409, 3) := by decide +kernel
theorem dX11_comer_34 : decode cX11_comer 34 = .ok (.ifCond .le 20, 3) := by decide +kernel
theorem dX11_comer_37 : decode cX11_comer 37 = .ok (.iload_n 1, 1) := by decide +kernel
theorem dX11_comer_38 : decode cX11_comer 38 = .ok (.aload_n 0, 1) := by decide +kernel
theorem dX11_comer_39 : decode cX11_comer 39 = .ok (.getfield 73, 3) := by decide +kernel
theorem dX11_comer_42 : decode cX11_comer 42 = .ok (.aload_n 0, 1) := by decide +kernel
theorem dX11_comer_43 : decode cX11_comer 43 = .ok (.getfield 409, 3) := by decide +kernel
theorem dX11_comer_46 : decode cX11_comer 46 = .ok (.iconst 1, 1) := by decide +kernel
theorem dX11_comer_47 : decode cX11_comer 47 = .ok (.isub, 1) := by decide +kernel
theorem dX11_comer_48 : decode cX11_comer 48 = .ok (.iaload, 1) := by decide +kernel
theorem dX11_comer_49 : decode cX11_comer 49 = .ok (.if_icmp .ge 5, 3) := by decide +kernel
theorem dX11_comer_52 : decode cX11_comer 52 = .ok (.iconst (-1), 1) := by decide +kernel
theorem dX11_comer_53 : decode cX11_comer 53 = .ok (.ireturn, 1) := by decide +kernel
theorem dX11_comer_54 : decode cX11_comer 54 = .ok (.aload_n 0, 1) := by decide +kernel
theorem dX11_comer_55 : decode cX11_comer 55 = .ok (.getfield 73, 3) := by decide +kernel
theorem dX11_comer_58 : decode cX11_comer 58 = .ok (.aload_n 0, 1) := by decide +kernel
theorem dX11_comer_59 : decode cX11_comer 59 = .ok (.getfield 409, 3) := by decide +kernel
theorem dX11_comer_62 : decode cX11_comer 62 = .ok (.iload_n 1, 1) := by decide +kernel
theorem dX11_comer_63 : decode cX11_comer 63 = .ok (.iastore, 1) := by decide +kernel
theorem dX11_comer_64 : decode cX11_comer 64 = .ok (.aload_n 0, 1) := by decide +kernel
theorem dX11_comer_65 : decode cX11_comer 65 = .ok (.getfield 76, 3) := by decide +kernel
theorem dX11_comer_68 : decode cX11_comer 68 = .ok (.aload_n 0, 1) := by decide +kernel
theorem dX11_comer_69 : decode cX11_comer 69 = .ok (.getfield 409, 3) := by decide +kernel
theorem dX11_comer_72 : decode cX11_comer 72 = .ok (.iload_n 2, 1) := by decide +kernel
theorem dX11_comer_73 : decode cX11_comer 73 = .ok (.iastore, 1) := by decide +kernel
theorem dX11_comer_74 : decode cX11_comer 74 = .ok (.aload_n 0, 1) := by decide +kernel
theorem dX11_comer_75 : decode cX11_comer 75 = .ok (.dup, 1) := by decide +kernel
theorem dX11_comer_76 : decode cX11_comer 76 = .ok (.getfield 409, 3) := by decide +kernel
theorem dX11_comer_79 : decode cX11_comer 79 = .ok (.iconst 1, 1) := by decide +kernel
theorem dX11_comer_80 : decode cX11_comer 80 = .ok (.iadd, 1) := by decide +kernel
theorem dX11_comer_81 : decode cX11_comer 81 = .ok (.putfield 409, 3) := by decide +kernel
theorem dX11_comer_84 : decode cX11_comer 84 = .ok (.aload_n 0, 1) := by decide +kernel
theorem dX11_comer_85 : decode cX11_comer 85 = .ok (.getfield 409, 3) := by decide +kernel
theorem dX11_comer_88 : decode cX11_comer 88 = .ok (.ireturn, 1) := by decide +kernel
theorem dX11_clear_0 : decode cX11_clear 0 = .ok (.aload_n 0, 1) := by decide +kernel
theorem dX11_clear_1 : decode cX11_clear 1 = .ok (.getfield 409, 3) := by decide +kernel
theorem dX11_clear_4 : decode cX11_clear 4 = .ok (.istore_n 1, 1) := by decide +kernel
theorem dX11_clear_5 : decode cX11_clear 5 = .ok (.aload_n 0, 1) := by decide +kernel
theorem dX11_clear_6 : decode cX11_clear 6 = .ok (.iconst 0, 1) := by decide +kernel
theorem dX11_clear_7 : decode cX11_clear 7 = .ok (.putfield 409, 3) := by decide +kernel
theorem dX11_clear_10 : decode cX11_clear 10 = .ok (.iload_n 1, 1) := by decide +kernel
theorem dX11_clear_11 : decode cX11_clear 11 = .ok (.ireturn, 1) := by decide +kernel
theorem dX11_gathers_0 : decode cX11_gathers 0 = .ok (.aload_n 0, 1) := by decide +kernel
theorem dX11_gathers_1 : decode cX11_gathers 1 = .ok (.iconst 0, 1) := by decide +kernel
theorem dX11_gathers_2 : decode cX11_gathers 2 = .ok (.putfield 412, 3) := by decide +kernel
theorem dX11_gathers_5 : decode cX11_gathers 5 = .ok (.iconst 0, 1) := by decide +kernel
theorem dX11_gathers_6 : decode cX11_gathers 6 = .ok (.istore_n 3, 1) := by decide +kernel
theorem dX11_gathers_7 : decode cX11_gathers 7 = .ok (.iload_n 3, 1) := by decide +kernel
theorem dX11_gathers_8 : decode cX11_gathers 8 = .ok (.aload_n 0, 1) := by decide +kernel
theorem dX11_gathers_9 : decode cX11_gathers 9 = .ok (.getfield 409, 3) := by decide +kernel
theorem dX11_gathers_12 : decode cX11_gathers 12 = .ok (.if_icmp .ge 51, 3) := by decide +kernel
theorem dX11_gathers_15 : decode cX11_gathers 15 = .ok (.iload_n 1, 1) := by decide +kernel
theorem dX11_gathers_16 : decode cX11_gathers 16 = .ok (.iload_n 3, 1) := by decide +kernel
theorem dX11_gathers_17 : decode cX11_gathers 17 = .ok (.ishr, 1) := by decide +kernel
theorem dX11_gathers_18 : decode cX11_gathers 18 = .ok (.iconst 1, 1) := by decide +kernel
theorem dX11_gathers_19 : decode cX11_gathers 19 = .ok (.iand, 1) := by decide +kernel
theorem dX11_gathers_20 : decode cX11_gathers 20 = .ok (.iconst 1, 1) := by decide +kernel
theorem dX11_gathers_21 : decode cX11_gathers 21 = .ok (.if_icmp .eq 36, 3) := by decide +kernel
theorem dX11_gathers_24 : decode cX11_gathers 24 = .ok (.aload_n 0, 1) := by decide +kernel
theorem dX11_gathers_25 : decode cX11_gathers 25 = .ok (.getfield 73, 3) := by decide +kernel
theorem dX11_gathers_28 : decode cX11_gathers 28 = .ok (.iload_n 3, 1) := by decide +kernel
theorem dX11_gathers_29 : decode cX11_gathers 29 = .ok (.iaload, 1) := by decide +kernel
theorem dX11_gathers_30 : decode cX11_gathers 30 = .ok (.iload_n 2, 1) := by decide +kernel
theorem dX11_gathers_31 : decode cX11_gathers 31 = .ok (.if_icmp .le 6, 3) := by decide +kernel
theorem dX11_gathers_34 : decode cX11_gathers 34 = .ok (.goto 23, 3) := by decide +kernel
theorem dX11_gathers_37 : decode cX11_gathers 37 = .ok (.aload_n 0, 1) := by decide +kernel
theorem dX11_gathers_38 : decode cX11_gathers 38 = .ok (.getfield 100, 3) := by decide +kernel
theorem dX11_gathers_41 : decode cX11_gathers 41 = .ok (.aload_n 0, 1) := by decide +kernel
theorem dX11_gathers_42 : decode cX11_gathers 42 = .ok (.getfield 412, 3) := by decide +kernel
theorem dX11_gathers_45 : decode cX11_gathers 45 = .ok (.iload_n 3, 1) := by decide +kernel
theorem dX11_gathers_46 : decode cX11_gathers 46 = .ok (.iastore, 1) := by decide +kernel
theorem dX11_gathers_47 : decode cX11_gathers 47 = .ok (.aload_n 0, 1) := by decide +kernel
theorem dX11_gathers_48 : decode cX11_gathers 48 = .ok (.dup, 1) := by decide +kernel
theorem dX11_gathers_49 : decode cX11_gathers 49 = .ok (.getfield 412, 3) := by decide +kernel
theorem dX11_gathers_52 : decode cX11_gathers 52 = .ok (.iconst 1, 1) := by decide +kernel
theorem dX11_gathers_53 : decode cX11_gathers 53 = .ok (.iadd, 1) := by decide +kernel
theorem dX11_gathers_54 : decode cX11_gathers 54 = .ok (.putfield 412, 3) := by decide +kernel
theorem dX11_gathers_57 : decode cX11_gathers 57 = .ok (.iinc 3 1, 3) := by decide +kernel
theorem dX11_gathers_60 : decode cX11_gathers 60 = .ok (.goto (-53), 3) := by decide +kernel
theorem dX11_gathers_63 : decode cX11_gathers 63 = .ok (.return_, 1) := by decide +kernel
theorem dX11_comerBy_0 : decode cX11_comerBy 0 = .ok (.aload_n 0, 1) := by decide +kernel
theorem dX11_comerBy_1 : decode cX11_comerBy 1 = .ok (.iload_n 1, 1) := by decide +kernel
theorem dX11_comerBy_2 : decode cX11_comerBy 2 = .ok (.invokevirtual 380, 3) := by decide +kernel
theorem dX11_comerBy_5 : decode cX11_comerBy 5 = .ok (.ifCond .ne 17, 3) := by decide +kernel
theorem dX11_comerBy_8 : decode cX11_comerBy 8 = .ok (.aload_n 0, 1) := by decide +kernel
theorem dX11_comerBy_9 : decode cX11_comerBy 9 = .ok (.getfield 100, 3) := by decide +kernel
theorem dX11_comerBy_12 : decode cX11_comerBy 12 = .ok (.iload_n 1, 1) := by decide +kernel
theorem dX11_comerBy_13 : decode cX11_comerBy 13 = .ok (.aload_n 0, 1) := by decide +kernel
theorem dX11_comerBy_14 : decode cX11_comerBy 14 = .ok (.getfield 412, 3) := by decide +kernel
theorem dX11_comerBy_17 : decode cX11_comerBy 17 = .ok (.invokestatic 386, 3) := by decide +kernel
theorem dX11_comerBy_20 : decode cX11_comerBy 20 = .ok (.iaload, 1) := by decide +kernel
theorem dX11_comerBy_21 : decode cX11_comerBy 21 = .ok (.ireturn, 1) := by decide +kernel
theorem dX11_comerBy_22 : decode cX11_comerBy 22 = .ok (.iconst 0, 1) := by decide +kernel
theorem dX11_comerBy_23 : decode cX11_comerBy 23 = .ok (.istore_n 3, 1) := by decide +kernel
theorem dX11_comerBy_24 : decode cX11_comerBy 24 = .ok (.iconst 0, 1) := by decide +kernel
theorem dX11_comerBy_25 : decode cX11_comerBy 25 = .ok (.istore 4, 2) := by decide +kernel
theorem dX11_comerBy_27 : decode cX11_comerBy 27 = .ok (.iconst 0, 1) := by decide +kernel
theorem dX11_comerBy_28 : decode cX11_comerBy 28 = .ok (.istore 5, 2) := by decide +kernel
theorem dX11_comerBy_30 : decode cX11_comerBy 30 = .ok (.iload 5, 2) := by decide +kernel
theorem dX11_comerBy_32 : decode cX11_comerBy 32 = .ok (.aload_n 0, 1) := by decide +kernel
theorem dX11_comerBy_33 : decode cX11_comerBy 33 = .ok (.getfield 412, 3) := by decide +kernel
theorem dX11_comerBy_36 : decode cX11_comerBy 36 = .ok (.if_icmp .ge 172, 3) := by decide +kernel
theorem dX11_comerBy_39 : decode cX11_comerBy 39 = .ok (.aload_n 0, 1) := by decide +kernel
theorem dX11_comerBy_40 : decode cX11_comerBy 40 = .ok (.getfield 94, 3) := by decide +kernel
theorem dX11_comerBy_43 : decode cX11_comerBy 43 = .ok (.iconst 0, 1) := by decide +kernel
theorem dX11_comerBy_44 : decode cX11_comerBy 44 = .ok (.aload_n 0, 1) := by decide +kernel
theorem dX11_comerBy_45 : decode cX11_comerBy 45 = .ok (.getfield 73, 3) := by decide +kernel
theorem dX11_comerBy_48 : decode cX11_comerBy 48 = .ok (.aload_n 0, 1) := by decide +kernel
theorem dX11_comerBy_49 : decode cX11_comerBy 49 = .ok (.getfield 100, 3) := by decide +kernel
theorem dX11_comerBy_52 : decode cX11_comerBy 52 = .ok (.iload 5, 2) := by decide +kernel
theorem dX11_comerBy_54 : decode cX11_comerBy 54 = .ok (.iaload, 1) := by decide +kernel
theorem dX11_comerBy_55 : decode cX11_comerBy 55 = .ok (.iaload, 1) := by decide +kernel
theorem dX11_comerBy_56 : decode cX11_comerBy 56 = .ok (.iastore, 1) := by decide +kernel
theorem dX11_comerBy_57 : decode cX11_comerBy 57 = .ok (.aload_n 0, 1) := by decide +kernel
theorem dX11_comerBy_58 : decode cX11_comerBy 58 = .ok (.getfield 94, 3) := by decide +kernel
theorem dX11_comerBy_61 : decode cX11_comerBy 61 = .ok (.iconst 1, 1) := by decide +kernel
theorem dX11_comerBy_62 : decode cX11_comerBy 62 = .ok (.iload_n 2, 1) := by decide +kernel
theorem dX11_comerBy_63 : decode cX11_comerBy 63 = .ok (.aload_n 0, 1) := by decide +kernel
theorem dX11_comerBy_64 : decode cX11_comerBy 64 = .ok (.getfield 73, 3) := by decide +kernel
theorem dX11_comerBy_67 : decode cX11_comerBy 67 = .ok (.aload_n 0, 1) := by decide +kernel
theorem dX11_comerBy_68 : decode cX11_comerBy 68 = .ok (.getfield 100, 3) := by decide +kernel
theorem dX11_comerBy_71 : decode cX11_comerBy 71 = .ok (.iload 5, 2) := by decide +kernel
theorem dX11_comerBy_73 : decode cX11_comerBy 73 = .ok (.iaload, 1) := by decide +kernel
theorem dX11_comerBy_74 : decode cX11_comerBy 74 = .ok (.iaload, 1) := by decide +kernel
theorem dX11_comerBy_75 : decode cX11_comerBy 75 = .ok (.isub, 1) := by decide +kernel
theorem dX11_comerBy_76 : decode cX11_comerBy 76 = .ok (.iastore, 1) := by decide +kernel
theorem dX11_comerBy_77 : decode cX11_comerBy 77 = .ok (.aload_n 0, 1) := by decide +kernel
theorem dX11_comerBy_78 : decode cX11_comerBy 78 = .ok (.getfield 94, 3) := by decide +kernel
theorem dX11_comerBy_81 : decode cX11_comerBy 81 = .ok (.iconst 2, 1) := by decide +kernel
theorem dX11_comerBy_82 : decode cX11_comerBy 82 = .ok (.aload_n 0, 1) := by decide +kernel
theorem dX11_comerBy_83 : decode cX11_comerBy 83 = .ok (.getfield 76, 3) := by decide +kernel
theorem dX11_comerBy_86 : decode cX11_comerBy 86 = .ok (.aload_n 0, 1) := by decide +kernel
theorem dX11_comerBy_87 : decode cX11_comerBy 87 = .ok (.getfield 100, 3) := by decide +kernel
theorem dX11_comerBy_90 : decode cX11_comerBy 90 = .ok (.iload 5, 2) := by decide +kernel
theorem dX11_comerBy_92 : decode cX11_comerBy 92 = .ok (.iaload, 1) := by decide +kernel
theorem dX11_comerBy_93 : decode cX11_comerBy 93 = .ok (.iaload, 1) := by decide +kernel
theorem dX11_comerBy_94 : decode cX11_comerBy 94 = .ok (.iastore, 1) := by decide +kernel
theorem dX11_comerBy_95 : decode cX11_comerBy 95 = .ok (.aload_n 0, 1) := by decide +kernel
theorem dX11_comerBy_96 : decode cX11_comerBy 96 = .ok (.getfield 94, 3) := by decide +kernel
theorem dX11_comerBy_99 : decode cX11_comerBy 99 = .ok (.iconst 3, 1) := by decide +kernel
theorem dX11_comerBy_100 : decode cX11_comerBy 100 = .ok (.iconst 0, 1) := by decide +kernel
theorem dX11_comerBy_101 : decode cX11_comerBy 101 = .ok (.iastore, 1) := by decide +kernel
theorem dX11_comerBy_102 : decode cX11_comerBy 102 = .ok (.aload_n 0, 1) := by decide +kernel
theorem dX11_comerBy_103 : decode cX11_comerBy 103 = .ok (.getfield 94, 3) := by decide +kernel
theorem dX11_comerBy_106 : decode cX11_comerBy 106 = .ok (.iconst 4, 1) := by decide +kernel
theorem dX11_comerBy_107 : decode cX11_comerBy 107 = .ok (.iload 5, 2) := by decide +kernel
theorem dX11_comerBy_109 : decode cX11_comerBy 109 = .ok (.iastore, 1) := by decide +kernel
theorem dX11_comerBy_110 : decode cX11_comerBy 110 = .ok (.aload_n 0, 1) := by decide +kernel
theorem dX11_comerBy_111 : decode cX11_comerBy 111 = .ok (.getfield 94, 3) := by decide +kernel
theorem dX11_comerBy_114 : decode cX11_comerBy 114 = .ok (.iconst 5, 1) := by decide +kernel
theorem dX11_comerBy_115 : decode cX11_comerBy 115 = .ok (.aload_n 0, 1) := by decide +kernel
theorem dX11_comerBy_116 : decode cX11_comerBy 116 = .ok (.getfield 412, 3) := by decide +kernel
theorem dX11_comerBy_119 : decode cX11_comerBy 119 = .ok (.iconst 1, 1) := by decide +kernel
theorem dX11_comerBy_120 : decode cX11_comerBy 120 = .ok (.isub, 1) := by decide +kernel
theorem dX11_comerBy_121 : decode cX11_comerBy 121 = .ok (.iload 5, 2) := by decide +kernel
theorem dX11_comerBy_123 : decode cX11_comerBy 123 = .ok (.isub, 1) := by decide +kernel
theorem dX11_comerBy_124 : decode cX11_comerBy 124 = .ok (.iastore, 1) := by decide +kernel
theorem dX11_comerBy_125 : decode cX11_comerBy 125 = .ok (.aload_n 0, 1) := by decide +kernel
theorem dX11_comerBy_126 : decode cX11_comerBy 126 = .ok (.getfield 94, 3) := by decide +kernel
theorem dX11_comerBy_129 : decode cX11_comerBy 129 = .ok (.bipush 6, 2) := by decide +kernel
theorem dX11_comerBy_131 : decode cX11_comerBy 131 = .ok (.aload_n 0, 1) := by decide +kernel
theorem dX11_comerBy_132 : decode cX11_comerBy 132 = .ok (.getfield 412, 3) := by decide +kernel
theorem dX11_comerBy_135 : decode cX11_comerBy 135 = .ok (.iastore, 1) := by decide +kernel
theorem dX11_comerBy_136 : decode cX11_comerBy 136 = .ok (.aload_n 0, 1) := by decide +kernel
theorem dX11_comerBy_137 : decode cX11_comerBy 137 = .ok (.getfield 94, 3) := by decide +kernel
theorem dX11_comerBy_140 : decode cX11_comerBy 140 = .ok (.bipush 7, 2) := by decide +kernel
theorem dX11_comerBy_142 : decode cX11_comerBy 142 = .ok (.iload_n 2, 1) := by decide +kernel
theorem dX11_comerBy_143 : decode cX11_comerBy 143 = .ok (.iastore, 1) := by decide +kernel
theorem dX11_comerBy_144 : decode cX11_comerBy 144 = .ok (.aload_n 0, 1) := by decide +kernel
theorem dX11_comerBy_145 : decode cX11_comerBy 145 = .ok (.getfield 94, 3) := by decide +kernel
theorem dX11_comerBy_148 : decode cX11_comerBy 148 = .ok (.bipush 8, 2) := by decide +kernel
theorem dX11_comerBy_150 : decode cX11_comerBy 150 = .ok (.sipush 200, 3) := by decide +kernel
theorem dX11_comerBy_153 : decode cX11_comerBy 153 = .ok (.iload_n 2, 1) := by decide +kernel
theorem dX11_comerBy_154 : decode cX11_comerBy 154 = .ok (.isub, 1) := by decide +kernel
theorem dX11_comerBy_155 : decode cX11_comerBy 155 = .ok (.iastore, 1) := by decide +kernel
theorem dX11_comerBy_156 : decode cX11_comerBy 156 = .ok (.aload_n 0, 1) := by decide +kernel
theorem dX11_comerBy_157 : decode cX11_comerBy 157 = .ok (.getfield 94, 3) := by decide +kernel
theorem dX11_comerBy_160 : decode cX11_comerBy 160 = .ok (.bipush 9, 2) := by decide +kernel
theorem dX11_comerBy_162 : decode cX11_comerBy 162 = .ok (.iconst 0, 1) := by decide +kernel
theorem dX11_comerBy_163 : decode cX11_comerBy 163 = .ok (.iastore, 1) := by decide +kernel
theorem dX11_comerBy_164 : decode cX11_comerBy 164 = .ok (.aload_n 0, 1) := by decide +kernel
theorem dX11_comerBy_165 : decode cX11_comerBy 165 = .ok (.iload_n 1, 1) := by decide +kernel
theorem dX11_comerBy_166 : decode cX11_comerBy 166 = .ok (.iconst 4, 1) := by decide +kernel
theorem dX11_comerBy_167 : decode cX11_comerBy 167 = .ok (.isub, 1) := by decide +kernel
theorem dX11_comerBy_168 : decode cX11_comerBy 168 = .ok (.invokevirtual 374, 3) := by decide +kernel
theorem dX11_comerBy_171 : decode cX11_comerBy 171 = .ok (.istore 6, 2) := by decide +kernel
theorem dX11_comerBy_173 : decode cX11_comerBy 173 = .ok (.iload 5, 2) := by decide +kernel
theorem dX11_comerBy_175 : decode cX11_comerBy 175 = .ok (.ifCond .le 20, 3) := by decide +kernel
theorem dX11_comerBy_178 : decode cX11_comerBy 178 = .ok (.aload_n 0, 1) := by decide +kernel
theorem dX11_comerBy_179 : decode cX11_comerBy 179 = .ok (.iload_n 1, 1) := by decide +kernel
theorem dX11_comerBy_180 : decode cX11_comerBy 180 = .ok (.iconst 4, 1) := by decide +kernel
theorem dX11_comerBy_181 : decode cX11_comerBy 181 = .ok (.isub, 1) := by decide +kernel
theorem dX11_comerBy_182 : decode cX11_comerBy 182 = .ok (.iload 6, 2) := by decide +kernel
theorem dX11_comerBy_184 : decode cX11_comerBy 184 = .ok (.iload 4, 2) := by decide +kernel
theorem dX11_comerBy_186 : decode cX11_comerBy 186 = .ok (.invokevirtual 377, 3) := by decide +kernel
theorem dX11_comerBy_189 : decode cX11_comerBy 189 = .ok (.ifCond .ne 6, 3) := by decide +kernel
theorem dX11_comerBy_192 : decode cX11_comerBy 192 = .ok (.goto 10, 3) := by decide +kernel
theorem dX11_comerBy_195 : decode cX11_comerBy 195 = .ok (.iload 5, 2) := by decide +kernel
theorem dX11_comerBy_197 : decode cX11_comerBy 197 = .ok (.istore_n 3, 1) := by decide +kernel
theorem dX11_comerBy_198 : decode cX11_comerBy 198 = .ok (.iload 6, 2) := by decide +kernel
theorem dX11_comerBy_200 : decode cX11_comerBy 200 = .ok (.istore 4, 2) := by decide +kernel
theorem dX11_comerBy_202 : decode cX11_comerBy 202 = .ok (.iinc 5 1, 3) := by decide +kernel
theorem dX11_comerBy_205 : decode cX11_comerBy 205 = .ok (.goto (-175), 3) := by decide +kernel
theorem dX11_comerBy_208 : decode cX11_comerBy 208 = .ok (.aload_n 0, 1) := by decide +kernel
theorem dX11_comerBy_209 : decode cX11_comerBy 209 = .ok (.getfield 100, 3) := by decide +kernel
theorem dX11_comerBy_212 : decode cX11_comerBy 212 = .ok (.iload_n 3, 1) := by decide +kernel
theorem dX11_comerBy_213 : decode cX11_comerBy 213 = .ok (.iaload, 1) := by decide +kernel
theorem dX11_comerBy_214 : decode cX11_comerBy 214 = .ok (.ireturn, 1) := by decide +kernel
theorem dX11_nextMinute_0 : decode cX11_nextMinute 0 = .ok (.iload_n 2, 1) := by decide +kernel
theorem dX11_nextMinute_1 : decode cX11_nextMinute 1 = .ok (.istore_n 3, 1) := by decide +kernel
theorem dX11_nextMinute_2 : decode cX11_nextMinute 2 = .ok (.aload_n 0, 1) := by decide +kernel
theorem dX11_nextMinute_3 : decode cX11_nextMinute 3 = .ok (.iload_n 1, 1) := by decide +kernel
theorem dX11_nextMinute_4 : decode cX11_nextMinute 4 = .ok (.iload_n 3, 1) := by decide +kernel
theorem dX11_nextMinute_5 : decode cX11_nextMinute 5 = .ok (.invokevirtual 415, 3) := by decide +kernel
theorem dX11_nextMinute_8 : decode cX11_nextMinute 8 = .ok (.iconst 0, 1) := by decide +kernel
theorem dX11_nextMinute_9 : decode cX11_nextMinute 9 = .ok (.istore 4, 2) := by decide +kernel
theorem dX11_nextMinute_11 : decode cX11_nextMinute 11 = .ok (.iload 4, 2) := by decide +kernel
theorem dX11_nextMinute_13 : decode cX11_nextMinute 13 = .ok (.aload_n 0, 1) := by decide +kernel
theorem dX11_nextMinute_14 : decode cX11_nextMinute 14 = .ok (.getfield 409, 3) := by decide +kernel
theorem dX11_nextMinute_17 : decode cX11_nextMinute 17 = .ok (.if_icmp .ge 43, 3) := by decide +kernel
theorem dX11_nextMinute_20 : decode cX11_nextMinute 20 = .ok (.aload_n 0, 1) := by decide +kernel
theorem dX11_nextMinute_21 : decode cX11_nextMinute 21 = .ok (.getfield 412, 3) := by decide +kernel
theorem dX11_nextMinute_24 : decode cX11_nextMinute 24 = .ok (.ifCond .ne 36, 3) := by decide +kernel
theorem dX11_nextMinute_27 : decode cX11_nextMinute 27 = .ok (.iload_n 1, 1) := by decide +kernel
theorem dX11_nextMinute_28 : decode cX11_nextMinute 28 = .ok (.iload 4, 2) := by decide +kernel
theorem dX11_nextMinute_30 : decode cX11_nextMinute 30 = .ok (.ishr, 1) := by decide +kernel
theorem dX11_nextMinute_31 : decode cX11_nextMinute 31 = .ok (.iconst 1, 1) := by decide +kernel
theorem dX11_nextMinute_32 : decode cX11_nextMinute 32 = .ok (.iand, 1) := by decide +kernel
theorem dX11_nextMinute_33 : decode cX11_nextMinute 33 = .ok (.iconst 1, 1) := by decide +kernel
theorem dX11_nextMinute_34 : decode cX11_nextMinute 34 = .ok (.if_icmp .ne 6, 3) := by decide +kernel
theorem dX11_nextMinute_37 : decode cX11_nextMinute 37 = .ok (.goto 17, 3) := by decide +kernel
theorem dX11_nextMinute_40 : decode cX11_nextMinute 40 = .ok (.aload_n 0, 1) := by decide +kernel
theorem dX11_nextMinute_41 : decode cX11_nextMinute 41 = .ok (.getfield 73, 3) := by decide +kernel
theorem dX11_nextMinute_44 : decode cX11_nextMinute 44 = .ok (.iload 4, 2) := by decide +kernel
theorem dX11_nextMinute_46 : decode cX11_nextMinute 46 = .ok (.iaload, 1) := by decide +kernel
theorem dX11_nextMinute_47 : decode cX11_nextMinute 47 = .ok (.istore_n 3, 1) := by decide +kernel
theorem dX11_nextMinute_48 : decode cX11_nextMinute 48 = .ok (.aload_n 0, 1) := by decide +kernel
theorem dX11_nextMinute_49 : decode cX11_nextMinute 49 = .ok (.iload_n 1, 1) := by decide +kernel
theorem dX11_nextMinute_50 : decode cX11_nextMinute 50 = .ok (.iload_n 3, 1) := by decide +kernel
theorem dX11_nextMinute_51 : decode cX11_nextMinute 51 = .ok (.invokevirtual 415, 3) := by decide +kernel
theorem dX11_nextMinute_54 : decode cX11_nextMinute 54 = .ok (.iinc 4 1, 3) := by decide +kernel
theorem dX11_nextMinute_57 : decode cX11_nextMinute 57 = .ok (.goto (-46), 3) := by decide +kernel
theorem dX11_nextMinute_60 : decode cX11_nextMinute 60 = .ok (.iload_n 3, 1) := by decide +kernel
theorem dX11_nextMinute_61 : decode cX11_nextMinute 61 = .ok (.ireturn, 1) := by decide +kernel
theorem dX11_runs_0 : decode cX11_runs 0 = .ok (.iconst 0, 1) := by decide +kernel
theorem dX11_runs_1 : decode cX11_runs 1 = .ok (.istore_n 2, 1) := by decide +kernel
theorem dX11_runs_2 : decode cX11_runs 2 = .ok (.iconst 0, 1) := by decide +kernel
theorem dX11_runs_3 : decode cX11_runs 3 = .ok (.istore_n 3, 1) := by decide +kernel
theorem dX11_runs_4 : decode cX11_runs 4 = .ok (.aload_n 0, 1) := by decide +kernel
theorem dX11_runs_5 : decode cX11_runs 5 = .ok (.iconst 0, 1) := by decide +kernel
theorem dX11_runs_6 : decode cX11_runs 6 = .ok (.putfield 418, 3) := by decide +kernel
theorem dX11_runs_9 : decode cX11_runs 9 = .ok (.aload_n 0, 1) := by decide +kernel
theorem dX11_runs_10 : decode cX11_runs 10 = .ok (.iconst 0, 1) := by decide +kernel
theorem dX11_runs_11 : decode cX11_runs 11 = .ok (.putfield 421, 3) := by decide +kernel
theorem dX11_runs_14 : decode cX11_runs 14 = .ok (.iconst 0, 1) := by decide +kernel
theorem dX11_runs_15 : decode cX11_runs 15 = .ok (.istore 4, 2) := by decide +kernel
theorem dX11_runs_17 : decode cX11_runs 17 = .ok (.iload 4, 2) := by decide +kernel
theorem dX11_runs_19 : decode cX11_runs 19 = .ok (.aload_n 0, 1) := by decide +kernel
theorem dX11_runs_20 : decode cX11_runs 20 = .ok (.getfield 409, 3) := by decide +kernel
theorem dX11_runs_23 : decode cX11_runs 23 = .ok (.if_icmp .ge 100, 3) := by decide +kernel
theorem dX11_runs_26 : decode cX11_runs 26 = .ok (.aload_n 0, 1) := by decide +kernel
theorem dX11_runs_27 : decode cX11_runs 27 = .ok (.iload_n 2, 1) := by decide +kernel
theorem dX11_runs_28 : decode cX11_runs 28 = .ok (.iload_n 3, 1) := by decide +kernel
theorem dX11_runs_29 : decode cX11_runs 29 = .ok (.invokevirtual 424, 3) := by decide +kernel
theorem dX11_runs_32 : decode cX11_runs 32 = .ok (.istore_n 3, 1) := by decide +kernel
theorem dX11_runs_33 : decode cX11_runs 33 = .ok (.aload_n 0, 1) := by decide +kernel
theorem dX11_runs_34 : decode cX11_runs 34 = .ok (.iload_n 1, 1) := by decide +kernel
theorem dX11_runs_35 : decode cX11_runs 35 = .ok (.iload_n 3, 1) := by decide +kernel
theorem dX11_runs_36 : decode cX11_runs 36 = .ok (.invokevirtual 427, 3) := by decide +kernel
theorem dX11_runs_39 : decode cX11_runs 39 = .ok (.istore 5, 2) := by decide +kernel
theorem dX11_runs_41 : decode cX11_runs 41 = .ok (.aload_n 0, 1) := by decide +kernel
theorem dX11_runs_42 : decode cX11_runs 42 = .ok (.getfield 103, 3) := by decide +kernel
theorem dX11_runs_45 : decode cX11_runs 45 = .ok (.iload 4, 2) := by decide +kernel
theorem dX11_runs_47 : decode cX11_runs 47 = .ok (.iload 5, 2) := by decide +kernel
theorem dX11_runs_49 : decode cX11_runs 49 = .ok (.iastore, 1) := by decide +kernel
theorem dX11_runs_50 : decode cX11_runs 50 = .ok (.aload_n 0, 1) := by decide +kernel
theorem dX11_runs_51 : decode cX11_runs 51 = .ok (.getfield 106, 3) := by decide +kernel
theorem dX11_runs_54 : decode cX11_runs 54 = .ok (.iload 5, 2) := by decide +kernel
theorem dX11_runs_56 : decode cX11_runs 56 = .ok (.iload_n 3, 1) := by decide +kernel
theorem dX11_runs_57 : decode cX11_runs 57 = .ok (.aload_n 0, 1) := by decide +kernel
theorem dX11_runs_58 : decode cX11_runs 58 = .ok (.getfield 73, 3) := by decide +kernel
theorem dX11_runs_61 : decode cX11_runs 61 = .ok (.iload 5, 2) := by decide +kernel
theorem dX11_runs_63 : decode cX11_runs 63 = .ok (.iaload, 1) := by decide +kernel
theorem dX11_runs_64 : decode cX11_runs 64 = .ok (.isub, 1) := by decide +kernel
theorem dX11_runs_65 : decode cX11_runs 65 = .ok (.iastore, 1) := by decide +kernel
theorem dX11_runs_66 : decode cX11_runs 66 = .ok (.aload_n 0, 1) := by decide +kernel
theorem dX11_runs_67 : decode cX11_runs 67 = .ok (.dup, 1) := by decide +kernel
theorem dX11_runs_68 : decode cX11_runs 68 = .ok (.getfield 418, 3) := by decide +kernel
theorem dX11_runs_71 : decode cX11_runs 71 = .ok (.aload_n 0, 1) := by decide +kernel
theorem dX11_runs_72 : decode cX11_runs 72 = .ok (.getfield 106, 3) := by decide +kernel
theorem dX11_runs_75 : decode cX11_runs 75 = .ok (.iload 5, 2) := by decide +kernel
theorem dX11_runs_77 : decode cX11_runs 77 = .ok (.iaload, 1) := by decide +kernel
theorem dX11_runs_78 : decode cX11_runs 78 = .ok (.iadd, 1) := by decide +kernel
theorem dX11_runs_79 : decode cX11_runs 79 = .ok (.putfield 418, 3) := by decide +kernel
theorem dX11_runs_82 : decode cX11_runs 82 = .ok (.aload_n 0, 1) := by decide +kernel
theorem dX11_runs_83 : decode cX11_runs 83 = .ok (.aload_n 0, 1) := by decide +kernel
theorem dX11_runs_84 : decode cX11_runs 84 = .ok (.getfield 421, 3) := by decide +kernel
theorem dX11_runs_87 : decode cX11_runs 87 = .ok (.aload_n 0, 1) := by decide +kernel
theorem dX11_runs_88 : decode cX11_runs 88 = .ok (.getfield 106, 3) := by decide +kernel
theorem dX11_runs_91 : decode cX11_runs 91 = .ok (.iload 5, 2) := by decide +kernel
theorem dX11_runs_93 : decode cX11_runs 93 = .ok (.iaload, 1) := by decide +kernel
theorem dX11_runs_94 : decode cX11_runs 94 = .ok (.invokestatic 395, 3) := by decide +kernel
theorem dX11_runs_97 : decode cX11_runs 97 = .ok (.putfield 421, 3) := by decide +kernel
theorem dX11_runs_100 : decode cX11_runs 100 = .ok (.iload_n 2, 1) := by decide +kernel
theorem dX11_runs_101 : decode cX11_runs 101 = .ok (.iconst 1, 1) := by decide +kernel
theorem dX11_runs_102 : decode cX11_runs 102 = .ok (.iload 5, 2) := by decide +kernel
theorem dX11_runs_104 : decode cX11_runs 104 = .ok (.ishl, 1) := by decide +kernel
theorem dX11_runs_105 : decode cX11_runs 105 = .ok (.ior, 1) := by decide +kernel
theorem dX11_runs_106 : decode cX11_runs 106 = .ok (.istore_n 2, 1) := by decide +kernel
theorem dX11_runs_107 : decode cX11_runs 107 = .ok (.iload_n 3, 1) := by decide +kernel
theorem dX11_runs_108 : decode cX11_runs 108 = .ok (.aload_n 0, 1) := by decide +kernel
theorem dX11_runs_109 : decode cX11_runs 109 = .ok (.getfield 76, 3) := by decide +kernel
theorem dX11_runs_112 : decode cX11_runs 112 = .ok (.iload 5, 2) := by decide +kernel
theorem dX11_runs_114 : decode cX11_runs 114 = .ok (.iaload, 1) := by decide +kernel
theorem dX11_runs_115 : decode cX11_runs 115 = .ok (.iadd, 1) := by decide +kernel
theorem dX11_runs_116 : decode cX11_runs 116 = .ok (.istore_n 3, 1) := by decide +kernel
theorem dX11_runs_117 : decode cX11_runs 117 = .ok (.iinc 4 1, 3) := by decide +kernel
theorem dX11_runs_120 : decode cX11_runs 120 = .ok (.goto (-103), 3) := by decide +kernel
theorem dX11_runs_123 : decode cX11_runs 123 = .ok (.return_, 1) := by decide +kernel
theorem dX11_waits_0 : decode cX11_waits 0 = .ok (.aload_n 0, 1) := by decide +kernel
theorem dX11_waits_1 : decode cX11_waits 1 = .ok (.getfield 409, 3) := by decide +kernel
theorem dX11_waits_4 : decode cX11_waits 4 = .ok (.ifCond .eq 46, 3) := by decide +kernel
theorem dX11_waits_7 : decode cX11_waits 7 = .ok (.iload_n 1, 1) := by decide +kernel
theorem dX11_waits_8 : decode cX11_waits 8 = .ok (.iconst 0, 1) := by decide +kernel
theorem dX11_waits_9 : decode cX11_waits 9 = .ok (.bipush 8, 2) := by decide +kernel
theorem dX11_waits_11 : decode cX11_waits 11 = .ok (.invokestatic 122, 3) := by decide +kernel
theorem dX11_waits_14 : decode cX11_waits 14 = .ok (.ifCond .eq 36, 3) := by decide +kernel
theorem dX11_waits_17 : decode cX11_waits 17 = .ok (.iload_n 1, 1) := by decide +kernel
theorem dX11_waits_18 : decode cX11_waits 18 = .ok (.iconst 3, 1) := by decide +kernel
theorem dX11_waits_19 : decode cX11_waits 19 = .ok (.if_icmp .eq 31, 3) := by decide +kernel
theorem dX11_waits_22 : decode cX11_waits 22 = .ok (.iload_n 3, 1) := by decide +kernel
theorem dX11_waits_23 : decode cX11_waits 23 = .ok (.iconst 0, 1) := by decide +kernel
theorem dX11_waits_24 : decode cX11_waits 24 = .ok (.iconst 4, 1) := by decide +kernel
theorem dX11_waits_25 : decode cX11_waits 25 = .ok (.invokestatic 122, 3) := by decide +kernel
theorem dX11_waits_28 : decode cX11_waits 28 = .ok (.ifCond .eq 22, 3) := by decide +kernel
theorem dX11_waits_31 : decode cX11_waits 31 = .ok (.iload_n 3, 1) := by decide +kernel
theorem dX11_waits_32 : decode cX11_waits 32 = .ok (.iconst 2, 1) := by decide +kernel
theorem dX11_waits_33 : decode cX11_waits 33 = .ok (.if_icmp .ge 19, 3) := by decide +kernel
theorem dX11_waits_36 : decode cX11_waits 36 = .ok (.iload_n 2, 1) := by decide +kernel
theorem dX11_waits_37 : decode cX11_waits 37 = .ok (.iconst 0, 1) := by decide +kernel
theorem dX11_waits_38 : decode cX11_waits 38 = .ok (.aload_n 0, 1) := by decide +kernel
theorem dX11_waits_39 : decode cX11_waits 39 = .ok (.getfield 409, 3) := by decide +kernel
theorem dX11_waits_42 : decode cX11_waits 42 = .ok (.iconst 1, 1) := by decide +kernel
theorem dX11_waits_43 : decode cX11_waits 43 = .ok (.isub, 1) := by decide +kernel
theorem dX11_waits_44 : decode cX11_waits 44 = .ok (.invokestatic 122, 3) := by decide +kernel
theorem dX11_waits_47 : decode cX11_waits 47 = .ok (.ifCond .ne 5, 3) := by decide +kernel
theorem dX11_waits_50 : decode cX11_waits 50 = .ok (.iconst (-1), 1) := by decide +kernel
theorem dX11_waits_51 : decode cX11_waits 51 = .ok (.ireturn, 1) := by decide +kernel
theorem dX11_waits_52 : decode cX11_waits 52 = .ok (.aload_n 0, 1) := by decide +kernel
theorem dX11_waits_53 : decode cX11_waits 53 = .ok (.iload_n 1, 1) := by decide +kernel
theorem dX11_waits_54 : decode cX11_waits 54 = .ok (.invokevirtual 430, 3) := by decide +kernel
theorem dX11_waits_57 : decode cX11_waits 57 = .ok (.iload_n 3, 1) := by decide +kernel
theorem dX11_waits_58 : decode cX11_waits 58 = .ok (.iconst 2, 1) := by decide +kernel
theorem dX11_waits_59 : decode cX11_waits 59 = .ok (.if_icmp .ge 23, 3) := by decide +kernel
theorem dX11_waits_62 : decode cX11_waits 62 = .ok (.iload_n 3, 1) := by decide +kernel
theorem dX11_waits_63 : decode cX11_waits 63 = .ok (.ifCond .ne 12, 3) := by decide +kernel
theorem dX11_waits_66 : decode cX11_waits 66 = .ok (.aload_n 0, 1) := by decide +kernel
theorem dX11_waits_67 : decode cX11_waits 67 = .ok (.getfield 103, 3) := by decide +kernel
theorem dX11_waits_70 : decode cX11_waits 70 = .ok (.iload_n 2, 1) := by decide +kernel
theorem dX11_waits_71 : decode cX11_waits 71 = .ok (.iaload, 1) := by decide +kernel
theorem dX11_waits_72 : decode cX11_waits 72 = .ok (.goto 9, 3) := by decide +kernel
theorem dX11_waits_75 : decode cX11_waits 75 = .ok (.aload_n 0, 1) := by decide +kernel
theorem dX11_waits_76 : decode cX11_waits 76 = .ok (.getfield 106, 3) := by decide +kernel
theorem dX11_waits_79 : decode cX11_waits 79 = .ok (.iload_n 2, 1) := by decide +kernel
theorem dX11_waits_80 : decode cX11_waits 80 = .ok (.iaload, 1) := by decide +kernel
theorem dX11_waits_81 : decode cX11_waits 81 = .ok (.ireturn, 1) := by decide +kernel
theorem dX11_waits_82 : decode cX11_waits 82 = .ok (.iload_n 3, 1) := by decide +kernel
theorem dX11_waits_83 : decode cX11_waits 83 = .ok (.iconst 3, 1) := by decide +kernel
theorem dX11_waits_84 : decode cX11_waits 84 = .ok (.if_icmp .eq 20, 3) := by decide +kernel
theorem dX11_waits_87 : decode cX11_waits 87 = .ok (.iload_n 3, 1) := by decide +kernel
theorem dX11_waits_88 : decode cX11_waits 88 = .ok (.iconst 2, 1) := by decide +kernel
theorem dX11_waits_89 : decode cX11_waits 89 = .ok (.if_icmp .ne 10, 3) := by decide +kernel
theorem dX11_waits_92 : decode cX11_waits 92 = .ok (.aload_n 0, 1) := by decide +kernel
theorem dX11_waits_93 : decode cX11_waits 93 = .ok (.getfield 418, 3) := by decide +kernel
theorem dX11_waits_96 : decode cX11_waits 96 = .ok (.goto 7, 3) := by decide +kernel
theorem dX11_waits_99 : decode cX11_waits 99 = .ok (.aload_n 0, 1) := by decide +kernel
theorem dX11_waits_100 : decode cX11_waits 100 = .ok (.getfield 421, 3) := by decide +kernel
theorem dX11_waits_103 : decode cX11_waits 103 = .ok (.ireturn, 1) := by decide +kernel
theorem dX11_waits_104 : decode cX11_waits 104 = .ok (.lconst 0, 1) := by decide +kernel
theorem dX11_waits_105 : decode cX11_waits 105 = .ok (.lstore 4, 2) := by decide +kernel
theorem dX11_waits_107 : decode cX11_waits 107 = .ok (.iconst 0, 1) := by decide +kernel
theorem dX11_waits_108 : decode cX11_waits 108 = .ok (.istore 6, 2) := by decide +kernel
theorem dX11_waits_110 : decode cX11_waits 110 = .ok (.iload 6, 2) := by decide +kernel
theorem dX11_waits_112 : decode cX11_waits 112 = .ok (.aload_n 0, 1) := by decide +kernel
theorem dX11_waits_113 : decode cX11_waits 113 = .ok (.getfield 409, 3) := by decide +kernel
theorem dX11_waits_116 : decode cX11_waits 116 = .ok (.if_icmp .ge 30, 3) := by decide +kernel
theorem dX11_waits_119 : decode cX11_waits 119 = .ok (.lload 4, 2) := by decide +kernel
theorem dX11_waits_121 : decode cX11_waits 121 = .ok (.aload_n 0, 1) := by decide +kernel
theorem dX11_waits_122 : decode cX11_waits 122 = .ok (.getfield 106, 3) := by decide +kernel
theorem dX11_waits_125 : decode cX11_waits 125 = .ok (.iload 6, 2) := by decide +kernel
theorem dX11_waits_127 : decode cX11_waits 127 = .ok (.iaload, 1) := by decide +kernel
theorem dX11_waits_128 : decode cX11_waits 128 = .ok (.aload_n 0, 1) := by decide +kernel
theorem dX11_waits_129 : decode cX11_waits 129 = .ok (.getfield 106, 3) := by decide +kernel
theorem dX11_waits_132 : decode cX11_waits 132 = .ok (.iload 6, 2) := by decide +kernel
theorem dX11_waits_134 : decode cX11_waits 134 = .ok (.iaload, 1) := by decide +kernel
theorem dX11_waits_135 : decode cX11_waits 135 = .ok (.imul, 1) := by decide +kernel
theorem dX11_waits_136 : decode cX11_waits 136 = .ok (.i2l, 1) := by decide +kernel
theorem dX11_waits_137 : decode cX11_waits 137 = .ok (.ladd, 1) := by decide +kernel
theorem dX11_waits_138 : decode cX11_waits 138 = .ok (.lstore 4, 2) := by decide +kernel
theorem dX11_waits_140 : decode cX11_waits 140 = .ok (.iinc 6 1, 3) := by decide +kernel
theorem dX11_waits_143 : decode cX11_waits 143 = .ok (.goto (-33), 3) := by decide +kernel
theorem dX11_waits_146 : decode cX11_waits 146 = .ok (.aload_n 0, 1) := by decide +kernel
theorem dX11_waits_147 : decode cX11_waits 147 = .ok (.getfield 409, 3) := by decide +kernel
theorem dX11_waits_150 : decode cX11_waits 150 = .ok (.i2l, 1) := by decide +kernel
theorem dX11_waits_151 : decode cX11_waits 151 = .ok (.lload 4, 2) := by decide +kernel
theorem dX11_waits_153 : decode cX11_waits 153 = .ok (.aload_n 0, 1) := by decide +kernel
theorem dX11_waits_154 : decode cX11_waits 154 = .ok (.getfield 418, 3) := by decide +kernel
theorem dX11_waits_157 : decode cX11_waits 157 = .ok (.i2l, 1) := by decide +kernel
theorem dX11_waits_158 : decode cX11_waits 158 = .ok (.invokestatic 330, 3) := by decide +kernel
theorem dX11_waits_161 : decode cX11_waits 161 = .ok (.ireturn, 1) := by decide +kernel
theorem dX11_lot_0 : decode cX11_lot 0 = .ok (.aload_n 0, 1) := by decide +kernel
theorem dX11_lot_1 : decode cX11_lot 1 = .ok (.getfield 409, 3) := by decide +kernel
theorem dX11_lot_4 : decode cX11_lot 4 = .ok (.ifCond .ne 5, 3) := by decide +kernel
theorem dX11_lot_7 : decode cX11_lot 7 = .ok (.iconst (-1), 1) := by decide +kernel
theorem dX11_lot_8 : decode cX11_lot 8 = .ok (.ireturn, 1) := by decide +kernel
theorem dX11_lot_9 : decode cX11_lot 9 = .ok (.iconst 1, 1) := by decide +kernel
theorem dX11_lot_10 : decode cX11_lot 10 = .ok (.aload_n 0, 1) := by decide +kernel
theorem dX11_lot_11 : decode cX11_lot 11 = .ok (.getfield 409, 3) := by decide +kernel
theorem dX11_lot_14 : decode cX11_lot 14 = .ok (.ishl, 1) := by decide +kernel
theorem dX11_lot_15 : decode cX11_lot 15 = .ok (.iconst 1, 1) := by decide +kernel
theorem dX11_lot_16 : decode cX11_lot 16 = .ok (.isub, 1) := by decide +kernel
theorem dX11_lot_17 : decode cX11_lot 17 = .ok (.istore_n 1, 1) := by decide +kernel
theorem dX11_lot_18 : decode cX11_lot 18 = .ok (.iconst 0, 1) := by decide +kernel
theorem dX11_lot_19 : decode cX11_lot 19 = .ok (.istore_n 2, 1) := by decide +kernel
theorem dX11_lot_20 : decode cX11_lot 20 = .ok (.iload_n 2, 1) := by decide +kernel
theorem dX11_lot_21 : decode cX11_lot 21 = .ok (.iload_n 1, 1) := by decide +kernel
theorem dX11_lot_22 : decode cX11_lot 22 = .ok (.if_icmp .gt 16, 3) := by decide +kernel
theorem dX11_lot_25 : decode cX11_lot 25 = .ok (.aload_n 0, 1) := by decide +kernel
theorem dX11_lot_26 : decode cX11_lot 26 = .ok (.getfield 109, 3) := by decide +kernel
theorem dX11_lot_29 : decode cX11_lot 29 = .ok (.iload_n 2, 1) := by decide +kernel
theorem dX11_lot_30 : decode cX11_lot 30 = .ok (.iconst (-1), 1) := by decide +kernel
theorem dX11_lot_31 : decode cX11_lot 31 = .ok (.iastore, 1) := by decide +kernel
theorem dX11_lot_32 : decode cX11_lot 32 = .ok (.iinc 2 1, 3) := by decide +kernel
theorem dX11_lot_35 : decode cX11_lot 35 = .ok (.goto (-15), 3) := by decide +kernel
theorem dX11_lot_38 : decode cX11_lot 38 = .ok (.aload_n 0, 1) := by decide +kernel
theorem dX11_lot_39 : decode cX11_lot 39 = .ok (.getfield 109, 3) := by decide +kernel
theorem dX11_lot_42 : decode cX11_lot 42 = .ok (.iconst 0, 1) := by decide +kernel
theorem dX11_lot_43 : decode cX11_lot 43 = .ok (.iconst 0, 1) := by decide +kernel
theorem dX11_lot_44 : decode cX11_lot 44 = .ok (.iastore, 1) := by decide +kernel
theorem dX11_lot_45 : decode cX11_lot 45 = .ok (.iconst 0, 1) := by decide +kernel
theorem dX11_lot_46 : decode cX11_lot 46 = .ok (.istore_n 2, 1) := by decide +kernel
theorem dX11_lot_47 : decode cX11_lot 47 = .ok (.iload_n 2, 1) := by decide +kernel
theorem dX11_lot_48 : decode cX11_lot 48 = .ok (.iload_n 1, 1) := by decide +kernel
theorem dX11_lot_49 : decode cX11_lot 49 = .ok (.if_icmp .ge 82, 3) := by decide +kernel
theorem dX11_lot_52 : decode cX11_lot 52 = .ok (.aload_n 0, 1) := by decide +kernel
theorem dX11_lot_53 : decode cX11_lot 53 = .ok (.getfield 109, 3) := by decide +kernel
theorem dX11_lot_56 : decode cX11_lot 56 = .ok (.iload_n 2, 1) := by decide +kernel
theorem dX11_lot_57 : decode cX11_lot 57 = .ok (.iaload, 1) := by decide +kernel
theorem dX11_lot_58 : decode cX11_lot 58 = .ok (.iconst (-1), 1) := by decide +kernel
theorem dX11_lot_59 : decode cX11_lot 59 = .ok (.if_icmp .ne 6, 3) := by decide +kernel
theorem dX11_lot_62 : decode cX11_lot 62 = .ok (.goto 63, 3) := by decide +kernel
theorem dX11_lot_65 : decode cX11_lot 65 = .ok (.aload_n 0, 1) := by decide +kernel
theorem dX11_lot_66 : decode cX11_lot 66 = .ok (.iload_n 2, 1) := by decide +kernel
theorem dX11_lot_67 : decode cX11_lot 67 = .ok (.aload_n 0, 1) := by decide +kernel
theorem dX11_lot_68 : decode cX11_lot 68 = .ok (.getfield 109, 3) := by decide +kernel
theorem dX11_lot_71 : decode cX11_lot 71 = .ok (.iload_n 2, 1) := by decide +kernel
theorem dX11_lot_72 : decode cX11_lot 72 = .ok (.iaload, 1) := by decide +kernel
theorem dX11_lot_73 : decode cX11_lot 73 = .ok (.invokevirtual 424, 3) := by decide +kernel
theorem dX11_lot_76 : decode cX11_lot 76 = .ok (.istore_n 3, 1) := by decide +kernel
theorem dX11_lot_77 : decode cX11_lot 77 = .ok (.iconst 0, 1) := by decide +kernel
theorem dX11_lot_78 : decode cX11_lot 78 = .ok (.istore 4, 2) := by decide +kernel
theorem dX11_lot_80 : decode cX11_lot 80 = .ok (.iload 4, 2) := by decide +kernel
theorem dX11_lot_82 : decode cX11_lot 82 = .ok (.aload_n 0, 1) := by decide +kernel
theorem dX11_lot_83 : decode cX11_lot 83 = .ok (.getfield 412, 3) := by decide +kernel
theorem dX11_lot_86 : decode cX11_lot 86 = .ok (.if_icmp .ge 39, 3) := by decide +kernel
theorem dX11_lot_89 : decode cX11_lot 89 = .ok (.aload_n 0, 1) := by decide +kernel
theorem dX11_lot_90 : decode cX11_lot 90 = .ok (.getfield 109, 3) := by decide +kernel
theorem dX11_lot_93 : decode cX11_lot 93 = .ok (.iload_n 2, 1) := by decide +kernel
theorem dX11_lot_94 : decode cX11_lot 94 = .ok (.iconst 1, 1) := by decide +kernel
theorem dX11_lot_95 : decode cX11_lot 95 = .ok (.aload_n 0, 1) := by decide +kernel
theorem dX11_lot_96 : decode cX11_lot 96 = .ok (.getfield 100, 3) := by decide +kernel
theorem dX11_lot_99 : decode cX11_lot 99 = .ok (.iload 4, 2) := by decide +kernel
theorem dX11_lot_101 : decode cX11_lot 101 = .ok (.iaload, 1) := by decide +kernel
theorem dX11_lot_102 : decode cX11_lot 102 = .ok (.ishl, 1) := by decide +kernel
theorem dX11_lot_103 : decode cX11_lot 103 = .ok (.ior, 1) := by decide +kernel
theorem dX11_lot_104 : decode cX11_lot 104 = .ok (.iload_n 3, 1) := by decide +kernel
theorem dX11_lot_105 : decode cX11_lot 105 = .ok (.aload_n 0, 1) := by decide +kernel
theorem dX11_lot_106 : decode cX11_lot 106 = .ok (.getfield 76, 3) := by decide +kernel
theorem dX11_lot_109 : decode cX11_lot 109 = .ok (.aload_n 0, 1) := by decide +kernel
theorem dX11_lot_110 : decode cX11_lot 110 = .ok (.getfield 100, 3) := by decide +kernel
theorem dX11_lot_113 : decode cX11_lot 113 = .ok (.iload 4, 2) := by decide +kernel
theorem dX11_lot_115 : decode cX11_lot 115 = .ok (.iaload, 1) := by decide +kernel
theorem dX11_lot_116 : decode cX11_lot 116 = .ok (.iaload, 1) := by decide +kernel
theorem dX11_lot_117 : decode cX11_lot 117 = .ok (.iadd, 1) := by decide +kernel
theorem dX11_lot_118 : decode cX11_lot 118 = .ok (.iastore, 1) := by decide +kernel
theorem dX11_lot_119 : decode cX11_lot 119 = .ok (.iinc 4 1, 3) := by decide +kernel
theorem dX11_lot_122 : decode cX11_lot 122 = .ok (.goto (-42), 3) := by decide +kernel
theorem dX11_lot_125 : decode cX11_lot 125 = .ok (.iinc 2 1, 3) := by decide +kernel
theorem dX11_lot_128 : decode cX11_lot 128 = .ok (.goto (-81), 3) := by decide +kernel
theorem dX11_lot_131 : decode cX11_lot 131 = .ok (.aload_n 0, 1) := by decide +kernel
theorem dX11_lot_132 : decode cX11_lot 132 = .ok (.getfield 112, 3) := by decide +kernel
theorem dX11_lot_135 : decode cX11_lot 135 = .ok (.iload_n 1, 1) := by decide +kernel
theorem dX11_lot_136 : decode cX11_lot 136 = .ok (.lconst 0, 1) := by decide +kernel
theorem dX11_lot_137 : decode cX11_lot 137 = .ok (.lastore, 1) := by decide +kernel
theorem dX11_lot_138 : decode cX11_lot 138 = .ok (.iload_n 1, 1) := by decide +kernel
theorem dX11_lot_139 : decode cX11_lot 139 = .ok (.iconst 1, 1) := by decide +kernel
theorem dX11_lot_140 : decode cX11_lot 140 = .ok (.isub, 1) := by decide +kernel
theorem dX11_lot_141 : decode cX11_lot 141 = .ok (.istore_n 2, 1) := by decide +kernel
theorem dX11_lot_142 : decode cX11_lot 142 = .ok (.iload_n 2, 1) := by decide +kernel
theorem dX11_lot_143 : decode cX11_lot 143 = .ok (.ifCond .lt 110, 3) := by decide +kernel
theorem dX11_lot_146 : decode cX11_lot 146 = .ok (.aload_n 0, 1) := by decide +kernel
theorem dX11_lot_147 : decode cX11_lot 147 = .ok (.getfield 109, 3) := by decide +kernel
theorem dX11_lot_150 : decode cX11_lot 150 = .ok (.iload_n 2, 1) := by decide +kernel
theorem dX11_lot_151 : decode cX11_lot 151 = .ok (.iaload, 1) := by decide +kernel
theorem dX11_lot_152 : decode cX11_lot 152 = .ok (.iconst (-1), 1) := by decide +kernel
theorem dX11_lot_153 : decode cX11_lot 153 = .ok (.if_icmp .ne 6, 3) := by decide +kernel
theorem dX11_lot_156 : decode cX11_lot 156 = .ok (.goto 91, 3) := by decide +kernel
theorem dX11_lot_159 : decode cX11_lot 159 = .ok (.aload_n 0, 1) := by decide +kernel
theorem dX11_lot_160 : decode cX11_lot 160 = .ok (.iload_n 2, 1) := by decide +kernel
theorem dX11_lot_161 : decode cX11_lot 161 = .ok (.aload_n 0, 1) := by decide +kernel
theorem dX11_lot_162 : decode cX11_lot 162 = .ok (.getfield 109, 3) := by decide +kernel
theorem dX11_lot_165 : decode cX11_lot 165 = .ok (.iload_n 2, 1) := by decide +kernel
theorem dX11_lot_166 : decode cX11_lot 166 = .ok (.iaload, 1) := by decide +kernel
theorem dX11_lot_167 : decode cX11_lot 167 = .ok (.invokevirtual 424, 3) := by decide +kernel
theorem dX11_lot_170 : decode cX11_lot 170 = .ok (.istore_n 3, 1) := by decide +kernel
theorem dX11_lot_171 : decode cX11_lot 171 = .ok (.lconst 0, 1) := by decide +kernel
theorem dX11_lot_172 : decode cX11_lot 172 = .ok (.lstore 4, 2) := by decide +kernel
theorem dX11_lot_174 : decode cX11_lot 174 = .ok (.iconst 0, 1) := by decide +kernel
theorem dX11_lot_175 : decode cX11_lot 175 = .ok (.istore 6, 2) := by decide +kernel
theorem dX11_lot_177 : decode cX11_lot 177 = .ok (.iload 6, 2) := by decide +kernel
theorem dX11_lot_179 : decode cX11_lot 179 = .ok (.aload_n 0, 1) := by decide +kernel
theorem dX11_lot_180 : decode cX11_lot 180 = .ok (.getfield 412, 3) := by decide +kernel
theorem dX11_lot_183 : decode cX11_lot 183 = .ok (.if_icmp .ge 50, 3) := by decide +kernel
theorem dX11_lot_186 : decode cX11_lot 186 = .ok (.lload 4, 2) := by decide +kernel
theorem dX11_lot_188 : decode cX11_lot 188 = .ok (.sipush 1000, 3) := by decide +kernel
theorem dX11_lot_191 : decode cX11_lot 191 = .ok (.iload_n 3, 1) := by decide +kernel
theorem dX11_lot_192 : decode cX11_lot 192 = .ok (.aload_n 0, 1) := by decide +kernel
theorem dX11_lot_193 : decode cX11_lot 193 = .ok (.getfield 73, 3) := by decide +kernel
theorem dX11_lot_196 : decode cX11_lot 196 = .ok (.aload_n 0, 1) := by decide +kernel
theorem dX11_lot_197 : decode cX11_lot 197 = .ok (.getfield 100, 3) := by decide +kernel
theorem dX11_lot_200 : decode cX11_lot 200 = .ok (.iload 6, 2) := by decide +kernel
theorem dX11_lot_202 : decode cX11_lot 202 = .ok (.iaload, 1) := by decide +kernel
theorem dX11_lot_203 : decode cX11_lot 203 = .ok (.iaload, 1) := by decide +kernel
theorem dX11_lot_204 : decode cX11_lot 204 = .ok (.isub, 1) := by decide +kernel
theorem dX11_lot_205 : decode cX11_lot 205 = .ok (.imul, 1) := by decide +kernel
theorem dX11_lot_206 : decode cX11_lot 206 = .ok (.i2l, 1) := by decide +kernel
theorem dX11_lot_207 : decode cX11_lot 207 = .ok (.aload_n 0, 1) := by decide +kernel
theorem dX11_lot_208 : decode cX11_lot 208 = .ok (.getfield 112, 3) := by decide +kernel
theorem dX11_lot_211 : decode cX11_lot 211 = .ok (.iload_n 2, 1) := by decide +kernel
theorem dX11_lot_212 : decode cX11_lot 212 = .ok (.iconst 1, 1) := by decide +kernel
theorem dX11_lot_213 : decode cX11_lot 213 = .ok (.aload_n 0, 1) := by decide +kernel
theorem dX11_lot_214 : decode cX11_lot 214 = .ok (.getfield 100, 3) := by decide +kernel
theorem dX11_lot_217 : decode cX11_lot 217 = .ok (.iload 6, 2) := by decide +kernel
theorem dX11_lot_219 : decode cX11_lot 219 = .ok (.iaload, 1) := by decide +kernel
theorem dX11_lot_220 : decode cX11_lot 220 = .ok (.ishl, 1) := by decide +kernel
theorem dX11_lot_221 : decode cX11_lot 221 = .ok (.ior, 1) := by decide +kernel
theorem dX11_lot_222 : decode cX11_lot 222 = .ok (.laload, 1) := by decide +kernel
theorem dX11_lot_223 : decode cX11_lot 223 = .ok (.ladd, 1) := by decide +kernel
theorem dX11_lot_224 : decode cX11_lot 224 = .ok (.ladd, 1) := by decide +kernel
theorem dX11_lot_225 : decode cX11_lot 225 = .ok (.lstore 4, 2) := by decide +kernel
theorem dX11_lot_227 : decode cX11_lot 227 = .ok (.iinc 6 1, 3) := by decide +kernel
theorem dX11_lot_230 : decode cX11_lot 230 = .ok (.goto (-53), 3) := by decide +kernel
theorem dX11_lot_233 : decode cX11_lot 233 = .ok (.aload_n 0, 1) := by decide +kernel
theorem dX11_lot_234 : decode cX11_lot 234 = .ok (.getfield 112, 3) := by decide +kernel
theorem dX11_lot_237 : decode cX11_lot 237 = .ok (.iload_n 2, 1) := by decide +kernel
theorem dX11_lot_238 : decode cX11_lot 238 = .ok (.lload 4, 2) := by decide +kernel
theorem dX11_lot_240 : decode cX11_lot 240 = .ok (.aload_n 0, 1) := by decide +kernel
theorem dX11_lot_241 : decode cX11_lot 241 = .ok (.getfield 412, 3) := by decide +kernel
theorem dX11_lot_244 : decode cX11_lot 244 = .ok (.i2l, 1) := by decide +kernel
theorem dX11_lot_245 : decode cX11_lot 245 = .ok (.ldiv, 1) := by decide +kernel
theorem dX11_lot_246 : decode cX11_lot 246 = .ok (.lastore, 1) := by decide +kernel
theorem dX11_lot_247 : decode cX11_lot 247 = .ok (.iinc 2 (-1), 3) := by decide +kernel
theorem dX11_lot_250 : decode cX11_lot 250 = .ok (.goto (-108), 3) := by decide +kernel
theorem dX11_lot_253 : decode cX11_lot 253 = .ok (.aload_n 0, 1) := by decide +kernel
theorem dX11_lot_254 : decode cX11_lot 254 = .ok (.getfield 112, 3) := by decide +kernel
theorem dX11_lot_257 : decode cX11_lot 257 = .ok (.iconst 0, 1) := by decide +kernel
theorem dX11_lot_258 : decode cX11_lot 258 = .ok (.laload, 1) := by decide +kernel
theorem dX11_lot_259 : decode cX11_lot 259 = .ok (.l2i, 1) := by decide +kernel
theorem dX11_lot_260 : decode cX11_lot 260 = .ok (.ireturn, 1) := by decide +kernel
theorem dX11_best_0 : decode cX11_best 0 = .ok (.aload_n 0, 1) := by decide +kernel
theorem dX11_best_1 : decode cX11_best 1 = .ok (.getfield 409, 3) := by decide +kernel
theorem dX11_best_4 : decode cX11_best 4 = .ok (.ifCond .ne 5, 3) := by decide +kernel
theorem dX11_best_7 : decode cX11_best 7 = .ok (.iconst (-1), 1) := by decide +kernel
theorem dX11_best_8 : decode cX11_best 8 = .ok (.ireturn, 1) := by decide +kernel
theorem dX11_best_9 : decode cX11_best 9 = .ok (.iconst (-1), 1) := by decide +kernel
theorem dX11_best_10 : decode cX11_best 10 = .ok (.istore_n 1, 1) := by decide +kernel
theorem dX11_best_11 : decode cX11_best 11 = .ok (.iconst 0, 1) := by decide +kernel
theorem dX11_best_12 : decode cX11_best 12 = .ok (.istore_n 2, 1) := by decide +kernel
theorem dX11_best_13 : decode cX11_best 13 = .ok (.iconst 0, 1) := by decide +kernel
theorem dX11_best_14 : decode cX11_best 14 = .ok (.istore_n 3, 1) := by decide +kernel
theorem dX11_best_15 : decode cX11_best 15 = .ok (.iconst 0, 1) := by decide +kernel
theorem dX11_best_16 : decode cX11_best 16 = .ok (.istore 4, 2) := by decide +kernel
theorem dX11_best_18 : decode cX11_best 18 = .ok (.iload 4, 2) := by decide +kernel
theorem dX11_best_20 : decode cX11_best 20 = .ok (.iconst 4, 1) := by decide +kernel
theorem dX11_best_21 : decode cX11_best 21 = .ok (.aload_n 0, 1) := by decide +kernel
theorem dX11_best_22 : decode cX11_best 22 = .ok (.getfield 285, 3) := by decide +kernel
theorem dX11_best_25 : decode cX11_best 25 = .ok (.iadd, 1) := by decide +kernel
theorem dX11_best_26 : decode cX11_best 26 = .ok (.if_icmp .ge 69, 3) := by decide +kernel
theorem dX11_best_29 : decode cX11_best 29 = .ok (.iload 4, 2) := by decide +kernel
theorem dX11_best_31 : decode cX11_best 31 = .ok (.iconst 3, 1) := by decide +kernel
theorem dX11_best_32 : decode cX11_best 32 = .ok (.if_icmp .ne 6, 3) := by decide +kernel
theorem dX11_best_35 : decode cX11_best 35 = .ok (.goto 54, 3) := by decide +kernel
theorem dX11_best_38 : decode cX11_best 38 = .ok (.aload_n 0, 1) := by decide +kernel
theorem dX11_best_39 : decode cX11_best 39 = .ok (.iload 4, 2) := by decide +kernel
theorem dX11_best_41 : decode cX11_best 41 = .ok (.invokevirtual 430, 3) := by decide +kernel
theorem dX11_best_44 : decode cX11_best 44 = .ok (.iload_n 1, 1) := by decide +kernel
theorem dX11_best_45 : decode cX11_best 45 = .ok (.iconst (-1), 1) := by decide +kernel
theorem dX11_best_46 : decode cX11_best 46 = .ok (.if_icmp .eq 30, 3) := by decide +kernel
theorem dX11_best_49 : decode cX11_best 49 = .ok (.aload_n 0, 1) := by decide +kernel
theorem dX11_best_50 : decode cX11_best 50 = .ok (.getfield 418, 3) := by decide +kernel
theorem dX11_best_53 : decode cX11_best 53 = .ok (.iload_n 2, 1) := by decide +kernel
theorem dX11_best_54 : decode cX11_best 54 = .ok (.if_icmp .gt 35, 3) := by decide +kernel
theorem dX11_best_57 : decode cX11_best 57 = .ok (.aload_n 0, 1) := by decide +kernel
theorem dX11_best_58 : decode cX11_best 58 = .ok (.getfield 418, 3) := by decide +kernel
theorem dX11_best_61 : decode cX11_best 61 = .ok (.iload_n 2, 1) := by decide +kernel
theorem dX11_best_62 : decode cX11_best 62 = .ok (.if_icmp .ne 14, 3) := by decide +kernel
theorem dX11_best_65 : decode cX11_best 65 = .ok (.aload_n 0, 1) := by decide +kernel
theorem dX11_best_66 : decode cX11_best 66 = .ok (.getfield 421, 3) := by decide +kernel
theorem dX11_best_69 : decode cX11_best 69 = .ok (.iload_n 3, 1) := by decide +kernel
theorem dX11_best_70 : decode cX11_best 70 = .ok (.if_icmp .lt 6, 3) := by decide +kernel
theorem dX11_best_73 : decode cX11_best 73 = .ok (.goto 16, 3) := by decide +kernel
theorem dX11_best_76 : decode cX11_best 76 = .ok (.iload 4, 2) := by decide +kernel
theorem dX11_best_78 : decode cX11_best 78 = .ok (.istore_n 1, 1) := by decide +kernel
theorem dX11_best_79 : decode cX11_best 79 = .ok (.aload_n 0, 1) := by decide +kernel
theorem dX11_best_80 : decode cX11_best 80 = .ok (.getfield 418, 3) := by decide +kernel
theorem dX11_best_83 : decode cX11_best 83 = .ok (.istore_n 2, 1) := by decide +kernel
theorem dX11_best_84 : decode cX11_best 84 = .ok (.aload_n 0, 1) := by decide +kernel
theorem dX11_best_85 : decode cX11_best 85 = .ok (.getfield 421, 3) := by decide +kernel
theorem dX11_best_88 : decode cX11_best 88 = .ok (.istore_n 3, 1) := by decide +kernel
theorem dX11_best_89 : decode cX11_best 89 = .ok (.iinc 4 1, 3) := by decide +kernel
theorem dX11_best_92 : decode cX11_best 92 = .ok (.goto (-74), 3) := by decide +kernel
theorem dX11_best_95 : decode cX11_best 95 = .ok (.iload_n 1, 1) := by decide +kernel
theorem dX11_best_96 : decode cX11_best 96 = .ok (.ireturn, 1) := by decide +kernel
theorem dX11_book_0 : decode cX11_book 0 = .ok (.iload_n 1, 1) := by decide +kernel
theorem dX11_book_1 : decode cX11_book 1 = .ok (.iconst (-1), 1) := by decide +kernel
theorem dX11_book_2 : decode cX11_book 2 = .ok (.if_icmp .ne 10, 3) := by decide +kernel
theorem dX11_book_5 : decode cX11_book 5 = .ok (.aload_n 0, 1) := by decide +kernel
theorem dX11_book_6 : decode cX11_book 6 = .ok (.getfield 303, 3) := by decide +kernel
theorem dX11_book_9 : decode cX11_book 9 = .ok (.goto 40, 3) := by decide +kernel
theorem dX11_book_12 : decode cX11_book 12 = .ok (.iload_n 1, 1) := by decide +kernel
theorem dX11_book_13 : decode cX11_book 13 = .ok (.iconst 0, 1) := by decide +kernel
theorem dX11_book_14 : decode cX11_book 14 = .ok (.aload_n 0, 1) := by decide +kernel
theorem dX11_book_15 : decode cX11_book 15 = .ok (.getfield 303, 3) := by decide +kernel
theorem dX11_book_18 : decode cX11_book 18 = .ok (.iconst 1, 1) := by decide +kernel
theorem dX11_book_19 : decode cX11_book 19 = .ok (.isub, 1) := by decide +kernel
theorem dX11_book_20 : decode cX11_book 20 = .ok (.invokestatic 122, 3) := by decide +kernel
theorem dX11_book_23 : decode cX11_book 23 = .ok (.ifCond .eq 25, 3) := by decide +kernel
theorem dX11_book_26 : decode cX11_book 26 = .ok (.iload_n 2, 1) := by decide +kernel
theorem dX11_book_27 : decode cX11_book 27 = .ok (.iconst 0, 1) := by decide +kernel
theorem dX11_book_28 : decode cX11_book 28 = .ok (.iconst 4, 1) := by decide +kernel
theorem dX11_book_29 : decode cX11_book 29 = .ok (.invokestatic 122, 3) := by decide +kernel
theorem dX11_book_32 : decode cX11_book 32 = .ok (.ifCond .eq 16, 3) := by decide +kernel
theorem dX11_book_35 : decode cX11_book 35 = .ok (.aload_n 0, 1) := by decide +kernel
theorem dX11_book_36 : decode cX11_book 36 = .ok (.getfield 70, 3) := by decide +kernel
theorem dX11_book_39 : decode cX11_book 39 = .ok (.iconst 5, 1) := by decide +kernel
theorem dX11_book_40 : decode cX11_book 40 = .ok (.iload_n 1, 1) := by decide +kernel
theorem dX11_book_41 : decode cX11_book 41 = .ok (.imul, 1) := by decide +kernel
theorem dX11_book_42 : decode cX11_book 42 = .ok (.iload_n 2, 1) := by decide +kernel
theorem dX11_book_43 : decode cX11_book 43 = .ok (.iadd, 1) := by decide +kernel
theorem dX11_book_44 : decode cX11_book 44 = .ok (.iaload, 1) := by decide +kernel
theorem dX11_book_45 : decode cX11_book 45 = .ok (.goto 4, 3) := by decide +kernel
theorem dX11_book_48 : decode cX11_book 48 = .ok (.iconst (-1), 1) := by decide +kernel
theorem dX11_book_49 : decode cX11_book 49 = .ok (.ireturn, 1) := by decide +kernel
theorem dX11_judge_0 : decode cX11_judge 0 = .ok (.aload_n 0, 1) := by decide +kernel
theorem dX11_judge_1 : decode cX11_judge 1 = .ok (.iload_n 1, 1) := by decide +kernel
theorem dX11_judge_2 : decode cX11_judge 2 = .ok (.invokevirtual 321, 3) := by decide +kernel
theorem dX11_judge_5 : decode cX11_judge 5 = .ok (.ifCond .eq 12, 3) := by decide +kernel
theorem dX11_judge_8 : decode cX11_judge 8 = .ok (.iload_n 2, 1) := by decide +kernel
theorem dX11_judge_9 : decode cX11_judge 9 = .ok (.iconst 0, 1) := by decide +kernel
theorem dX11_judge_10 : decode cX11_judge 10 = .ok (.iconst 2, 1) := by decide +kernel
theorem dX11_judge_11 : decode cX11_judge 11 = .ok (.invokestatic 122, 3) := by decide +kernel
theorem dX11_judge_14 : decode cX11_judge 14 = .ok (.ifCond .ne 5, 3) := by decide +kernel
theorem dX11_judge_17 : decode cX11_judge 17 = .ok (.iconst (-1), 1) := by decide +kernel
theorem dX11_judge_18 : decode cX11_judge 18 = .ok (.ireturn, 1) := by decide +kernel
theorem dX11_judge_19 : decode cX11_judge 19 = .ok (.iconst 0, 1) := by decide +kernel
theorem dX11_judge_20 : decode cX11_judge 20 = .ok (.istore_n 3, 1) := by decide +kernel
theorem dX11_judge_21 : decode cX11_judge 21 = .ok (.iconst 0, 1) := by decide +kernel
theorem dX11_judge_22 : decode cX11_judge 22 = .ok (.istore 4, 2) := by decide +kernel
theorem dX11_judge_24 : decode cX11_judge 24 = .ok (.iload 4, 2) := by decide +kernel
theorem dX11_judge_26 : decode cX11_judge 26 = .ok (.aload_n 0, 1) := by decide +kernel
theorem dX11_judge_27 : decode cX11_judge 27 = .ok (.getfield 303, 3) := by decide +kernel
theorem dX11_judge_30 : decode cX11_judge 30 = .ok (.if_icmp .ge 61, 3) := by decide +kernel
theorem dX11_judge_33 : decode cX11_judge 33 = .ok (.iload_n 3, 1) := by decide +kernel
theorem dX11_judge_34 : decode cX11_judge 34 = .ok (.aload_n 0, 1) := by decide +kernel
theorem dX11_judge_35 : decode cX11_judge 35 = .ok (.getfield 70, 3) := by decide +kernel
theorem dX11_judge_38 : decode cX11_judge 38 = .ok (.iconst 5, 1) := by decide +kernel
theorem dX11_judge_39 : decode cX11_judge 39 = .ok (.iload 4, 2) := by decide +kernel
theorem dX11_judge_41 : decode cX11_judge 41 = .ok (.imul, 1) := by decide +kernel
theorem dX11_judge_42 : decode cX11_judge 42 = .ok (.iconst 1, 1) := by decide +kernel
theorem dX11_judge_43 : decode cX11_judge 43 = .ok (.iadd, 1) := by decide +kernel
theorem dX11_judge_44 : decode cX11_judge 44 = .ok (.iaload, 1) := by decide +kernel
theorem dX11_judge_45 : decode cX11_judge 45 = .ok (.iload_n 1, 1) := by decide +kernel
theorem dX11_judge_46 : decode cX11_judge 46 = .ok (.if_icmp .ne 36, 3) := by decide +kernel
theorem dX11_judge_49 : decode cX11_judge 49 = .ok (.aload_n 0, 1) := by decide +kernel
theorem dX11_judge_50 : decode cX11_judge 50 = .ok (.getfield 70, 3) := by decide +kernel
theorem dX11_judge_53 : decode cX11_judge 53 = .ok (.iconst 5, 1) := by decide +kernel
theorem dX11_judge_54 : decode cX11_judge 54 = .ok (.iload 4, 2) := by decide +kernel
theorem dX11_judge_56 : decode cX11_judge 56 = .ok (.imul, 1) := by decide +kernel
theorem dX11_judge_57 : decode cX11_judge 57 = .ok (.iconst 4, 1) := by decide +kernel
theorem dX11_judge_58 : decode cX11_judge 58 = .ok (.iadd, 1) := by decide +kernel
theorem dX11_judge_59 : decode cX11_judge 59 = .ok (.iaload, 1) := by decide +kernel
theorem dX11_judge_60 : decode cX11_judge 60 = .ok (.iload_n 2, 1) := by decide +kernel
theorem dX11_judge_61 : decode cX11_judge 61 = .ok (.aload_n 0, 1) := by decide +kernel
theorem dX11_judge_62 : decode cX11_judge 62 = .ok (.getfield 70, 3) := by decide +kernel
theorem dX11_judge_65 : decode cX11_judge 65 = .ok (.iconst 5, 1) := by decide +kernel
theorem dX11_judge_66 : decode cX11_judge 66 = .ok (.iload 4, 2) := by decide +kernel
theorem dX11_judge_68 : decode cX11_judge 68 = .ok (.imul, 1) := by decide +kernel
theorem dX11_judge_69 : decode cX11_judge 69 = .ok (.iconst 3, 1) := by decide +kernel
theorem dX11_judge_70 : decode cX11_judge 70 = .ok (.iadd, 1) := by decide +kernel
theorem dX11_judge_71 : decode cX11_judge 71 = .ok (.iaload, 1) := by decide +kernel
theorem dX11_judge_72 : decode cX11_judge 72 = .ok (.invokestatic 386, 3) := by decide +kernel
theorem dX11_judge_75 : decode cX11_judge 75 = .ok (.if_icmp .eq 7, 3) := by decide +kernel
theorem dX11_judge_78 : decode cX11_judge 78 = .ok (.iconst 1, 1) := by decide +kernel
theorem dX11_judge_79 : decode cX11_judge 79 = .ok (.goto 4, 3) := by decide +kernel
theorem dX11_judge_82 : decode cX11_judge 82 = .ok (.iconst 0, 1) := by decide +kernel
theorem dX11_judge_83 : decode cX11_judge 83 = .ok (.iadd, 1) := by decide +kernel
theorem dX11_judge_84 : decode cX11_judge 84 = .ok (.istore_n 3, 1) := by decide +kernel
theorem dX11_judge_85 : decode cX11_judge 85 = .ok (.iinc 4 1, 3) := by decide +kernel
theorem dX11_judge_88 : decode cX11_judge 88 = .ok (.goto (-64), 3) := by decide +kernel
theorem dX11_judge_91 : decode cX11_judge 91 = .ok (.iload_n 3, 1) := by decide +kernel
theorem dX11_judge_92 : decode cX11_judge 92 = .ok (.ireturn, 1) := by decide +kernel
theorem dX11_worthAt_0 : decode cX11_worthAt 0 = .ok (.aload_n 0, 1) := by decide +kernel
theorem dX11_worthAt_1 : decode cX11_worthAt 1 = .ok (.getfield 115, 3) := by decide +kernel
theorem dX11_worthAt_4 : decode cX11_worthAt 4 = .ok (.iload_n 1, 1) := by decide +kernel
theorem dX11_worthAt_5 : decode cX11_worthAt 5 = .ok (.bipush 13, 2) := by decide +kernel
theorem dX11_worthAt_7 : decode cX11_worthAt 7 = .ok (.imul, 1) := by decide +kernel
theorem dX11_worthAt_8 : decode cX11_worthAt 8 = .ok (.iload_n 2, 1) := by decide +kernel
theorem dX11_worthAt_9 : decode cX11_worthAt 9 = .ok (.iadd, 1) := by decide +kernel
theorem dX11_worthAt_10 : decode cX11_worthAt 10 = .ok (.bipush 13, 2) := by decide +kernel
theorem dX11_worthAt_12 : decode cX11_worthAt 12 = .ok (.imul, 1) := by decide +kernel
theorem dX11_worthAt_13 : decode cX11_worthAt 13 = .ok (.iload_n 3, 1) := by decide +kernel
theorem dX11_worthAt_14 : decode cX11_worthAt 14 = .ok (.iadd, 1) := by decide +kernel
theorem dX11_worthAt_15 : decode cX11_worthAt 15 = .ok (.iaload, 1) := by decide +kernel
theorem dX11_worthAt_16 : decode cX11_worthAt 16 = .ok (.ireturn, 1) := by decide +kernel
theorem dX11_behindOf_0 : decode cX11_behindOf 0 = .ok (.iload_n 2, 1) := by decide +kernel
theorem dX11_behindOf_1 : decode cX11_behindOf 1 = .ok (.iload_n 3, 1) := by decide +kernel
theorem dX11_behindOf_2 : decode cX11_behindOf 2 = .ok (.iadd, 1) := by decide +kernel
theorem dX11_behindOf_3 : decode cX11_behindOf 3 = .ok (.bipush 12, 2) := by decide +kernel
theorem dX11_behindOf_5 : decode cX11_behindOf 5 = .ok (.if_icmp .ge 17, 3) := by decide +kernel
theorem dX11_behindOf_8 : decode cX11_behindOf 8 = .ok (.aload_n 0, 1) := by decide +kernel
theorem dX11_behindOf_9 : decode cX11_behindOf 9 = .ok (.iload_n 1, 1) := by decide +kernel
theorem dX11_behindOf_10 : decode cX11_behindOf 10 = .ok (.iconst 1, 1) := by decide +kernel
theorem dX11_behindOf_11 : decode cX11_behindOf 11 = .ok (.isub, 1) := by decide +kernel
theorem dX11_behindOf_12 : decode cX11_behindOf 12 = .ok (.iload_n 2, 1) := by decide +kernel
theorem dX11_behindOf_13 : decode cX11_behindOf 13 = .ok (.iload_n 3, 1) := by decide +kernel
theorem dX11_behindOf_14 : decode cX11_behindOf 14 = .ok (.iconst 1, 1) := by decide +kernel
theorem dX11_behindOf_15 : decode cX11_behindOf 15 = .ok (.iadd, 1) := by decide +kernel
theorem dX11_behindOf_16 : decode cX11_behindOf 16 = .ok (.invokevirtual 433, 3) := by decide +kernel
theorem dX11_behindOf_19 : decode cX11_behindOf 19 = .ok (.goto 12, 3) := by decide +kernel
theorem dX11_behindOf_22 : decode cX11_behindOf 22 = .ok (.aload_n 0, 1) := by decide +kernel
theorem dX11_behindOf_23 : decode cX11_behindOf 23 = .ok (.iload_n 1, 1) := by decide +kernel
theorem dX11_behindOf_24 : decode cX11_behindOf 24 = .ok (.iconst 1, 1) := by decide +kernel
theorem dX11_behindOf_25 : decode cX11_behindOf 25 = .ok (.isub, 1) := by decide +kernel
theorem dX11_behindOf_26 : decode cX11_behindOf 26 = .ok (.iload_n 2, 1) := by decide +kernel
theorem dX11_behindOf_27 : decode cX11_behindOf 27 = .ok (.iload_n 3, 1) := by decide +kernel
theorem dX11_behindOf_28 : decode cX11_behindOf 28 = .ok (.invokevirtual 433, 3) := by decide +kernel
theorem dX11_behindOf_31 : decode cX11_behindOf 31 = .ok (.istore 4, 2) := by decide +kernel
theorem dX11_behindOf_33 : decode cX11_behindOf 33 = .ok (.aload_n 0, 1) := by decide +kernel
theorem dX11_behindOf_34 : decode cX11_behindOf 34 = .ok (.getfield 437, 3) := by decide +kernel
theorem dX11_behindOf_37 : decode cX11_behindOf 37 = .ok (.iload 4, 2) := by decide +kernel
theorem dX11_behindOf_39 : decode cX11_behindOf 39 = .ok (.imul, 1) := by decide +kernel
theorem dX11_behindOf_40 : decode cX11_behindOf 40 = .ok (.bipush 16, 2) := by decide +kernel
theorem dX11_behindOf_42 : decode cX11_behindOf 42 = .ok (.aload_n 0, 1) := by decide +kernel
theorem dX11_behindOf_43 : decode cX11_behindOf 43 = .ok (.getfield 437, 3) := by decide +kernel
theorem dX11_behindOf_46 : decode cX11_behindOf 46 = .ok (.isub, 1) := by decide +kernel
theorem dX11_behindOf_47 : decode cX11_behindOf 47 = .ok (.aload_n 0, 1) := by decide +kernel
theorem dX11_behindOf_48 : decode cX11_behindOf 48 = .ok (.iload_n 1, 1) := by decide +kernel
theorem dX11_behindOf_49 : decode cX11_behindOf 49 = .ok (.iconst 1, 1) := by decide +kernel
theorem dX11_behindOf_50 : decode cX11_behindOf 50 = .ok (.isub, 1) := by decide +kernel
theorem dX11_behindOf_51 : decode cX11_behindOf 51 = .ok (.iload_n 2, 1) := by decide +kernel
theorem dX11_behindOf_52 : decode cX11_behindOf 52 = .ok (.iload_n 3, 1) := by decide +kernel
theorem dX11_behindOf_53 : decode cX11_behindOf 53 = .ok (.invokevirtual 433, 3) := by decide +kernel
theorem dX11_behindOf_56 : decode cX11_behindOf 56 = .ok (.imul, 1) := by decide +kernel
theorem dX11_behindOf_57 : decode cX11_behindOf 57 = .ok (.iadd, 1) := by decide +kernel
theorem dX11_behindOf_58 : decode cX11_behindOf 58 = .ok (.bipush 16, 2) := by decide +kernel
theorem dX11_behindOf_60 : decode cX11_behindOf 60 = .ok (.idiv, 1) := by decide +kernel
theorem dX11_behindOf_61 : decode cX11_behindOf 61 = .ok (.ireturn, 1) := by decide +kernel
theorem dX11_staying_0 : decode cX11_staying 0 = .ok (.sipush (-1000), 3) := by decide +kernel
theorem dX11_staying_3 : decode cX11_staying 3 = .ok (.aload_n 0, 1) := by decide +kernel
theorem dX11_staying_4 : decode cX11_staying 4 = .ok (.aload_n 0, 1) := by decide +kernel
theorem dX11_staying_5 : decode cX11_staying 5 = .ok (.getfield 440, 3) := by decide +kernel
theorem dX11_staying_8 : decode cX11_staying 8 = .ok (.iconst 3, 1) := by decide +kernel
theorem dX11_staying_9 : decode cX11_staying 9 = .ok (.invokevirtual 327, 3) := by decide +kernel
theorem dX11_staying_12 : decode cX11_staying 12 = .ok (.imul, 1) := by decide +kernel
theorem dX11_staying_13 : decode cX11_staying 13 = .ok (.istore 4, 2) := by decide +kernel
theorem dX11_staying_15 : decode cX11_staying 15 = .ok (.sipush 1000, 3) := by decide +kernel
theorem dX11_staying_18 : decode cX11_staying 18 = .ok (.aload_n 0, 1) := by decide +kernel
theorem dX11_staying_19 : decode cX11_staying 19 = .ok (.aload_n 0, 1) := by decide +kernel
theorem dX11_staying_20 : decode cX11_staying 20 = .ok (.getfield 440, 3) := by decide +kernel
theorem dX11_staying_23 : decode cX11_staying 23 = .ok (.iconst 1, 1) := by decide +kernel
theorem dX11_staying_24 : decode cX11_staying 24 = .ok (.invokevirtual 327, 3) := by decide +kernel
theorem dX11_staying_27 : decode cX11_staying 27 = .ok (.imul, 1) := by decide +kernel
theorem dX11_staying_28 : decode cX11_staying 28 = .ok (.istore 5, 2) := by decide +kernel
theorem dX11_staying_30 : decode cX11_staying 30 = .ok (.iload_n 1, 1) := by decide +kernel
theorem dX11_staying_31 : decode cX11_staying 31 = .ok (.aload_n 0, 1) := by decide +kernel
theorem dX11_staying_32 : decode cX11_staying 32 = .ok (.getfield 443, 3) := by decide +kernel
theorem dX11_staying_35 : decode cX11_staying 35 = .ok (.irem, 1) := by decide +kernel
theorem dX11_staying_36 : decode cX11_staying 36 = .ok (.ifCond .eq 14, 3) := by decide +kernel
theorem dX11_staying_39 : decode cX11_staying 39 = .ok (.iload 4, 2) := by decide +kernel
theorem dX11_staying_41 : decode cX11_staying 41 = .ok (.aload_n 0, 1) := by decide +kernel
theorem dX11_staying_42 : decode cX11_staying 42 = .ok (.iload_n 1, 1) := by decide +kernel
theorem dX11_staying_43 : decode cX11_staying 43 = .ok (.iload_n 2, 1) := by decide +kernel
theorem dX11_staying_44 : decode cX11_staying 44 = .ok (.iload_n 3, 1) := by decide +kernel
theorem dX11_staying_45 : decode cX11_staying 45 = .ok (.invokevirtual 446, 3) := by decide +kernel
theorem dX11_staying_48 : decode cX11_staying 48 = .ok (.iadd, 1) := by decide +kernel
theorem dX11_staying_49 : decode cX11_staying 49 = .ok (.ireturn, 1) := by decide +kernel
theorem dX11_staying_50 : decode cX11_staying 50 = .ok (.iload_n 2, 1) := by decide +kernel
theorem dX11_staying_51 : decode cX11_staying 51 = .ok (.iload_n 3, 1) := by decide +kernel
theorem dX11_staying_52 : decode cX11_staying 52 = .ok (.iadd, 1) := by decide +kernel
theorem dX11_staying_53 : decode cX11_staying 53 = .ok (.iconst 1, 1) := by decide +kernel
theorem dX11_staying_54 : decode cX11_staying 54 = .ok (.iadd, 1) := by decide +kernel
theorem dX11_staying_55 : decode cX11_staying 55 = .ok (.istore 6, 2) := by decide +kernel
theorem dX11_staying_57 : decode cX11_staying 57 = .ok (.aload_n 0, 1) := by decide +kernel
theorem dX11_staying_58 : decode cX11_staying 58 = .ok (.getfield 449, 3) := by decide +kernel
theorem dX11_staying_61 : decode cX11_staying 61 = .ok (.iconst 3, 1) := by decide +kernel
theorem dX11_staying_62 : decode cX11_staying 62 = .ok (.if_icmp .ne 56, 3) := by decide +kernel
theorem dX11_staying_65 : decode cX11_staying 65 = .ok (.iload 5, 2) := by decide +kernel
theorem dX11_staying_67 : decode cX11_staying 67 = .ok (.istore 7, 2) := by decide +kernel
theorem dX11_staying_69 : decode cX11_staying 69 = .ok (.iload_n 2, 1) := by decide +kernel
theorem dX11_staying_70 : decode cX11_staying 70 = .ok (.ifCond .le 19, 3) := by decide +kernel
theorem dX11_staying_73 : decode cX11_staying 73 = .ok (.iload 7, 2) := by decide +kernel
theorem dX11_staying_75 : decode cX11_staying 75 = .ok (.iload_n 2, 1) := by decide +kernel
theorem dX11_staying_76 : decode cX11_staying 76 = .ok (.aload_n 0, 1) := by decide +kernel
theorem dX11_staying_77 : decode cX11_staying 77 = .ok (.iload_n 1, 1) := by decide +kernel
theorem dX11_staying_78 : decode cX11_staying 78 = .ok (.iload_n 2, 1) := by decide +kernel
theorem dX11_staying_79 : decode cX11_staying 79 = .ok (.iconst 1, 1) := by decide +kernel
theorem dX11_staying_80 : decode cX11_staying 80 = .ok (.isub, 1) := by decide +kernel
theorem dX11_staying_81 : decode cX11_staying 81 = .ok (.iload_n 3, 1) := by decide +kernel
theorem dX11_staying_82 : decode cX11_staying 82 = .ok (.invokevirtual 446, 3) := by decide +kernel
theorem dX11_staying_85 : decode cX11_staying 85 = .ok (.imul, 1) := by decide +kernel
theorem dX11_staying_86 : decode cX11_staying 86 = .ok (.iadd, 1) := by decide +kernel
theorem dX11_staying_87 : decode cX11_staying 87 = .ok (.istore 7, 2) := by decide +kernel
theorem dX11_staying_89 : decode cX11_staying 89 = .ok (.iload_n 3, 1) := by decide +kernel
theorem dX11_staying_90 : decode cX11_staying 90 = .ok (.ifCond .le 19, 3) := by decide +kernel
theorem dX11_staying_93 : decode cX11_staying 93 = .ok (.iload 7, 2) := by decide +kernel
theorem dX11_staying_95 : decode cX11_staying 95 = .ok (.iload_n 3, 1) := by decide +kernel
theorem dX11_staying_96 : decode cX11_staying 96 = .ok (.aload_n 0, 1) := by decide +kernel
theorem dX11_staying_97 : decode cX11_staying 97 = .ok (.iload_n 1, 1) := by decide +kernel
theorem dX11_staying_98 : decode cX11_staying 98 = .ok (.iload_n 2, 1) := by decide +kernel
theorem dX11_staying_99 : decode cX11_staying 99 = .ok (.iload_n 3, 1) := by decide +kernel
theorem dX11_staying_100 : decode cX11_staying 100 = .ok (.iconst 1, 1) := by decide +kernel
theorem dX11_staying_101 : decode cX11_staying 101 = .ok (.isub, 1) := by decide +kernel
theorem dX11_staying_102 : decode cX11_staying 102 = .ok (.invokevirtual 446, 3) := by decide +kernel
theorem dX11_staying_105 : decode cX11_staying 105 = .ok (.imul, 1) := by decide +kernel
theorem dX11_staying_106 : decode cX11_staying 106 = .ok (.iadd, 1) := by decide +kernel
theorem dX11_staying_107 : decode cX11_staying 107 = .ok (.istore 7, 2) := by decide +kernel
theorem dX11_staying_109 : decode cX11_staying 109 = .ok (.iload 4, 2) := by decide +kernel
theorem dX11_staying_111 : decode cX11_staying 111 = .ok (.iload 7, 2) := by decide +kernel
theorem dX11_staying_113 : decode cX11_staying 113 = .ok (.iload 6, 2) := by decide +kernel
theorem dX11_staying_115 : decode cX11_staying 115 = .ok (.idiv, 1) := by decide +kernel
theorem dX11_staying_116 : decode cX11_staying 116 = .ok (.iadd, 1) := by decide +kernel
theorem dX11_staying_117 : decode cX11_staying 117 = .ok (.ireturn, 1) := by decide +kernel
theorem dX11_staying_118 : decode cX11_staying 118 = .ok (.aload_n 0, 1) := by decide +kernel
theorem dX11_staying_119 : decode cX11_staying 119 = .ok (.getfield 449, 3) := by decide +kernel
theorem dX11_staying_122 : decode cX11_staying 122 = .ok (.iload 6, 2) := by decide +kernel
theorem dX11_staying_124 : decode cX11_staying 124 = .ok (.invokestatic 386, 3) := by decide +kernel
theorem dX11_staying_127 : decode cX11_staying 127 = .ok (.istore 7, 2) := by decide +kernel
theorem dX11_staying_129 : decode cX11_staying 129 = .ok (.iload 4, 2) := by decide +kernel
theorem dX11_staying_131 : decode cX11_staying 131 = .ok (.iload 7, 2) := by decide +kernel
theorem dX11_staying_133 : decode cX11_staying 133 = .ok (.iload_n 2, 1) := by decide +kernel
theorem dX11_staying_134 : decode cX11_staying 134 = .ok (.if_icmp .ne 8, 3) := by decide +kernel
theorem dX11_staying_137 : decode cX11_staying 137 = .ok (.iload 5, 2) := by decide +kernel
theorem dX11_staying_139 : decode cX11_staying 139 = .ok (.goto 30, 3) := by decide +kernel
theorem dX11_staying_142 : decode cX11_staying 142 = .ok (.iload 7, 2) := by decide +kernel
theorem dX11_staying_144 : decode cX11_staying 144 = .ok (.iload_n 2, 1) := by decide +kernel
theorem dX11_staying_145 : decode cX11_staying 145 = .ok (.if_icmp .ge 15, 3) := by decide +kernel
theorem dX11_staying_148 : decode cX11_staying 148 = .ok (.aload_n 0, 1) := by decide +kernel
theorem dX11_staying_149 : decode cX11_staying 149 = .ok (.iload_n 1, 1) := by decide +kernel
theorem dX11_staying_150 : decode cX11_staying 150 = .ok (.iload_n 2, 1) := by decide +kernel
theorem dX11_staying_151 : decode cX11_staying 151 = .ok (.iconst 1, 1) := by decide +kernel
theorem dX11_staying_152 : decode cX11_staying 152 = .ok (.isub, 1) := by decide +kernel
theorem dX11_staying_153 : decode cX11_staying 153 = .ok (.iload_n 3, 1) := by decide +kernel
theorem dX11_staying_154 : decode cX11_staying 154 = .ok (.invokevirtual 446, 3) := by decide +kernel
theorem dX11_staying_157 : decode cX11_staying 157 = .ok (.goto 12, 3) := by decide +kernel
theorem dX11_staying_160 : decode cX11_staying 160 = .ok (.aload_n 0, 1) := by decide +kernel
theorem dX11_staying_161 : decode cX11_staying 161 = .ok (.iload_n 1, 1) := by decide +kernel
theorem dX11_staying_162 : decode cX11_staying 162 = .ok (.iload_n 2, 1) := by decide +kernel
theorem dX11_staying_163 : decode cX11_staying 163 = .ok (.iload_n 3, 1) := by decide +kernel
theorem dX11_staying_164 : decode cX11_staying 164 = .ok (.iconst 1, 1) := by decide +kernel
theorem dX11_staying_165 : decode cX11_staying 165 = .ok (.isub, 1) := by decide +kernel
theorem dX11_staying_166 : decode cX11_staying 166 = .ok (.invokevirtual 446, 3) := by decide +kernel
theorem dX11_staying_169 : decode cX11_staying 169 = .ok (.iadd, 1) := by decide +kernel
theorem dX11_staying_170 : decode cX11_staying 170 = .ok (.ireturn, 1) := by decide +kernel
theorem dX11_turning_0 : decode cX11_turning 0 = .ok (.aload_n 0, 1) := by decide +kernel
theorem dX11_turning_1 : decode cX11_turning 1 = .ok (.iload_n 1, 1) := by decide +kernel
theorem dX11_turning_2 : decode cX11_turning 2 = .ok (.iload_n 2, 1) := by decide +kernel
theorem dX11_turning_3 : decode cX11_turning 3 = .ok (.iload_n 3, 1) := by decide +kernel
theorem dX11_turning_4 : decode cX11_turning 4 = .ok (.iadd, 1) := by decide +kernel
theorem dX11_turning_5 : decode cX11_turning 5 = .ok (.iconst 0, 1) := by decide +kernel
theorem dX11_turning_6 : decode cX11_turning 6 = .ok (.invokevirtual 452, 3) := by decide +kernel
theorem dX11_turning_9 : decode cX11_turning 9 = .ok (.sipush 1000, 3) := by decide +kernel
theorem dX11_turning_12 : decode cX11_turning 12 = .ok (.aload_n 0, 1) := by decide +kernel
theorem dX11_turning_13 : decode cX11_turning 13 = .ok (.getfield 455, 3) := by decide +kernel
theorem dX11_turning_16 : decode cX11_turning 16 = .ok (.aload_n 0, 1) := by decide +kernel
theorem dX11_turning_17 : decode cX11_turning 17 = .ok (.getfield 299, 3) := by decide +kernel
theorem dX11_turning_20 : decode cX11_turning 20 = .ok (.aload_n 0, 1) := by decide +kernel
theorem dX11_turning_21 : decode cX11_turning 21 = .ok (.aload_n 0, 1) := by decide +kernel
theorem dX11_turning_22 : decode cX11_turning 22 = .ok (.getfield 440, 3) := by decide +kernel
theorem dX11_turning_25 : decode cX11_turning 25 = .ok (.iconst 4, 1) := by decide +kernel
theorem dX11_turning_26 : decode cX11_turning 26 = .ok (.invokevirtual 327, 3) := by decide +kernel
theorem dX11_turning_29 : decode cX11_turning 29 = .ok (.imul, 1) := by decide +kernel
theorem dX11_turning_30 : decode cX11_turning 30 = .ok (.iadd, 1) := by decide +kernel
theorem dX11_turning_31 : decode cX11_turning 31 = .ok (.imul, 1) := by decide +kernel
theorem dX11_turning_32 : decode cX11_turning 32 = .ok (.isub, 1) := by decide +kernel
theorem dX11_turning_33 : decode cX11_turning 33 = .ok (.ireturn, 1) := by decide +kernel
theorem dX11_works_0 : decode cX11_works 0 = .ok (.aload_n 0, 1) := by decide +kernel
theorem dX11_works_1 : decode cX11_works 1 = .ok (.iload_n 1, 1) := by decide +kernel
theorem dX11_works_2 : decode cX11_works 2 = .ok (.putfield 440, 3) := by decide +kernel
theorem dX11_works_5 : decode cX11_works 5 = .ok (.aload_n 0, 1) := by decide +kernel
theorem dX11_works_6 : decode cX11_works 6 = .ok (.aload_n 0, 1) := by decide +kernel
theorem dX11_works_7 : decode cX11_works 7 = .ok (.getfield 27, 3) := by decide +kernel
theorem dX11_works_10 : decode cX11_works 10 = .ok (.iconst 3, 1) := by decide +kernel
theorem dX11_works_11 : decode cX11_works 11 = .ok (.iload_n 2, 1) := by decide +kernel
theorem dX11_works_12 : decode cX11_works 12 = .ok (.imul, 1) := by decide +kernel
theorem dX11_works_13 : decode cX11_works 13 = .ok (.iaload, 1) := by decide +kernel
theorem dX11_works_14 : decode cX11_works 14 = .ok (.putfield 449, 3) := by decide +kernel
theorem dX11_works_17 : decode cX11_works 17 = .ok (.aload_n 0, 1) := by decide +kernel
theorem dX11_works_18 : decode cX11_works 18 = .ok (.aload_n 0, 1) := by decide +kernel
theorem dX11_works_19 : decode cX11_works 19 = .ok (.getfield 27, 3) := by decide +kernel
theorem dX11_works_22 : decode cX11_works 22 = .ok (.iconst 3, 1) := by decide +kernel
theorem dX11_works_23 : decode cX11_works 23 = .ok (.iload_n 2, 1) := by decide +kernel
theorem dX11_works_24 : decode cX11_works 24 = .ok (.imul, 1) := by decide +kernel
theorem dX11_works_25 : decode cX11_works 25 = .ok (.iconst 1, 1) := by decide +kernel
theorem dX11_works_26 : decode cX11_works 26 = .ok (.iadd, 1) := by decide +kernel
theorem dX11_works_27 : decode cX11_works 27 = .ok (.iaload, 1) := by decide +kernel
theorem dX11_works_28 : decode cX11_works 28 = .ok (.putfield 443, 3) := by decide +kernel
theorem dX11_works_31 : decode cX11_works 31 = .ok (.aload_n 0, 1) := by decide +kernel
theorem dX11_works_32 : decode cX11_works 32 = .ok (.iload_n 3, 1) := by decide +kernel
theorem dX11_works_33 : decode cX11_works 33 = .ok (.putfield 437, 3) := by decide +kernel
theorem dX11_works_36 : decode cX11_works 36 = .ok (.aload_n 0, 1) := by decide +kernel
theorem dX11_works_37 : decode cX11_works 37 = .ok (.iload 4, 2) := by decide +kernel
theorem dX11_works_39 : decode cX11_works 39 = .ok (.putfield 455, 3) := by decide +kernel
theorem dX11_works_42 : decode cX11_works 42 = .ok (.iconst 0, 1) := by decide +kernel
theorem dX11_works_43 : decode cX11_works 43 = .ok (.istore 6, 2) := by decide +kernel
theorem dX11_works_45 : decode cX11_works 45 = .ok (.iload 6, 2) := by decide +kernel
theorem dX11_works_47 : decode cX11_works 47 = .ok (.iload 5, 2) := by decide +kernel
theorem dX11_works_49 : decode cX11_works 49 = .ok (.if_icmp .gt 99, 3) := by decide +kernel
theorem dX11_works_52 : decode cX11_works 52 = .ok (.iconst 0, 1) := by decide +kernel
theorem dX11_works_53 : decode cX11_works 53 = .ok (.istore 7, 2) := by decide +kernel
theorem dX11_works_55 : decode cX11_works 55 = .ok (.iload 7, 2) := by decide +kernel
theorem dX11_works_57 : decode cX11_works 57 = .ok (.bipush 12, 2) := by decide +kernel
theorem dX11_works_59 : decode cX11_works 59 = .ok (.if_icmp .gt 83, 3) := by decide +kernel
theorem dX11_works_62 : decode cX11_works 62 = .ok (.iconst 0, 1) := by decide +kernel
theorem dX11_works_63 : decode cX11_works 63 = .ok (.istore 8, 2) := by decide +kernel
theorem dX11_works_65 : decode cX11_works 65 = .ok (.iload 7, 2) := by decide +kernel
theorem dX11_works_67 : decode cX11_works 67 = .ok (.iload 8, 2) := by decide +kernel
theorem dX11_works_69 : decode cX11_works 69 = .ok (.iadd, 1) := by decide +kernel
theorem dX11_works_70 : decode cX11_works 70 = .ok (.bipush 12, 2) := by decide +kernel
theorem dX11_works_72 : decode cX11_works 72 = .ok (.if_icmp .gt 64, 3) := by decide +kernel
theorem dX11_works_75 : decode cX11_works 75 = .ok (.aload_n 0, 1) := by decide +kernel
theorem dX11_works_76 : decode cX11_works 76 = .ok (.getfield 115, 3) := by decide +kernel
theorem dX11_works_79 : decode cX11_works 79 = .ok (.iload 6, 2) := by decide +kernel
theorem dX11_works_81 : decode cX11_works 81 = .ok (.bipush 13, 2) := by decide +kernel
theorem dX11_works_83 : decode cX11_works 83 = .ok (.imul, 1) := by decide +kernel
theorem dX11_works_84 : decode cX11_works 84 = .ok (.iload 7, 2) := by decide +kernel
theorem dX11_works_86 : decode cX11_works 86 = .ok (.iadd, 1) := by decide +kernel
theorem dX11_works_87 : decode cX11_works 87 = .ok (.bipush 13, 2) := by decide +kernel
theorem dX11_works_89 : decode cX11_works 89 = .ok (.imul, 1) := by decide +kernel
theorem dX11_works_90 : decode cX11_works 90 = .ok (.iload 8, 2) := by decide +kernel
theorem dX11_works_92 : decode cX11_works 92 = .ok (.iadd, 1) := by decide +kernel
theorem dX11_works_93 : decode cX11_works 93 = .ok (.iload 6, 2) := by decide +kernel
theorem dX11_works_95 : decode cX11_works 95 = .ok (.ifCond .ne 7, 3) := by decide +kernel
theorem dX11_works_98 : decode cX11_works 98 = .ok (.iconst 0, 1) := by decide +kernel
theorem dX11_works_99 : decode cX11_works 99 = .ok (.goto 30, 3) := by decide +kernel
theorem dX11_works_102 : decode cX11_works 102 = .ok (.iconst 0, 1) := by decide +kernel
theorem dX11_works_103 : decode cX11_works 103 = .ok (.aload_n 0, 1) := by decide +kernel
theorem dX11_works_104 : decode cX11_works 104 = .ok (.iload 6, 2) := by decide +kernel
theorem dX11_works_106 : decode cX11_works 106 = .ok (.iload 7, 2) := by decide +kernel
theorem dX11_works_108 : decode cX11_works 108 = .ok (.iload 8, 2) := by decide +kernel
theorem dX11_works_110 : decode cX11_works 110 = .ok (.invokevirtual 452, 3) := by decide +kernel
theorem dX11_works_113 : decode cX11_works 113 = .ok (.aload_n 0, 1) := by decide +kernel
theorem dX11_works_114 : decode cX11_works 114 = .ok (.iload 6, 2) := by decide +kernel
theorem dX11_works_116 : decode cX11_works 116 = .ok (.iload 7, 2) := by decide +kernel
theorem dX11_works_118 : decode cX11_works 118 = .ok (.iload 8, 2) := by decide +kernel
theorem dX11_works_120 : decode cX11_works 120 = .ok (.invokevirtual 458, 3) := by decide +kernel
theorem dX11_works_123 : decode cX11_works 123 = .ok (.invokestatic 395, 3) := by decide +kernel
theorem dX11_works_126 : decode cX11_works 126 = .ok (.invokestatic 395, 3) := by decide +kernel
theorem dX11_works_129 : decode cX11_works 129 = .ok (.iastore, 1) := by decide +kernel
theorem dX11_works_130 : decode cX11_works 130 = .ok (.iinc 8 1, 3) := by decide +kernel
theorem dX11_works_133 : decode cX11_works 133 = .ok (.goto (-68), 3) := by decide +kernel
theorem dX11_works_136 : decode cX11_works 136 = .ok (.iinc 7 1, 3) := by decide +kernel
theorem dX11_works_139 : decode cX11_works 139 = .ok (.goto (-84), 3) := by decide +kernel
theorem dX11_works_142 : decode cX11_works 142 = .ok (.iinc 6 1, 3) := by decide +kernel
theorem dX11_works_145 : decode cX11_works 145 = .ok (.goto (-100), 3) := by decide +kernel
theorem dX11_works_148 : decode cX11_works 148 = .ok (.return_, 1) := by decide +kernel
theorem dX11_actAt_0 : decode cX11_actAt 0 = .ok (.iload_n 1, 1) := by decide +kernel
theorem dX11_actAt_1 : decode cX11_actAt 1 = .ok (.ifCond .ne 5, 3) := by decide +kernel
theorem dX11_actAt_4 : decode cX11_actAt 4 = .ok (.iconst 2, 1) := by decide +kernel
theorem dX11_actAt_5 : decode cX11_actAt 5 = .ok (.ireturn, 1) := by decide +kernel
theorem dX11_actAt_6 : decode cX11_actAt 6 = .ok (.aload_n 0, 1) := by decide +kernel
theorem dX11_actAt_7 : decode cX11_actAt 7 = .ok (.iload_n 1, 1) := by decide +kernel
theorem dX11_actAt_8 : decode cX11_actAt 8 = .ok (.iload_n 2, 1) := by decide +kernel
theorem dX11_actAt_9 : decode cX11_actAt 9 = .ok (.iload_n 3, 1) := by decide +kernel
theorem dX11_actAt_10 : decode cX11_actAt 10 = .ok (.invokevirtual 452, 3) := by decide +kernel
theorem dX11_actAt_13 : decode cX11_actAt 13 = .ok (.istore 4, 2) := by decide +kernel
theorem dX11_actAt_15 : decode cX11_actAt 15 = .ok (.aload_n 0, 1) := by decide +kernel
theorem dX11_actAt_16 : decode cX11_actAt 16 = .ok (.iload_n 1, 1) := by decide +kernel
theorem dX11_actAt_17 : decode cX11_actAt 17 = .ok (.iload_n 2, 1) := by decide +kernel
theorem dX11_actAt_18 : decode cX11_actAt 18 = .ok (.iload_n 3, 1) := by decide +kernel
theorem dX11_actAt_19 : decode cX11_actAt 19 = .ok (.invokevirtual 458, 3) := by decide +kernel
theorem dX11_actAt_22 : decode cX11_actAt 22 = .ok (.istore 5, 2) := by decide +kernel
theorem dX11_actAt_24 : decode cX11_actAt 24 = .ok (.iload 4, 2) := by decide +kernel
theorem dX11_actAt_26 : decode cX11_actAt 26 = .ok (.iload 5, 2) := by decide +kernel
theorem dX11_actAt_28 : decode cX11_actAt 28 = .ok (.if_icmp .lt 12, 3) := by decide +kernel
theorem dX11_actAt_31 : decode cX11_actAt 31 = .ok (.iload 4, 2) := by decide +kernel
theorem dX11_actAt_33 : decode cX11_actAt 33 = .ok (.ifCond .lt 7, 3) := by decide +kernel
theorem dX11_actAt_36 : decode cX11_actAt 36 = .ok (.iconst 0, 1) := by decide +kernel
theorem dX11_actAt_37 : decode cX11_actAt 37 = .ok (.goto 13, 3) := by decide +kernel
theorem dX11_actAt_40 : decode cX11_actAt 40 = .ok (.iload 5, 2) := by decide +kernel
theorem dX11_actAt_42 : decode cX11_actAt 42 = .ok (.ifCond .lt 7, 3) := by decide +kernel
theorem dX11_actAt_45 : decode cX11_actAt 45 = .ok (.iconst 1, 1) := by decide +kernel
theorem dX11_actAt_46 : decode cX11_actAt 46 = .ok (.goto 4, 3) := by decide +kernel
theorem dX11_actAt_49 : decode cX11_actAt 49 = .ok (.iconst 2, 1) := by decide +kernel
theorem dX11_actAt_50 : decode cX11_actAt 50 = .ok (.ireturn, 1) := by decide +kernel
theorem dX11_isAsked_0 : decode cX11_isAsked 0 = .ok (.aload_n 0, 1) := by decide +kernel
theorem dX11_isAsked_1 : decode cX11_isAsked 1 = .ok (.iload_n 1, 1) := by decide +kernel
theorem dX11_isAsked_2 : decode cX11_isAsked 2 = .ok (.invokevirtual 324, 3) := by decide +kernel
theorem dX11_isAsked_5 : decode cX11_isAsked 5 = .ok (.ifCond .eq 37, 3) := by decide +kernel
theorem dX11_isAsked_8 : decode cX11_isAsked 8 = .ok (.aload_n 0, 1) := by decide +kernel
theorem dX11_isAsked_9 : decode cX11_isAsked 9 = .ok (.iload_n 2, 1) := by decide +kernel
