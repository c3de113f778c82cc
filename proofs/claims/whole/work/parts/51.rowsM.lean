theorem dX11_init_0 : decode cX11_init 0 = .ok (.aload_n 0, 1) := by decide +kernel
theorem dX11_init_1 : decode cX11_init 1 = .ok (.invokespecial 1, 3) := by decide +kernel
theorem dX11_init_4 : decode cX11_init 4 = .ok (.aload_n 0, 1) := by decide +kernel
theorem dX11_init_5 : decode cX11_init 5 = .ok (.iconst 1, 1) := by decide +kernel
theorem dX11_init_6 : decode cX11_init 6 = .ok (.putfield 7, 3) := by decide +kernel
theorem dX11_init_9 : decode cX11_init 9 = .ok (.aload_n 0, 1) := by decide +kernel
theorem dX11_init_10 : decode cX11_init 10 = .ok (.iconst 1, 1) := by decide +kernel
theorem dX11_init_11 : decode cX11_init 11 = .ok (.putfield 13, 3) := by decide +kernel
theorem dX11_init_14 : decode cX11_init 14 = .ok (.aload_n 0, 1) := by decide +kernel
theorem dX11_init_15 : decode cX11_init 15 = .ok (.sipush 400, 3) := by decide +kernel
theorem dX11_init_18 : decode cX11_init 18 = .ok (.newarray .int, 2) := by decide +kernel
theorem dX11_init_20 : decode cX11_init 20 = .ok (.putfield 16, 3) := by decide +kernel
theorem dX11_init_23 : decode cX11_init 23 = .ok (.aload_n 0, 1) := by decide +kernel
theorem dX11_init_24 : decode cX11_init 24 = .ok (.sipush 400, 3) := by decide +kernel
theorem dX11_init_27 : decode cX11_init 27 = .ok (.newarray .boolean, 2) := by decide +kernel
theorem dX11_init_29 : decode cX11_init 29 = .ok (.putfield 20, 3) := by decide +kernel
theorem dX11_init_32 : decode cX11_init 32 = .ok (.aload_n 0, 1) := by decide +kernel
theorem dX11_init_33 : decode cX11_init 33 = .ok (.bipush 20, 2) := by decide +kernel
theorem dX11_init_35 : decode cX11_init 35 = .ok (.newarray .boolean, 2) := by decide +kernel
theorem dX11_init_37 : decode cX11_init 37 = .ok (.putfield 24, 3) := by decide +kernel
theorem dX11_init_40 : decode cX11_init 40 = .ok (.aload_n 0, 1) := by decide +kernel
theorem dX11_init_41 : decode cX11_init 41 = .ok (.sipush 200, 3) := by decide +kernel
theorem dX11_init_44 : decode cX11_init 44 = .ok (.newarray .int, 2) := by decide +kernel
theorem dX11_init_46 : decode cX11_init 46 = .ok (.putfield 27, 3) := by decide +kernel
theorem dX11_init_49 : decode cX11_init 49 = .ok (.aload_n 0, 1) := by decide +kernel
theorem dX11_init_50 : decode cX11_init 50 = .ok (.iconst 5, 1) := by decide +kernel
theorem dX11_init_51 : decode cX11_init 51 = .ok (.newarray .int, 2) := by decide +kernel
theorem dX11_init_53 : decode cX11_init 53 = .ok (.putfield 30, 3) := by decide +kernel
theorem dX11_init_56 : decode cX11_init 56 = .ok (.aload_n 0, 1) := by decide +kernel
theorem dX11_init_57 : decode cX11_init 57 = .ok (.bipush 24, 2) := by decide +kernel
theorem dX11_init_59 : decode cX11_init 59 = .ok (.newarray .int, 2) := by decide +kernel
theorem dX11_init_61 : decode cX11_init 61 = .ok (.putfield 33, 3) := by decide +kernel
theorem dX11_init_64 : decode cX11_init 64 = .ok (.aload_n 0, 1) := by decide +kernel
theorem dX11_init_65 : decode cX11_init 65 = .ok (.sipush 400, 3) := by decide +kernel
theorem dX11_init_68 : decode cX11_init 68 = .ok (.newarray .int, 2) := by decide +kernel
theorem dX11_init_70 : decode cX11_init 70 = .ok (.putfield 36, 3) := by decide +kernel
theorem dX11_init_73 : decode cX11_init 73 = .ok (.aload_n 0, 1) := by decide +kernel
theorem dX11_init_74 : decode cX11_init 74 = .ok (.sipush 400, 3) := by decide +kernel
theorem dX11_init_77 : decode cX11_init 77 = .ok (.newarray .boolean, 2) := by decide +kernel
theorem dX11_init_79 : decode cX11_init 79 = .ok (.putfield 39, 3) := by decide +kernel
theorem dX11_init_82 : decode cX11_init 82 = .ok (.aload_n 0, 1) := by decide +kernel
theorem dX11_init_83 : decode cX11_init 83 = .ok (.bipush 20, 2) := by decide +kernel
theorem dX11_init_85 : decode cX11_init 85 = .ok (.newarray .boolean, 2) := by decide +kernel
theorem dX11_init_87 : decode cX11_init 87 = .ok (.putfield 42, 3) := by decide +kernel
theorem dX11_init_90 : decode cX11_init 90 = .ok (.aload_n 0, 1) := by decide +kernel
theorem dX11_init_91 : decode cX11_init 91 = .ok (.sipush 200, 3) := by decide +kernel
theorem dX11_init_94 : decode cX11_init 94 = .ok (.newarray .int, 2) := by decide +kernel
theorem dX11_init_96 : decode cX11_init 96 = .ok (.putfield 45, 3) := by decide +kernel
theorem dX11_init_99 : decode cX11_init 99 = .ok (.aload_n 0, 1) := by decide +kernel
theorem dX11_init_100 : decode cX11_init 100 = .ok (.sipush 1800, 3) := by decide +kernel
theorem dX11_init_103 : decode cX11_init 103 = .ok (.newarray .int, 2) := by decide +kernel
theorem dX11_init_105 : decode cX11_init 105 = .ok (.putfield 48, 3) := by decide +kernel
theorem dX11_init_108 : decode cX11_init 108 = .ok (.aload_n 0, 1) := by decide +kernel
theorem dX11_init_109 : decode cX11_init 109 = .ok (.sipush 14400, 3) := by decide +kernel
theorem dX11_init_112 : decode cX11_init 112 = .ok (.newarray .int, 2) := by decide +kernel
theorem dX11_init_114 : decode cX11_init 114 = .ok (.putfield 51, 3) := by decide +kernel
theorem dX11_init_117 : decode cX11_init 117 = .ok (.aload_n 0, 1) := by decide +kernel
theorem dX11_init_118 : decode cX11_init 118 = .ok (.sipush 1800, 3) := by decide +kernel
theorem dX11_init_121 : decode cX11_init 121 = .ok (.newarray .int, 2) := by decide +kernel
theorem dX11_init_123 : decode cX11_init 123 = .ok (.putfield 54, 3) := by decide +kernel
theorem dX11_init_126 : decode cX11_init 126 = .ok (.aload_n 0, 1) := by decide +kernel
theorem dX11_init_127 : decode cX11_init 127 = .ok (.sipush 200, 3) := by decide +kernel
theorem dX11_init_130 : decode cX11_init 130 = .ok (.newarray .int, 2) := by decide +kernel
theorem dX11_init_132 : decode cX11_init 132 = .ok (.putfield 57, 3) := by decide +kernel
theorem dX11_init_135 : decode cX11_init 135 = .ok (.aload_n 0, 1) := by decide +kernel
theorem dX11_init_136 : decode cX11_init 136 = .ok (.sipush 200, 3) := by decide +kernel
theorem dX11_init_139 : decode cX11_init 139 = .ok (.newarray .int, 2) := by decide +kernel
theorem dX11_init_141 : decode cX11_init 141 = .ok (.putfield 60, 3) := by decide +kernel
theorem dX11_init_144 : decode cX11_init 144 = .ok (.aload_n 0, 1) := by decide +kernel
theorem dX11_init_145 : decode cX11_init 145 = .ok (.sipush 200, 3) := by decide +kernel
theorem dX11_init_148 : decode cX11_init 148 = .ok (.newarray .int, 2) := by decide +kernel
theorem dX11_init_150 : decode cX11_init 150 = .ok (.putfield 63, 3) := by decide +kernel
theorem dX11_init_153 : decode cX11_init 153 = .ok (.aload_n 0, 1) := by decide +kernel
theorem dX11_init_154 : decode cX11_init 154 = .ok (.sipush 441, 3) := by decide +kernel
theorem dX11_init_157 : decode cX11_init 157 = .ok (.newarray .int, 2) := by decide +kernel
theorem dX11_init_159 : decode cX11_init 159 = .ok (.putfield 66, 3) := by decide +kernel
theorem dX11_init_162 : decode cX11_init 162 = .ok (.aload_n 0, 1) := by decide +kernel
theorem dX11_init_163 : decode cX11_init 163 = .ok (.bipush 20, 2) := by decide +kernel
theorem dX11_init_165 : decode cX11_init 165 = .ok (.newarray .int, 2) := by decide +kernel
theorem dX11_init_167 : decode cX11_init 167 = .ok (.putfield 69, 3) := by decide +kernel
theorem dX11_init_170 : decode cX11_init 170 = .ok (.aload_n 0, 1) := by decide +kernel
theorem dX11_init_171 : decode cX11_init 171 = .ok (.getfield 30, 3) := by decide +kernel
theorem dX11_init_174 : decode cX11_init 174 = .ok (.iconst 0, 1) := by decide +kernel
theorem dX11_init_175 : decode cX11_init 175 = .ok (.iconst 4, 1) := by decide +kernel
theorem dX11_init_176 : decode cX11_init 176 = .ok (.iastore, 1) := by decide +kernel
theorem dX11_init_177 : decode cX11_init 177 = .ok (.aload_n 0, 1) := by decide +kernel
theorem dX11_init_178 : decode cX11_init 178 = .ok (.getfield 30, 3) := by decide +kernel
theorem dX11_init_181 : decode cX11_init 181 = .ok (.iconst 1, 1) := by decide +kernel
theorem dX11_init_182 : decode cX11_init 182 = .ok (.iconst 3, 1) := by decide +kernel
theorem dX11_init_183 : decode cX11_init 183 = .ok (.iastore, 1) := by decide +kernel
theorem dX11_init_184 : decode cX11_init 184 = .ok (.aload_n 0, 1) := by decide +kernel
theorem dX11_init_185 : decode cX11_init 185 = .ok (.getfield 30, 3) := by decide +kernel
theorem dX11_init_188 : decode cX11_init 188 = .ok (.iconst 2, 1) := by decide +kernel
theorem dX11_init_189 : decode cX11_init 189 = .ok (.iconst 1, 1) := by decide +kernel
theorem dX11_init_190 : decode cX11_init 190 = .ok (.iastore, 1) := by decide +kernel
theorem dX11_init_191 : decode cX11_init 191 = .ok (.aload_n 0, 1) := by decide +kernel
theorem dX11_init_192 : decode cX11_init 192 = .ok (.getfield 30, 3) := by decide +kernel
theorem dX11_init_195 : decode cX11_init 195 = .ok (.iconst 3, 1) := by decide +kernel
theorem dX11_init_196 : decode cX11_init 196 = .ok (.iconst 3, 1) := by decide +kernel
theorem dX11_init_197 : decode cX11_init 197 = .ok (.iastore, 1) := by decide +kernel
theorem dX11_init_198 : decode cX11_init 198 = .ok (.aload_n 0, 1) := by decide +kernel
theorem dX11_init_199 : decode cX11_init 199 = .ok (.getfield 30, 3) := by decide +kernel
theorem dX11_init_202 : decode cX11_init 202 = .ok (.iconst 4, 1) := by decide +kernel
theorem dX11_init_203 : decode cX11_init 203 = .ok (.bipush 10, 2) := by decide +kernel
theorem dX11_init_205 : decode cX11_init 205 = .ok (.iastore, 1) := by decide +kernel
theorem dX11_init_206 : decode cX11_init 206 = .ok (.iconst 0, 1) := by decide +kernel
theorem dX11_init_207 : decode cX11_init 207 = .ok (.istore_n 1, 1) := by decide +kernel
theorem dX11_init_208 : decode cX11_init 208 = .ok (.iload_n 1, 1) := by decide +kernel
theorem dX11_init_209 : decode cX11_init 209 = .ok (.bipush 24, 2) := by decide +kernel
theorem dX11_init_211 : decode cX11_init 211 = .ok (.if_icmp .ge 18, 3) := by decide +kernel
theorem dX11_init_214 : decode cX11_init 214 = .ok (.aload_n 0, 1) := by decide +kernel
theorem dX11_init_215 : decode cX11_init 215 = .ok (.getfield 33, 3) := by decide +kernel
theorem dX11_init_218 : decode cX11_init 218 = .ok (.iload_n 1, 1) := by decide +kernel
theorem dX11_init_219 : decode cX11_init 219 = .ok (.sipush 255, 3) := by decide +kernel
theorem dX11_init_222 : decode cX11_init 222 = .ok (.iastore, 1) := by decide +kernel
theorem dX11_init_223 : decode cX11_init 223 = .ok (.iinc 1 1, 3) := by decide +kernel
theorem dX11_init_226 : decode cX11_init 226 = .ok (.goto (-18), 3) := by decide +kernel
theorem dX11_init_229 : decode cX11_init 229 = .ok (.aload_n 0, 1) := by decide +kernel
theorem dX11_init_230 : decode cX11_init 230 = .ok (.iconst 1, 1) := by decide +kernel
theorem dX11_init_231 : decode cX11_init 231 = .ok (.iconst 1, 1) := by decide +kernel
theorem dX11_init_232 : decode cX11_init 232 = .ok (.invokevirtual 72, 3) := by decide +kernel
theorem dX11_init_235 : decode cX11_init 235 = .ok (.return_, 1) := by decide +kernel
theorem dX11_in_0 : decode cX11_in 0 = .ok (.iload_n 0, 1) := by decide +kernel
theorem dX11_in_1 : decode cX11_in 1 = .ok (.iload_n 1, 1) := by decide +kernel
theorem dX11_in_2 : decode cX11_in 2 = .ok (.if_icmp .lt 12, 3) := by decide +kernel
theorem dX11_in_5 : decode cX11_in 5 = .ok (.iload_n 0, 1) := by decide +kernel
theorem dX11_in_6 : decode cX11_in 6 = .ok (.iload_n 2, 1) := by decide +kernel
theorem dX11_in_7 : decode cX11_in 7 = .ok (.if_icmp .gt 7, 3) := by decide +kernel
theorem dX11_in_10 : decode cX11_in 10 = .ok (.iconst 1, 1) := by decide +kernel
theorem dX11_in_11 : decode cX11_in 11 = .ok (.goto 4, 3) := by decide +kernel
theorem dX11_in_14 : decode cX11_in 14 = .ok (.iconst 0, 1) := by decide +kernel
theorem dX11_in_15 : decode cX11_in 15 = .ok (.ireturn, 1) := by decide +kernel
theorem dX11_blank_0 : decode cX11_blank 0 = .ok (.aload_n 0, 1) := by decide +kernel
theorem dX11_blank_1 : decode cX11_blank 1 = .ok (.iload_n 1, 1) := by decide +kernel
theorem dX11_blank_2 : decode cX11_blank 2 = .ok (.putfield 7, 3) := by decide +kernel
theorem dX11_blank_5 : decode cX11_blank 5 = .ok (.aload_n 0, 1) := by decide +kernel
theorem dX11_blank_6 : decode cX11_blank 6 = .ok (.iload_n 2, 1) := by decide +kernel
theorem dX11_blank_7 : decode cX11_blank 7 = .ok (.putfield 13, 3) := by decide +kernel
theorem dX11_blank_10 : decode cX11_blank 10 = .ok (.iconst 0, 1) := by decide +kernel
theorem dX11_blank_11 : decode cX11_blank 11 = .ok (.istore_n 3, 1) := by decide +kernel
theorem dX11_blank_12 : decode cX11_blank 12 = .ok (.iload_n 3, 1) := by decide +kernel
theorem dX11_blank_13 : decode cX11_blank 13 = .ok (.sipush 400, 3) := by decide +kernel
theorem dX11_blank_16 : decode cX11_blank 16 = .ok (.if_icmp .ge 23, 3) := by decide +kernel
theorem dX11_blank_19 : decode cX11_blank 19 = .ok (.aload_n 0, 1) := by decide +kernel
theorem dX11_blank_20 : decode cX11_blank 20 = .ok (.getfield 16, 3) := by decide +kernel
theorem dX11_blank_23 : decode cX11_blank 23 = .ok (.iload_n 3, 1) := by decide +kernel
theorem dX11_blank_24 : decode cX11_blank 24 = .ok (.iconst 0, 1) := by decide +kernel
theorem dX11_blank_25 : decode cX11_blank 25 = .ok (.iastore, 1) := by decide +kernel
theorem dX11_blank_26 : decode cX11_blank 26 = .ok (.aload_n 0, 1) := by decide +kernel
theorem dX11_blank_27 : decode cX11_blank 27 = .ok (.getfield 20, 3) := by decide +kernel
theorem dX11_blank_30 : decode cX11_blank 30 = .ok (.iload_n 3, 1) := by decide +kernel
theorem dX11_blank_31 : decode cX11_blank 31 = .ok (.iconst 0, 1) := by decide +kernel
theorem dX11_blank_32 : decode cX11_blank 32 = .ok (.bastore, 1) := by decide +kernel
theorem dX11_blank_33 : decode cX11_blank 33 = .ok (.iinc 3 1, 3) := by decide +kernel
theorem dX11_blank_36 : decode cX11_blank 36 = .ok (.goto (-24), 3) := by decide +kernel
theorem dX11_blank_39 : decode cX11_blank 39 = .ok (.iconst 0, 1) := by decide +kernel
theorem dX11_blank_40 : decode cX11_blank 40 = .ok (.istore_n 3, 1) := by decide +kernel
theorem dX11_blank_41 : decode cX11_blank 41 = .ok (.iload_n 3, 1) := by decide +kernel
theorem dX11_blank_42 : decode cX11_blank 42 = .ok (.bipush 20, 2) := by decide +kernel
theorem dX11_blank_44 : decode cX11_blank 44 = .ok (.if_icmp .ge 16, 3) := by decide +kernel
theorem dX11_blank_47 : decode cX11_blank 47 = .ok (.aload_n 0, 1) := by decide +kernel
theorem dX11_blank_48 : decode cX11_blank 48 = .ok (.getfield 24, 3) := by decide +kernel
theorem dX11_blank_51 : decode cX11_blank 51 = .ok (.iload_n 3, 1) := by decide +kernel
theorem dX11_blank_52 : decode cX11_blank 52 = .ok (.iconst 0, 1) := by decide +kernel
theorem dX11_blank_53 : decode cX11_blank 53 = .ok (.bastore, 1) := by decide +kernel
theorem dX11_blank_54 : decode cX11_blank 54 = .ok (.iinc 3 1, 3) := by decide +kernel
theorem dX11_blank_57 : decode cX11_blank 57 = .ok (.goto (-16), 3) := by decide +kernel
theorem dX11_blank_60 : decode cX11_blank 60 = .ok (.iconst 0, 1) := by decide +kernel
theorem dX11_blank_61 : decode cX11_blank 61 = .ok (.istore_n 3, 1) := by decide +kernel
theorem dX11_blank_62 : decode cX11_blank 62 = .ok (.iload_n 3, 1) := by decide +kernel
theorem dX11_blank_63 : decode cX11_blank 63 = .ok (.sipush 200, 3) := by decide +kernel
theorem dX11_blank_66 : decode cX11_blank 66 = .ok (.if_icmp .ge 17, 3) := by decide +kernel
theorem dX11_blank_69 : decode cX11_blank 69 = .ok (.aload_n 0, 1) := by decide +kernel
theorem dX11_blank_70 : decode cX11_blank 70 = .ok (.getfield 27, 3) := by decide +kernel
theorem dX11_blank_73 : decode cX11_blank 73 = .ok (.iload_n 3, 1) := by decide +kernel
theorem dX11_blank_74 : decode cX11_blank 74 = .ok (.bipush (-4), 2) := by decide +kernel
theorem dX11_blank_76 : decode cX11_blank 76 = .ok (.iastore, 1) := by decide +kernel
theorem dX11_blank_77 : decode cX11_blank 77 = .ok (.iinc 3 1, 3) := by decide +kernel
theorem dX11_blank_80 : decode cX11_blank 80 = .ok (.goto (-18), 3) := by decide +kernel
theorem dX11_blank_83 : decode cX11_blank 83 = .ok (.aload_n 0, 1) := by decide +kernel
theorem dX11_blank_84 : decode cX11_blank 84 = .ok (.iconst 0, 1) := by decide +kernel
theorem dX11_blank_85 : decode cX11_blank 85 = .ok (.putfield 76, 3) := by decide +kernel
theorem dX11_blank_88 : decode cX11_blank 88 = .ok (.return_, 1) := by decide +kernel
theorem dX11_isRow_0 : decode cX11_isRow 0 = .ok (.iload_n 1, 1) := by decide +kernel
theorem dX11_isRow_1 : decode cX11_isRow 1 = .ok (.iconst 0, 1) := by decide +kernel
theorem dX11_isRow_2 : decode cX11_isRow 2 = .ok (.iconst 1, 1) := by decide +kernel
theorem dX11_isRow_3 : decode cX11_isRow 3 = .ok (.invokestatic 80, 3) := by decide +kernel
theorem dX11_isRow_6 : decode cX11_isRow 6 = .ok (.ifCond .eq 21, 3) := by decide +kernel
theorem dX11_isRow_9 : decode cX11_isRow 9 = .ok (.iload_n 2, 1) := by decide +kernel
theorem dX11_isRow_10 : decode cX11_isRow 10 = .ok (.iconst 0, 1) := by decide +kernel
theorem dX11_isRow_11 : decode cX11_isRow 11 = .ok (.aload_n 0, 1) := by decide +kernel
theorem dX11_isRow_12 : decode cX11_isRow 12 = .ok (.getfield 13, 3) := by decide +kernel
theorem dX11_isRow_15 : decode cX11_isRow 15 = .ok (.iconst 1, 1) := by decide +kernel
theorem dX11_isRow_16 : decode cX11_isRow 16 = .ok (.isub, 1) := by decide +kernel
theorem dX11_isRow_17 : decode cX11_isRow 17 = .ok (.invokestatic 80, 3) := by decide +kernel
theorem dX11_isRow_20 : decode cX11_isRow 20 = .ok (.ifCond .eq 7, 3) := by decide +kernel
theorem dX11_isRow_23 : decode cX11_isRow 23 = .ok (.iconst 1, 1) := by decide +kernel
theorem dX11_isRow_24 : decode cX11_isRow 24 = .ok (.goto 4, 3) := by decide +kernel
theorem dX11_isRow_27 : decode cX11_isRow 27 = .ok (.iconst 0, 1) := by decide +kernel
theorem dX11_isRow_28 : decode cX11_isRow 28 = .ok (.ireturn, 1) := by decide +kernel
theorem dX11_isSquare_0 : decode cX11_isSquare 0 = .ok (.iload_n 1, 1) := by decide +kernel
theorem dX11_isSquare_1 : decode cX11_isSquare 1 = .ok (.iconst 0, 1) := by decide +kernel
theorem dX11_isSquare_2 : decode cX11_isSquare 2 = .ok (.aload_n 0, 1) := by decide +kernel
theorem dX11_isSquare_3 : decode cX11_isSquare 3 = .ok (.getfield 7, 3) := by decide +kernel
theorem dX11_isSquare_6 : decode cX11_isSquare 6 = .ok (.iconst 1, 1) := by decide +kernel
theorem dX11_isSquare_7 : decode cX11_isSquare 7 = .ok (.isub, 1) := by decide +kernel
theorem dX11_isSquare_8 : decode cX11_isSquare 8 = .ok (.invokestatic 80, 3) := by decide +kernel
theorem dX11_isSquare_11 : decode cX11_isSquare 11 = .ok (.ifCond .eq 21, 3) := by decide +kernel
theorem dX11_isSquare_14 : decode cX11_isSquare 14 = .ok (.iload_n 2, 1) := by decide +kernel
theorem dX11_isSquare_15 : decode cX11_isSquare 15 = .ok (.iconst 0, 1) := by decide +kernel
theorem dX11_isSquare_16 : decode cX11_isSquare 16 = .ok (.aload_n 0, 1) := by decide +kernel
theorem dX11_isSquare_17 : decode cX11_isSquare 17 = .ok (.getfield 13, 3) := by decide +kernel
theorem dX11_isSquare_20 : decode cX11_isSquare 20 = .ok (.iconst 1, 1) := by decide +kernel
theorem dX11_isSquare_21 : decode cX11_isSquare 21 = .ok (.isub, 1) := by decide +kernel
theorem dX11_isSquare_22 : decode cX11_isSquare 22 = .ok (.invokestatic 80, 3) := by decide +kernel
theorem dX11_isSquare_25 : decode cX11_isSquare 25 = .ok (.ifCond .eq 7, 3) := by decide +kernel
theorem dX11_isSquare_28 : decode cX11_isSquare 28 = .ok (.iconst 1, 1) := by decide +kernel
theorem dX11_isSquare_29 : decode cX11_isSquare 29 = .ok (.goto 4, 3) := by decide +kernel
theorem dX11_isSquare_32 : decode cX11_isSquare 32 = .ok (.iconst 0, 1) := by decide +kernel
theorem dX11_isSquare_33 : decode cX11_isSquare 33 = .ok (.ireturn, 1) := by decide +kernel
theorem dX11_at_0 : decode cX11_at 0 = .ok (.sipush 200, 3) := by decide +kernel
theorem dX11_at_3 : decode cX11_at 3 = .ok (.iload_n 1, 1) := by decide +kernel
theorem dX11_at_4 : decode cX11_at 4 = .ok (.imul, 1) := by decide +kernel
theorem dX11_at_5 : decode cX11_at 5 = .ok (.aload_n 0, 1) := by decide +kernel
theorem dX11_at_6 : decode cX11_at 6 = .ok (.getfield 7, 3) := by decide +kernel
theorem dX11_at_9 : decode cX11_at 9 = .ok (.iload_n 3, 1) := by decide +kernel
theorem dX11_at_10 : decode cX11_at 10 = .ok (.imul, 1) := by decide +kernel
theorem dX11_at_11 : decode cX11_at 11 = .ok (.iadd, 1) := by decide +kernel
theorem dX11_at_12 : decode cX11_at 12 = .ok (.iload_n 2, 1) := by decide +kernel
theorem dX11_at_13 : decode cX11_at 13 = .ok (.iadd, 1) := by decide +kernel
theorem dX11_at_14 : decode cX11_at 14 = .ok (.ireturn, 1) := by decide +kernel
theorem dX11_isLost_0 : decode cX11_isLost 0 = .ok (.aload_n 0, 1) := by decide +kernel
theorem dX11_isLost_1 : decode cX11_isLost 1 = .ok (.getfield 24, 3) := by decide +kernel
theorem dX11_isLost_4 : decode cX11_isLost 4 = .ok (.bipush 10, 2) := by decide +kernel
theorem dX11_isLost_6 : decode cX11_isLost 6 = .ok (.iload_n 1, 1) := by decide +kernel
theorem dX11_isLost_7 : decode cX11_isLost 7 = .ok (.imul, 1) := by decide +kernel
theorem dX11_isLost_8 : decode cX11_isLost 8 = .ok (.iload_n 3, 1) := by decide +kernel
theorem dX11_isLost_9 : decode cX11_isLost 9 = .ok (.iadd, 1) := by decide +kernel
theorem dX11_isLost_10 : decode cX11_isLost 10 = .ok (.baload, 1) := by decide +kernel
theorem dX11_isLost_11 : decode cX11_isLost 11 = .ok (.ifCond .ne 18, 3) := by decide +kernel
theorem dX11_isLost_14 : decode cX11_isLost 14 = .ok (.aload_n 0, 1) := by decide +kernel
theorem dX11_isLost_15 : decode cX11_isLost 15 = .ok (.getfield 20, 3) := by decide +kernel
theorem dX11_isLost_18 : decode cX11_isLost 18 = .ok (.aload_n 0, 1) := by decide +kernel
theorem dX11_isLost_19 : decode cX11_isLost 19 = .ok (.iload_n 1, 1) := by decide +kernel
theorem dX11_isLost_20 : decode cX11_isLost 20 = .ok (.iload_n 2, 1) := by decide +kernel
theorem dX11_isLost_21 : decode cX11_isLost 21 = .ok (.iload_n 3, 1) := by decide +kernel
theorem dX11_isLost_22 : decode cX11_isLost 22 = .ok (.invokevirtual 84, 3) := by decide +kernel
theorem dX11_isLost_25 : decode cX11_isLost 25 = .ok (.baload, 1) := by decide +kernel
theorem dX11_isLost_26 : decode cX11_isLost 26 = .ok (.ifCond .eq 7, 3) := by decide +kernel
theorem dX11_isLost_29 : decode cX11_isLost 29 = .ok (.iconst 1, 1) := by decide +kernel
theorem dX11_isLost_30 : decode cX11_isLost 30 = .ok (.goto 4, 3) := by decide +kernel
theorem dX11_isLost_33 : decode cX11_isLost 33 = .ok (.iconst 0, 1) := by decide +kernel
theorem dX11_isLost_34 : decode cX11_isLost 34 = .ok (.ireturn, 1) := by decide +kernel
theorem dX11_size_0 : decode cX11_size 0 = .ok (.iload_n 1, 1) := by decide +kernel
theorem dX11_size_1 : decode cX11_size 1 = .ok (.iconst 1, 1) := by decide +kernel
theorem dX11_size_2 : decode cX11_size 2 = .ok (.bipush 20, 2) := by decide +kernel
theorem dX11_size_4 : decode cX11_size 4 = .ok (.invokestatic 80, 3) := by decide +kernel
theorem dX11_size_7 : decode cX11_size 7 = .ok (.ifCond .eq 13, 3) := by decide +kernel
theorem dX11_size_10 : decode cX11_size 10 = .ok (.iload_n 2, 1) := by decide +kernel
theorem dX11_size_11 : decode cX11_size 11 = .ok (.iconst 1, 1) := by decide +kernel
theorem dX11_size_12 : decode cX11_size 12 = .ok (.bipush 10, 2) := by decide +kernel
theorem dX11_size_14 : decode cX11_size 14 = .ok (.invokestatic 80, 3) := by decide +kernel
theorem dX11_size_17 : decode cX11_size 17 = .ok (.ifCond .ne 5, 3) := by decide +kernel
theorem dX11_size_20 : decode cX11_size 20 = .ok (.iconst (-1), 1) := by decide +kernel
theorem dX11_size_21 : decode cX11_size 21 = .ok (.ireturn, 1) := by decide +kernel
theorem dX11_size_22 : decode cX11_size 22 = .ok (.aload_n 0, 1) := by decide +kernel
theorem dX11_size_23 : decode cX11_size 23 = .ok (.iload_n 1, 1) := by decide +kernel
theorem dX11_size_24 : decode cX11_size 24 = .ok (.iload_n 2, 1) := by decide +kernel
theorem dX11_size_25 : decode cX11_size 25 = .ok (.invokevirtual 72, 3) := by decide +kernel
theorem dX11_size_28 : decode cX11_size 28 = .ok (.iload_n 1, 1) := by decide +kernel
theorem dX11_size_29 : decode cX11_size 29 = .ok (.iload_n 2, 1) := by decide +kernel
theorem dX11_size_30 : decode cX11_size 30 = .ok (.imul, 1) := by decide +kernel
theorem dX11_size_31 : decode cX11_size 31 = .ok (.ireturn, 1) := by decide +kernel
theorem dX11_refuse_0 : decode cX11_refuse 0 = .ok (.aload_n 0, 1) := by decide +kernel
theorem dX11_refuse_1 : decode cX11_refuse 1 = .ok (.iload_n 1, 1) := by decide +kernel
theorem dX11_refuse_2 : decode cX11_refuse 2 = .ok (.iload_n 3, 1) := by decide +kernel
theorem dX11_refuse_3 : decode cX11_refuse 3 = .ok (.invokevirtual 88, 3) := by decide +kernel
theorem dX11_refuse_6 : decode cX11_refuse 6 = .ok (.ifCond .ne 5, 3) := by decide +kernel
theorem dX11_refuse_9 : decode cX11_refuse 9 = .ok (.iconst (-1), 1) := by decide +kernel
theorem dX11_refuse_10 : decode cX11_refuse 10 = .ok (.ireturn, 1) := by decide +kernel
theorem dX11_refuse_11 : decode cX11_refuse 11 = .ok (.aload_n 0, 1) := by decide +kernel
theorem dX11_refuse_12 : decode cX11_refuse 12 = .ok (.getfield 24, 3) := by decide +kernel
theorem dX11_refuse_15 : decode cX11_refuse 15 = .ok (.bipush 10, 2) := by decide +kernel
theorem dX11_refuse_17 : decode cX11_refuse 17 = .ok (.iload_n 1, 1) := by decide +kernel
theorem dX11_refuse_18 : decode cX11_refuse 18 = .ok (.imul, 1) := by decide +kernel
theorem dX11_refuse_19 : decode cX11_refuse 19 = .ok (.iload_n 3, 1) := by decide +kernel
theorem dX11_refuse_20 : decode cX11_refuse 20 = .ok (.iadd, 1) := by decide +kernel
theorem dX11_refuse_21 : decode cX11_refuse 21 = .ok (.baload, 1) := by decide +kernel
theorem dX11_refuse_22 : decode cX11_refuse 22 = .ok (.ifCond .eq 6, 3) := by decide +kernel
theorem dX11_refuse_25 : decode cX11_refuse 25 = .ok (.bipush (-2), 2) := by decide +kernel
theorem dX11_refuse_27 : decode cX11_refuse 27 = .ok (.ireturn, 1) := by decide +kernel
theorem dX11_refuse_28 : decode cX11_refuse 28 = .ok (.iload_n 2, 1) := by decide +kernel
theorem dX11_refuse_29 : decode cX11_refuse 29 = .ok (.iconst 0, 1) := by decide +kernel
theorem dX11_refuse_30 : decode cX11_refuse 30 = .ok (.aload_n 0, 1) := by decide +kernel
theorem dX11_refuse_31 : decode cX11_refuse 31 = .ok (.getfield 7, 3) := by decide +kernel
theorem dX11_refuse_34 : decode cX11_refuse 34 = .ok (.iconst 1, 1) := by decide +kernel
theorem dX11_refuse_35 : decode cX11_refuse 35 = .ok (.isub, 1) := by decide +kernel
theorem dX11_refuse_36 : decode cX11_refuse 36 = .ok (.invokestatic 80, 3) := by decide +kernel
theorem dX11_refuse_39 : decode cX11_refuse 39 = .ok (.ifCond .eq 7, 3) := by decide +kernel
theorem dX11_refuse_42 : decode cX11_refuse 42 = .ok (.iconst 0, 1) := by decide +kernel
theorem dX11_refuse_43 : decode cX11_refuse 43 = .ok (.goto 4, 3) := by decide +kernel
theorem dX11_refuse_46 : decode cX11_refuse 46 = .ok (.iconst (-1), 1) := by decide +kernel
theorem dX11_refuse_47 : decode cX11_refuse 47 = .ok (.ireturn, 1) := by decide +kernel
theorem dX11_shade_0 : decode cX11_shade 0 = .ok (.aload_n 0, 1) := by decide +kernel
theorem dX11_shade_1 : decode cX11_shade 1 = .ok (.iload_n 1, 1) := by decide +kernel
theorem dX11_shade_2 : decode cX11_shade 2 = .ok (.iload_n 2, 1) := by decide +kernel
theorem dX11_shade_3 : decode cX11_shade 3 = .ok (.iload_n 3, 1) := by decide +kernel
theorem dX11_shade_4 : decode cX11_shade 4 = .ok (.invokevirtual 92, 3) := by decide +kernel
theorem dX11_shade_7 : decode cX11_shade 7 = .ok (.istore 5, 2) := by decide +kernel
theorem dX11_shade_9 : decode cX11_shade 9 = .ok (.iload 5, 2) := by decide +kernel
theorem dX11_shade_11 : decode cX11_shade 11 = .ok (.ifCond .eq 6, 3) := by decide +kernel
theorem dX11_shade_14 : decode cX11_shade 14 = .ok (.iload 5, 2) := by decide +kernel
theorem dX11_shade_16 : decode cX11_shade 16 = .ok (.ireturn, 1) := by decide +kernel
theorem dX11_shade_17 : decode cX11_shade 17 = .ok (.aload_n 0, 1) := by decide +kernel
theorem dX11_shade_18 : decode cX11_shade 18 = .ok (.getfield 16, 3) := by decide +kernel
theorem dX11_shade_21 : decode cX11_shade 21 = .ok (.aload_n 0, 1) := by decide +kernel
theorem dX11_shade_22 : decode cX11_shade 22 = .ok (.iload_n 1, 1) := by decide +kernel
theorem dX11_shade_23 : decode cX11_shade 23 = .ok (.iload_n 2, 1) := by decide +kernel
theorem dX11_shade_24 : decode cX11_shade 24 = .ok (.iload_n 3, 1) := by decide +kernel
theorem dX11_shade_25 : decode cX11_shade 25 = .ok (.invokevirtual 84, 3) := by decide +kernel
theorem dX11_shade_28 : decode cX11_shade 28 = .ok (.iload 4, 2) := by decide +kernel
theorem dX11_shade_30 : decode cX11_shade 30 = .ok (.sipush 255, 3) := by decide +kernel
theorem dX11_shade_33 : decode cX11_shade 33 = .ok (.iand, 1) := by decide +kernel
theorem dX11_shade_34 : decode cX11_shade 34 = .ok (.iastore, 1) := by decide +kernel
theorem dX11_shade_35 : decode cX11_shade 35 = .ok (.aload_n 0, 1) := by decide +kernel
theorem dX11_shade_36 : decode cX11_shade 36 = .ok (.getfield 20, 3) := by decide +kernel
theorem dX11_shade_39 : decode cX11_shade 39 = .ok (.aload_n 0, 1) := by decide +kernel
theorem dX11_shade_40 : decode cX11_shade 40 = .ok (.iload_n 1, 1) := by decide +kernel
theorem dX11_shade_41 : decode cX11_shade 41 = .ok (.iload_n 2, 1) := by decide +kernel
theorem dX11_shade_42 : decode cX11_shade 42 = .ok (.iload_n 3, 1) := by decide +kernel
theorem dX11_shade_43 : decode cX11_shade 43 = .ok (.invokevirtual 84, 3) := by decide +kernel
theorem dX11_shade_46 : decode cX11_shade 46 = .ok (.iconst 0, 1) := by decide +kernel
theorem dX11_shade_47 : decode cX11_shade 47 = .ok (.bastore, 1) := by decide +kernel
theorem dX11_shade_48 : decode cX11_shade 48 = .ok (.aload_n 0, 1) := by decide +kernel
theorem dX11_shade_49 : decode cX11_shade 49 = .ok (.iconst 0, 1) := by decide +kernel
theorem dX11_shade_50 : decode cX11_shade 50 = .ok (.putfield 76, 3) := by decide +kernel
theorem dX11_shade_53 : decode cX11_shade 53 = .ok (.iconst 1, 1) := by decide +kernel
theorem dX11_shade_54 : decode cX11_shade 54 = .ok (.ireturn, 1) := by decide +kernel
theorem dX11_lose_0 : decode cX11_lose 0 = .ok (.aload_n 0, 1) := by decide +kernel
theorem dX11_lose_1 : decode cX11_lose 1 = .ok (.iload_n 1, 1) := by decide +kernel
theorem dX11_lose_2 : decode cX11_lose 2 = .ok (.iload_n 2, 1) := by decide +kernel
theorem dX11_lose_3 : decode cX11_lose 3 = .ok (.iload_n 3, 1) := by decide +kernel
theorem dX11_lose_4 : decode cX11_lose 4 = .ok (.invokevirtual 92, 3) := by decide +kernel
theorem dX11_lose_7 : decode cX11_lose 7 = .ok (.istore 4, 2) := by decide +kernel
theorem dX11_lose_9 : decode cX11_lose 9 = .ok (.iload 4, 2) := by decide +kernel
theorem dX11_lose_11 : decode cX11_lose 11 = .ok (.ifCond .eq 6, 3) := by decide +kernel
theorem dX11_lose_14 : decode cX11_lose 14 = .ok (.iload 4, 2) := by decide +kernel
theorem dX11_lose_16 : decode cX11_lose 16 = .ok (.ireturn, 1) := by decide +kernel
theorem dX11_lose_17 : decode cX11_lose 17 = .ok (.aload_n 0, 1) := by decide +kernel
theorem dX11_lose_18 : decode cX11_lose 18 = .ok (.getfield 20, 3) := by decide +kernel
theorem dX11_lose_21 : decode cX11_lose 21 = .ok (.aload_n 0, 1) := by decide +kernel
theorem dX11_lose_22 : decode cX11_lose 22 = .ok (.iload_n 1, 1) := by decide +kernel
theorem dX11_lose_23 : decode cX11_lose 23 = .ok (.iload_n 2, 1) := by decide +kernel
theorem dX11_lose_24 : decode cX11_lose 24 = .ok (.iload_n 3, 1) := by decide +kernel
theorem dX11_lose_25 : decode cX11_lose 25 = .ok (.invokevirtual 84, 3) := by decide +kernel
theorem dX11_lose_28 : decode cX11_lose 28 = .ok (.baload, 1) := by decide +kernel
theorem dX11_lose_29 : decode cX11_lose 29 = .ok (.istore 5, 2) := by decide +kernel
theorem dX11_lose_31 : decode cX11_lose 31 = .ok (.aload_n 0, 1) := by decide +kernel
theorem dX11_lose_32 : decode cX11_lose 32 = .ok (.getfield 20, 3) := by decide +kernel
theorem dX11_lose_35 : decode cX11_lose 35 = .ok (.aload_n 0, 1) := by decide +kernel
theorem dX11_lose_36 : decode cX11_lose 36 = .ok (.iload_n 1, 1) := by decide +kernel
theorem dX11_lose_37 : decode cX11_lose 37 = .ok (.iload_n 2, 1) := by decide +kernel
theorem dX11_lose_38 : decode cX11_lose 38 = .ok (.iload_n 3, 1) := by decide +kernel
theorem dX11_lose_39 : decode cX11_lose 39 = .ok (.invokevirtual 84, 3) := by decide +kernel
theorem dX11_lose_42 : decode cX11_lose 42 = .ok (.iconst 1, 1) := by decide +kernel
theorem dX11_lose_43 : decode cX11_lose 43 = .ok (.bastore, 1) := by decide +kernel
theorem dX11_lose_44 : decode cX11_lose 44 = .ok (.aload_n 0, 1) := by decide +kernel
theorem dX11_lose_45 : decode cX11_lose 45 = .ok (.iconst 0, 1) := by decide +kernel
theorem dX11_lose_46 : decode cX11_lose 46 = .ok (.putfield 76, 3) := by decide +kernel
theorem dX11_lose_49 : decode cX11_lose 49 = .ok (.iload 5, 2) := by decide +kernel
theorem dX11_lose_51 : decode cX11_lose 51 = .ok (.ifCond .eq 7, 3) := by decide +kernel
theorem dX11_lose_54 : decode cX11_lose 54 = .ok (.iconst 0, 1) := by decide +kernel
theorem dX11_lose_55 : decode cX11_lose 55 = .ok (.goto 4, 3) := by decide +kernel
theorem dX11_lose_58 : decode cX11_lose 58 = .ok (.iconst 1, 1) := by decide +kernel
theorem dX11_lose_59 : decode cX11_lose 59 = .ok (.ireturn, 1) := by decide +kernel
theorem dX11_row_0 : decode cX11_row 0 = .ok (.aload_n 0, 1) := by decide +kernel
theorem dX11_row_1 : decode cX11_row 1 = .ok (.iload_n 1, 1) := by decide +kernel
theorem dX11_row_2 : decode cX11_row 2 = .ok (.iload_n 2, 1) := by decide +kernel
theorem dX11_row_3 : decode cX11_row 3 = .ok (.invokevirtual 88, 3) := by decide +kernel
theorem dX11_row_6 : decode cX11_row 6 = .ok (.ifCond .ne 5, 3) := by decide +kernel
theorem dX11_row_9 : decode cX11_row 9 = .ok (.iconst (-1), 1) := by decide +kernel
theorem dX11_row_10 : decode cX11_row 10 = .ok (.ireturn, 1) := by decide +kernel
theorem dX11_row_11 : decode cX11_row 11 = .ok (.aload_n 0, 1) := by decide +kernel
theorem dX11_row_12 : decode cX11_row 12 = .ok (.getfield 24, 3) := by decide +kernel
theorem dX11_row_15 : decode cX11_row 15 = .ok (.bipush 10, 2) := by decide +kernel
theorem dX11_row_17 : decode cX11_row 17 = .ok (.iload_n 1, 1) := by decide +kernel
theorem dX11_row_18 : decode cX11_row 18 = .ok (.imul, 1) := by decide +kernel
theorem dX11_row_19 : decode cX11_row 19 = .ok (.iload_n 2, 1) := by decide +kernel
theorem dX11_row_20 : decode cX11_row 20 = .ok (.iadd, 1) := by decide +kernel
theorem dX11_row_21 : decode cX11_row 21 = .ok (.baload, 1) := by decide +kernel
theorem dX11_row_22 : decode cX11_row 22 = .ok (.istore 4, 2) := by decide +kernel
theorem dX11_row_24 : decode cX11_row 24 = .ok (.aload_n 0, 1) := by decide +kernel
theorem dX11_row_25 : decode cX11_row 25 = .ok (.getfield 24, 3) := by decide +kernel
theorem dX11_row_28 : decode cX11_row 28 = .ok (.bipush 10, 2) := by decide +kernel
theorem dX11_row_30 : decode cX11_row 30 = .ok (.iload_n 1, 1) := by decide +kernel
theorem dX11_row_31 : decode cX11_row 31 = .ok (.imul, 1) := by decide +kernel
theorem dX11_row_32 : decode cX11_row 32 = .ok (.iload_n 2, 1) := by decide +kernel
theorem dX11_row_33 : decode cX11_row 33 = .ok (.iadd, 1) := by decide +kernel
theorem dX11_row_34 : decode cX11_row 34 = .ok (.iload_n 3, 1) := by decide +kernel
theorem dX11_row_35 : decode cX11_row 35 = .ok (.bastore, 1) := by decide +kernel
theorem dX11_row_36 : decode cX11_row 36 = .ok (.aload_n 0, 1) := by decide +kernel
theorem dX11_row_37 : decode cX11_row 37 = .ok (.iconst 0, 1) := by decide +kernel
theorem dX11_row_38 : decode cX11_row 38 = .ok (.putfield 76, 3) := by decide +kernel
theorem dX11_row_41 : decode cX11_row 41 = .ok (.iload 4, 2) := by decide +kernel
theorem dX11_row_43 : decode cX11_row 43 = .ok (.iload_n 3, 1) := by decide +kernel
theorem dX11_row_44 : decode cX11_row 44 = .ok (.if_icmp .ne 7, 3) := by decide +kernel
theorem dX11_row_47 : decode cX11_row 47 = .ok (.iconst 0, 1) := by decide +kernel
theorem dX11_row_48 : decode cX11_row 48 = .ok (.goto 4, 3) := by decide +kernel
theorem dX11_row_51 : decode cX11_row 51 = .ok (.iconst 1, 1) := by decide +kernel
theorem dX11_row_52 : decode cX11_row 52 = .ok (.ireturn, 1) := by decide +kernel
theorem dX11_copy_0 : decode cX11_copy 0 = .ok (.aload_n 0, 1) := by decide +kernel
theorem dX11_copy_1 : decode cX11_copy 1 = .ok (.iload_n 1, 1) := by decide +kernel
theorem dX11_copy_2 : decode cX11_copy 2 = .ok (.iload_n 3, 1) := by decide +kernel
theorem dX11_copy_3 : decode cX11_copy 3 = .ok (.invokevirtual 88, 3) := by decide +kernel
theorem dX11_copy_6 : decode cX11_copy 6 = .ok (.ifCond .eq 14, 3) := by decide +kernel
theorem dX11_copy_9 : decode cX11_copy 9 = .ok (.aload_n 0, 1) := by decide +kernel
theorem dX11_copy_10 : decode cX11_copy 10 = .ok (.iload 5, 2) := by decide +kernel
theorem dX11_copy_12 : decode cX11_copy 12 = .ok (.iload 7, 2) := by decide +kernel
theorem dX11_copy_14 : decode cX11_copy 14 = .ok (.invokevirtual 88, 3) := by decide +kernel
theorem dX11_copy_17 : decode cX11_copy 17 = .ok (.ifCond .ne 5, 3) := by decide +kernel
theorem dX11_copy_20 : decode cX11_copy 20 = .ok (.iconst (-1), 1) := by decide +kernel
theorem dX11_copy_21 : decode cX11_copy 21 = .ok (.ireturn, 1) := by decide +kernel
theorem dX11_copy_22 : decode cX11_copy 22 = .ok (.aload_n 0, 1) := by decide +kernel
theorem dX11_copy_23 : decode cX11_copy 23 = .ok (.getfield 24, 3) := by decide +kernel
theorem dX11_copy_26 : decode cX11_copy 26 = .ok (.bipush 10, 2) := by decide +kernel
theorem dX11_copy_28 : decode cX11_copy 28 = .ok (.iload_n 1, 1) := by decide +kernel
theorem dX11_copy_29 : decode cX11_copy 29 = .ok (.imul, 1) := by decide +kernel
theorem dX11_copy_30 : decode cX11_copy 30 = .ok (.iload_n 3, 1) := by decide +kernel
theorem dX11_copy_31 : decode cX11_copy 31 = .ok (.iadd, 1) := by decide +kernel
theorem dX11_copy_32 : decode cX11_copy 32 = .ok (.baload, 1) := by decide +kernel
theorem dX11_copy_33 : decode cX11_copy 33 = .ok (.ifCond .ne 19, 3) := by decide +kernel
theorem dX11_copy_36 : decode cX11_copy 36 = .ok (.aload_n 0, 1) := by decide +kernel
theorem dX11_copy_37 : decode cX11_copy 37 = .ok (.getfield 24, 3) := by decide +kernel
theorem dX11_copy_40 : decode cX11_copy 40 = .ok (.bipush 10, 2) := by decide +kernel
theorem dX11_copy_42 : decode cX11_copy 42 = .ok (.iload 5, 2) := by decide +kernel
theorem dX11_copy_44 : decode cX11_copy 44 = .ok (.imul, 1) := by decide +kernel
theorem dX11_copy_45 : decode cX11_copy 45 = .ok (.iload 7, 2) := by decide +kernel
theorem dX11_copy_47 : decode cX11_copy 47 = .ok (.iadd, 1) := by decide +kernel
theorem dX11_copy_48 : decode cX11_copy 48 = .ok (.baload, 1) := by decide +kernel
theorem dX11_copy_49 : decode cX11_copy 49 = .ok (.ifCond .eq 6, 3) := by decide +kernel
theorem dX11_copy_52 : decode cX11_copy 52 = .ok (.bipush (-2), 2) := by decide +kernel
theorem dX11_copy_54 : decode cX11_copy 54 = .ok (.ireturn, 1) := by decide +kernel
theorem dX11_copy_55 : decode cX11_copy 55 = .ok (.iload 4, 2) := by decide +kernel
theorem dX11_copy_57 : decode cX11_copy 57 = .ok (.ifCond .ge 6, 3) := by decide +kernel
theorem dX11_copy_60 : decode cX11_copy 60 = .ok (.bipush (-3), 2) := by decide +kernel
theorem dX11_copy_62 : decode cX11_copy 62 = .ok (.ireturn, 1) := by decide +kernel
theorem dX11_copy_63 : decode cX11_copy 63 = .ok (.iload 4, 2) := by decide +kernel
theorem dX11_copy_65 : decode cX11_copy 65 = .ok (.aload_n 0, 1) := by decide +kernel
theorem dX11_copy_66 : decode cX11_copy 66 = .ok (.getfield 7, 3) := by decide +kernel
theorem dX11_copy_69 : decode cX11_copy 69 = .ok (.if_icmp .gt 34, 3) := by decide +kernel
theorem dX11_copy_72 : decode cX11_copy 72 = .ok (.iload_n 2, 1) := by decide +kernel
theorem dX11_copy_73 : decode cX11_copy 73 = .ok (.iconst 0, 1) := by decide +kernel
theorem dX11_copy_74 : decode cX11_copy 74 = .ok (.aload_n 0, 1) := by decide +kernel
theorem dX11_copy_75 : decode cX11_copy 75 = .ok (.getfield 7, 3) := by decide +kernel
theorem dX11_copy_78 : decode cX11_copy 78 = .ok (.iload 4, 2) := by decide +kernel
theorem dX11_copy_80 : decode cX11_copy 80 = .ok (.isub, 1) := by decide +kernel
theorem dX11_copy_81 : decode cX11_copy 81 = .ok (.invokestatic 80, 3) := by decide +kernel
theorem dX11_copy_84 : decode cX11_copy 84 = .ok (.ifCond .eq 19, 3) := by decide +kernel
theorem dX11_copy_87 : decode cX11_copy 87 = .ok (.iload 6, 2) := by decide +kernel
theorem dX11_copy_89 : decode cX11_copy 89 = .ok (.iconst 0, 1) := by decide +kernel
theorem dX11_copy_90 : decode cX11_copy 90 = .ok (.aload_n 0, 1) := by decide +kernel
theorem dX11_copy_91 : decode cX11_copy 91 = .ok (.getfield 7, 3) := by decide +kernel
theorem dX11_copy_94 : decode cX11_copy 94 = .ok (.iload 4, 2) := by decide +kernel
theorem dX11_copy_96 : decode cX11_copy 96 = .ok (.isub, 1) := by decide +kernel
theorem dX11_copy_97 : decode cX11_copy 97 = .ok (.invokestatic 80, 3) := by decide +kernel
theorem dX11_copy_100 : decode cX11_copy 100 = .ok (.ifCond .ne 5, 3) := by decide +kernel
theorem dX11_copy_103 : decode cX11_copy 103 = .ok (.iconst (-1), 1) := by decide +kernel
theorem dX11_copy_104 : decode cX11_copy 104 = .ok (.ireturn, 1) := by decide +kernel
theorem dX11_copy_105 : decode cX11_copy 105 = .ok (.aload_n 0, 1) := by decide +kernel
theorem dX11_copy_106 : decode cX11_copy 106 = .ok (.iload_n 1, 1) := by decide +kernel
theorem dX11_copy_107 : decode cX11_copy 107 = .ok (.iconst 0, 1) := by decide +kernel
theorem dX11_copy_108 : decode cX11_copy 108 = .ok (.iload_n 3, 1) := by decide +kernel
theorem dX11_copy_109 : decode cX11_copy 109 = .ok (.invokevirtual 84, 3) := by decide +kernel
theorem dX11_copy_112 : decode cX11_copy 112 = .ok (.iload_n 2, 1) := by decide +kernel
theorem dX11_copy_113 : decode cX11_copy 113 = .ok (.iadd, 1) := by decide +kernel
theorem dX11_copy_114 : decode cX11_copy 114 = .ok (.istore 8, 2) := by decide +kernel
theorem dX11_copy_116 : decode cX11_copy 116 = .ok (.aload_n 0, 1) := by decide +kernel
theorem dX11_copy_117 : decode cX11_copy 117 = .ok (.iload 5, 2) := by decide +kernel
theorem dX11_copy_119 : decode cX11_copy 119 = .ok (.iconst 0, 1) := by decide +kernel
theorem dX11_copy_120 : decode cX11_copy 120 = .ok (.iload 7, 2) := by decide +kernel
theorem dX11_copy_122 : decode cX11_copy 122 = .ok (.invokevirtual 84, 3) := by decide +kernel
theorem dX11_copy_125 : decode cX11_copy 125 = .ok (.iload 6, 2) := by decide +kernel
theorem dX11_copy_127 : decode cX11_copy 127 = .ok (.iadd, 1) := by decide +kernel
theorem dX11_copy_128 : decode cX11_copy 128 = .ok (.istore 9, 2) := by decide +kernel
theorem dX11_copy_130 : decode cX11_copy 130 = .ok (.iconst 0, 1) := by decide +kernel
theorem dX11_copy_131 : decode cX11_copy 131 = .ok (.istore 10, 2) := by decide +kernel
theorem dX11_copy_133 : decode cX11_copy 133 = .ok (.iload 10, 2) := by decide +kernel
theorem dX11_copy_135 : decode cX11_copy 135 = .ok (.iload 4, 2) := by decide +kernel
theorem dX11_copy_137 : decode cX11_copy 137 = .ok (.if_icmp .ge 70, 3) := by decide +kernel
theorem dX11_copy_140 : decode cX11_copy 140 = .ok (.iload 9, 2) := by decide +kernel
theorem dX11_copy_142 : decode cX11_copy 142 = .ok (.iload 8, 2) := by decide +kernel
theorem dX11_copy_144 : decode cX11_copy 144 = .ok (.if_icmp .le 13, 3) := by decide +kernel
theorem dX11_copy_147 : decode cX11_copy 147 = .ok (.iload 4, 2) := by decide +kernel
theorem dX11_copy_149 : decode cX11_copy 149 = .ok (.iconst 1, 1) := by decide +kernel
theorem dX11_copy_150 : decode cX11_copy 150 = .ok (.isub, 1) := by decide +kernel
theorem dX11_copy_151 : decode cX11_copy 151 = .ok (.iload 10, 2) := by decide +kernel
theorem dX11_copy_153 : decode cX11_copy 153 = .ok (.isub, 1) := by decide +kernel
theorem dX11_copy_154 : decode cX11_copy 154 = .ok (.goto 5, 3) := by decide +kernel
theorem dX11_copy_157 : decode cX11_copy 157 = .ok (.iload 10, 2) := by decide +kernel
theorem dX11_copy_159 : decode cX11_copy 159 = .ok (.istore 11, 2) := by decide +kernel
theorem dX11_copy_161 : decode cX11_copy 161 = .ok (.aload_n 0, 1) := by decide +kernel
theorem dX11_copy_162 : decode cX11_copy 162 = .ok (.getfield 16, 3) := by decide +kernel
theorem dX11_copy_165 : decode cX11_copy 165 = .ok (.iload 9, 2) := by decide +kernel
theorem dX11_copy_167 : decode cX11_copy 167 = .ok (.iload 11, 2) := by decide +kernel
theorem dX11_copy_169 : decode cX11_copy 169 = .ok (.iadd, 1) := by decide +kernel
theorem dX11_copy_170 : decode cX11_copy 170 = .ok (.aload_n 0, 1) := by decide +kernel
theorem dX11_copy_171 : decode cX11_copy 171 = .ok (.getfield 16, 3) := by decide +kernel
theorem dX11_copy_174 : decode cX11_copy 174 = .ok (.iload 8, 2) := by decide +kernel
theorem dX11_copy_176 : decode cX11_copy 176 = .ok (.iload 11, 2) := by decide +kernel
theorem dX11_copy_178 : decode cX11_copy 178 = .ok (.iadd, 1) := by decide +kernel
theorem dX11_copy_179 : decode cX11_copy 179 = .ok (.iaload, 1) := by decide +kernel
theorem dX11_copy_180 : decode cX11_copy 180 = .ok (.iastore, 1) := by decide +kernel
theorem dX11_copy_181 : decode cX11_copy 181 = .ok (.aload_n 0, 1) := by decide +kernel
theorem dX11_copy_182 : decode cX11_copy 182 = .ok (.getfield 20, 3) := by decide +kernel
theorem dX11_copy_185 : decode cX11_copy 185 = .ok (.iload 9, 2) := by decide +kernel
theorem dX11_copy_187 : decode cX11_copy 187 = .ok (.iload 11, 2) := by decide +kernel
theorem dX11_copy_189 : decode cX11_copy 189 = .ok (.iadd, 1) := by decide +kernel
theorem dX11_copy_190 : decode cX11_copy 190 = .ok (.aload_n 0, 1) := by decide +kernel
theorem dX11_copy_191 : decode cX11_copy 191 = .ok (.getfield 20, 3) := by decide +kernel
theorem dX11_copy_194 : decode cX11_copy 194 = .ok (.iload 8, 2) := by decide +kernel
theorem dX11_copy_196 : decode cX11_copy 196 = .ok (.iload 11, 2) := by decide +kernel
theorem dX11_copy_198 : decode cX11_copy 198 = .ok (.iadd, 1) := by decide +kernel
theorem dX11_copy_199 : decode cX11_copy 199 = .ok (.baload, 1) := by decide +kernel
theorem dX11_copy_200 : decode cX11_copy 200 = .ok (.bastore, 1) := by decide +kernel
theorem dX11_copy_201 : decode cX11_copy 201 = .ok (.iinc 10 1, 3) := by decide +kernel
theorem dX11_copy_204 : decode cX11_copy 204 = .ok (.goto (-71), 3) := by decide +kernel
theorem dX11_copy_207 : decode cX11_copy 207 = .ok (.aload_n 0, 1) := by decide +kernel
theorem dX11_copy_208 : decode cX11_copy 208 = .ok (.iconst 0, 1) := by decide +kernel
theorem dX11_copy_209 : decode cX11_copy 209 = .ok (.putfield 76, 3) := by decide +kernel
theorem dX11_copy_212 : decode cX11_copy 212 = .ok (.iload 4, 2) := by decide +kernel
theorem dX11_copy_214 : decode cX11_copy 214 = .ok (.ireturn, 1) := by decide +kernel
theorem dX11_told_0 : decode cX11_told 0 = .ok (.iload_n 1, 1) := by decide +kernel
theorem dX11_told_1 : decode cX11_told 1 = .ok (.iconst 0, 1) := by decide +kernel
theorem dX11_told_2 : decode cX11_told 2 = .ok (.iconst 1, 1) := by decide +kernel
theorem dX11_told_3 : decode cX11_told 3 = .ok (.invokestatic 80, 3) := by decide +kernel
theorem dX11_told_6 : decode cX11_told 6 = .ok (.ifCond .eq 12, 3) := by decide +kernel
theorem dX11_told_9 : decode cX11_told 9 = .ok (.aload_n 0, 1) := by decide +kernel
theorem dX11_told_10 : decode cX11_told 10 = .ok (.iload_n 2, 1) := by decide +kernel
theorem dX11_told_11 : decode cX11_told 11 = .ok (.iload_n 3, 1) := by decide +kernel
theorem dX11_told_12 : decode cX11_told 12 = .ok (.invokevirtual 95, 3) := by decide +kernel
theorem dX11_told_15 : decode cX11_told 15 = .ok (.ifCond .ne 5, 3) := by decide +kernel
theorem dX11_told_18 : decode cX11_told 18 = .ok (.iconst (-1), 1) := by decide +kernel
theorem dX11_told_19 : decode cX11_told 19 = .ok (.ireturn, 1) := by decide +kernel
theorem dX11_told_20 : decode cX11_told 20 = .ok (.aload_n 0, 1) := by decide +kernel
theorem dX11_told_21 : decode cX11_told 21 = .ok (.iload_n 1, 1) := by decide +kernel
theorem dX11_told_22 : decode cX11_told 22 = .ok (.iload_n 2, 1) := by decide +kernel
theorem dX11_told_23 : decode cX11_told 23 = .ok (.iload_n 3, 1) := by decide +kernel
theorem dX11_told_24 : decode cX11_told 24 = .ok (.invokevirtual 98, 3) := by decide +kernel
theorem dX11_told_27 : decode cX11_told 27 = .ok (.ifCond .eq 8, 3) := by decide +kernel
theorem dX11_told_30 : decode cX11_told 30 = .ok (.bipush (-5), 2) := by decide +kernel
theorem dX11_told_32 : decode cX11_told 32 = .ok (.goto 15, 3) := by decide +kernel
theorem dX11_told_35 : decode cX11_told 35 = .ok (.aload_n 0, 1) := by decide +kernel
theorem dX11_told_36 : decode cX11_told 36 = .ok (.getfield 16, 3) := by decide +kernel
theorem dX11_told_39 : decode cX11_told 39 = .ok (.aload_n 0, 1) := by decide +kernel
theorem dX11_told_40 : decode cX11_told 40 = .ok (.iload_n 1, 1) := by decide +kernel
theorem dX11_told_41 : decode cX11_told 41 = .ok (.iload_n 2, 1) := by decide +kernel
theorem dX11_told_42 : decode cX11_told 42 = .ok (.iload_n 3, 1) := by decide +kernel
theorem dX11_told_43 : decode cX11_told 43 = .ok (.invokevirtual 84, 3) := by decide +kernel
theorem dX11_told_46 : decode cX11_told 46 = .ok (.iaload, 1) := by decide +kernel
theorem dX11_told_47 : decode cX11_told 47 = .ok (.ireturn, 1) := by decide +kernel
theorem dX11_rule_0 : decode cX11_rule 0 = .ok (.iload_n 1, 1) := by decide +kernel
theorem dX11_rule_1 : decode cX11_rule 1 = .ok (.iconst 0, 1) := by decide +kernel
theorem dX11_rule_2 : decode cX11_rule 2 = .ok (.iconst 4, 1) := by decide +kernel
theorem dX11_rule_3 : decode cX11_rule 3 = .ok (.invokestatic 80, 3) := by decide +kernel
theorem dX11_rule_6 : decode cX11_rule 6 = .ok (.ifCond .ne 5, 3) := by decide +kernel
theorem dX11_rule_9 : decode cX11_rule 9 = .ok (.iconst (-1), 1) := by decide +kernel
theorem dX11_rule_10 : decode cX11_rule 10 = .ok (.ireturn, 1) := by decide +kernel
theorem dX11_rule_11 : decode cX11_rule 11 = .ok (.iload_n 1, 1) := by decide +kernel
theorem dX11_rule_12 : decode cX11_rule 12 = .ok (.ifCond .ne 8, 3) := by decide +kernel
theorem dX11_rule_15 : decode cX11_rule 15 = .ok (.bipush 8, 2) := by decide +kernel
theorem dX11_rule_17 : decode cX11_rule 17 = .ok (.goto 26, 3) := by decide +kernel
theorem dX11_rule_20 : decode cX11_rule 20 = .ok (.iload_n 1, 1) := by decide +kernel
theorem dX11_rule_21 : decode cX11_rule 21 = .ok (.iconst 3, 1) := by decide +kernel
theorem dX11_rule_22 : decode cX11_rule 22 = .ok (.if_icmp .ge 8, 3) := by decide +kernel
theorem dX11_rule_25 : decode cX11_rule 25 = .ok (.bipush 20, 2) := by decide +kernel
theorem dX11_rule_27 : decode cX11_rule 27 = .ok (.goto 16, 3) := by decide +kernel
theorem dX11_rule_30 : decode cX11_rule 30 = .ok (.iload_n 1, 1) := by decide +kernel
theorem dX11_rule_31 : decode cX11_rule 31 = .ok (.iconst 3, 1) := by decide +kernel
theorem dX11_rule_32 : decode cX11_rule 32 = .ok (.if_icmp .ne 8, 3) := by decide +kernel
theorem dX11_rule_35 : decode cX11_rule 35 = .ok (.bipush 40, 2) := by decide +kernel
theorem dX11_rule_37 : decode cX11_rule 37 = .ok (.goto 6, 3) := by decide +kernel
theorem dX11_rule_40 : decode cX11_rule 40 = .ok (.sipush 255, 3) := by decide +kernel
theorem dX11_rule_43 : decode cX11_rule 43 = .ok (.istore_n 3, 1) := by decide +kernel
theorem dX11_rule_44 : decode cX11_rule 44 = .ok (.iload_n 2, 1) := by decide +kernel
theorem dX11_rule_45 : decode cX11_rule 45 = .ok (.iconst 0, 1) := by decide +kernel
theorem dX11_rule_46 : decode cX11_rule 46 = .ok (.iload_n 3, 1) := by decide +kernel
theorem dX11_rule_47 : decode cX11_rule 47 = .ok (.invokestatic 80, 3) := by decide +kernel
theorem dX11_rule_50 : decode cX11_rule 50 = .ok (.ifCond .ne 5, 3) := by decide +kernel
theorem dX11_rule_53 : decode cX11_rule 53 = .ok (.iconst (-1), 1) := by decide +kernel
theorem dX11_rule_54 : decode cX11_rule 54 = .ok (.ireturn, 1) := by decide +kernel
theorem dX11_rule_55 : decode cX11_rule 55 = .ok (.aload_n 0, 1) := by decide +kernel
theorem dX11_rule_56 : decode cX11_rule 56 = .ok (.getfield 30, 3) := by decide +kernel
theorem dX11_rule_59 : decode cX11_rule 59 = .ok (.iload_n 1, 1) := by decide +kernel
theorem dX11_rule_60 : decode cX11_rule 60 = .ok (.iaload, 1) := by decide +kernel
theorem dX11_rule_61 : decode cX11_rule 61 = .ok (.istore 4, 2) := by decide +kernel
theorem dX11_rule_63 : decode cX11_rule 63 = .ok (.aload_n 0, 1) := by decide +kernel
theorem dX11_rule_64 : decode cX11_rule 64 = .ok (.getfield 30, 3) := by decide +kernel
theorem dX11_rule_67 : decode cX11_rule 67 = .ok (.iload_n 1, 1) := by decide +kernel
theorem dX11_rule_68 : decode cX11_rule 68 = .ok (.iload_n 2, 1) := by decide +kernel
theorem dX11_rule_69 : decode cX11_rule 69 = .ok (.iastore, 1) := by decide +kernel
theorem dX11_rule_70 : decode cX11_rule 70 = .ok (.aload_n 0, 1) := by decide +kernel
theorem dX11_rule_71 : decode cX11_rule 71 = .ok (.iconst 0, 1) := by decide +kernel
theorem dX11_rule_72 : decode cX11_rule 72 = .ok (.putfield 76, 3) := by decide +kernel
theorem dX11_rule_75 : decode cX11_rule 75 = .ok (.iload 4, 2) := by decide +kernel
theorem dX11_rule_77 : decode cX11_rule 77 = .ok (.ireturn, 1) := by decide +kernel
theorem dX11_lostMany_0 : decode cX11_lostMany 0 = .ok (.iconst 0, 1) := by decide +kernel
theorem dX11_lostMany_1 : decode cX11_lostMany 1 = .ok (.istore_n 2, 1) := by decide +kernel
theorem dX11_lostMany_2 : decode cX11_lostMany 2 = .ok (.iconst 0, 1) := by decide +kernel
theorem dX11_lostMany_3 : decode cX11_lostMany 3 = .ok (.istore_n 3, 1) := by decide +kernel
theorem dX11_lostMany_4 : decode cX11_lostMany 4 = .ok (.iload_n 3, 1) := by decide +kernel
theorem dX11_lostMany_5 : decode cX11_lostMany 5 = .ok (.aload_n 0, 1) := by decide +kernel
theorem dX11_lostMany_6 : decode cX11_lostMany 6 = .ok (.getfield 13, 3) := by decide +kernel
theorem dX11_lostMany_9 : decode cX11_lostMany 9 = .ok (.if_icmp .ge 46, 3) := by decide +kernel
theorem dX11_lostMany_12 : decode cX11_lostMany 12 = .ok (.iconst 0, 1) := by decide +kernel
theorem dX11_lostMany_13 : decode cX11_lostMany 13 = .ok (.istore 4, 2) := by decide +kernel
theorem dX11_lostMany_15 : decode cX11_lostMany 15 = .ok (.iload 4, 2) := by decide +kernel
theorem dX11_lostMany_17 : decode cX11_lostMany 17 = .ok (.aload_n 0, 1) := by decide +kernel
theorem dX11_lostMany_18 : decode cX11_lostMany 18 = .ok (.getfield 7, 3) := by decide +kernel
theorem dX11_lostMany_21 : decode cX11_lostMany 21 = .ok (.if_icmp .ge 28, 3) := by decide +kernel
theorem dX11_lostMany_24 : decode cX11_lostMany 24 = .ok (.iload_n 2, 1) := by decide +kernel
theorem dX11_lostMany_25 : decode cX11_lostMany 25 = .ok (.aload_n 0, 1) := by decide +kernel
theorem dX11_lostMany_26 : decode cX11_lostMany 26 = .ok (.iload_n 1, 1) := by decide +kernel
theorem dX11_lostMany_27 : decode cX11_lostMany 27 = .ok (.iload 4, 2) := by decide +kernel
theorem dX11_lostMany_29 : decode cX11_lostMany 29 = .ok (.iload_n 3, 1) := by decide +kernel
theorem dX11_lostMany_30 : decode cX11_lostMany 30 = .ok (.invokevirtual 98, 3) := by decide +kernel
theorem dX11_lostMany_33 : decode cX11_lostMany 33 = .ok (.ifCond .eq 7, 3) := by decide +kernel
theorem dX11_lostMany_36 : decode cX11_lostMany 36 = .ok (.iconst 1, 1) := by decide +kernel
theorem dX11_lostMany_37 : decode cX11_lostMany 37 = .ok (.goto 4, 3) := by decide +kernel
theorem dX11_lostMany_40 : decode cX11_lostMany 40 = .ok (.iconst 0, 1) := by decide +kernel
theorem dX11_lostMany_41 : decode cX11_lostMany 41 = .ok (.iadd, 1) := by decide +kernel
theorem dX11_lostMany_42 : decode cX11_lostMany 42 = .ok (.istore_n 2, 1) := by decide +kernel
theorem dX11_lostMany_43 : decode cX11_lostMany 43 = .ok (.iinc 4 1, 3) := by decide +kernel
theorem dX11_lostMany_46 : decode cX11_lostMany 46 = .ok (.goto (-31), 3) := by decide +kernel
theorem dX11_lostMany_49 : decode cX11_lostMany 49 = .ok (.iinc 3 1, 3) := by decide +kernel
theorem dX11_lostMany_52 : decode cX11_lostMany 52 = .ok (.goto (-48), 3) := by decide +kernel
theorem dX11_lostMany_55 : decode cX11_lostMany 55 = .ok (.iload_n 2, 1) := by decide +kernel
theorem dX11_lostMany_56 : decode cX11_lostMany 56 = .ok (.ireturn, 1) := by decide +kernel
theorem dX11_toldMany_0 : decode cX11_toldMany 0 = .ok (.iconst 0, 1) := by decide +kernel
theorem dX11_toldMany_1 : decode cX11_toldMany 1 = .ok (.istore_n 1, 1) := by decide +kernel
theorem dX11_toldMany_2 : decode cX11_toldMany 2 = .ok (.iconst 0, 1) := by decide +kernel
theorem dX11_toldMany_3 : decode cX11_toldMany 3 = .ok (.istore_n 2, 1) := by decide +kernel
theorem dX11_toldMany_4 : decode cX11_toldMany 4 = .ok (.iload_n 2, 1) := by decide +kernel
theorem dX11_toldMany_5 : decode cX11_toldMany 5 = .ok (.aload_n 0, 1) := by decide +kernel
theorem dX11_toldMany_6 : decode cX11_toldMany 6 = .ok (.getfield 7, 3) := by decide +kernel
theorem dX11_toldMany_9 : decode cX11_toldMany 9 = .ok (.aload_n 0, 1) := by decide +kernel
theorem dX11_toldMany_10 : decode cX11_toldMany 10 = .ok (.getfield 13, 3) := by decide +kernel
theorem dX11_toldMany_13 : decode cX11_toldMany 13 = .ok (.imul, 1) := by decide +kernel
theorem dX11_toldMany_14 : decode cX11_toldMany 14 = .ok (.if_icmp .ge 36, 3) := by decide +kernel
theorem dX11_toldMany_17 : decode cX11_toldMany 17 = .ok (.iload_n 1, 1) := by decide +kernel
theorem dX11_toldMany_18 : decode cX11_toldMany 18 = .ok (.aload_n 0, 1) := by decide +kernel
theorem dX11_toldMany_19 : decode cX11_toldMany 19 = .ok (.iload_n 2, 1) := by decide +kernel
theorem dX11_toldMany_20 : decode cX11_toldMany 20 = .ok (.aload_n 0, 1) := by decide +kernel
theorem dX11_toldMany_21 : decode cX11_toldMany 21 = .ok (.getfield 7, 3) := by decide +kernel
theorem dX11_toldMany_24 : decode cX11_toldMany 24 = .ok (.irem, 1) := by decide +kernel
theorem dX11_toldMany_25 : decode cX11_toldMany 25 = .ok (.iload_n 2, 1) := by decide +kernel
theorem dX11_toldMany_26 : decode cX11_toldMany 26 = .ok (.aload_n 0, 1) := by decide +kernel
theorem dX11_toldMany_27 : decode cX11_toldMany 27 = .ok (.getfield 7, 3) := by decide +kernel
theorem dX11_toldMany_30 : decode cX11_toldMany 30 = .ok (.idiv, 1) := by decide +kernel
theorem dX11_toldMany_31 : decode cX11_toldMany 31 = .ok (.invokevirtual 101, 3) := by decide +kernel
theorem dX11_toldMany_34 : decode cX11_toldMany 34 = .ok (.ifCond .lt 7, 3) := by decide +kernel
theorem dX11_toldMany_37 : decode cX11_toldMany 37 = .ok (.iconst 1, 1) := by decide +kernel
theorem dX11_toldMany_38 : decode cX11_toldMany 38 = .ok (.goto 4, 3) := by decide +kernel
theorem dX11_toldMany_41 : decode cX11_toldMany 41 = .ok (.iconst 0, 1) := by decide +kernel
theorem dX11_toldMany_42 : decode cX11_toldMany 42 = .ok (.iadd, 1) := by decide +kernel
theorem dX11_toldMany_43 : decode cX11_toldMany 43 = .ok (.istore_n 1, 1) := by decide +kernel
theorem dX11_toldMany_44 : decode cX11_toldMany 44 = .ok (.iinc 2 1, 3) := by decide +kernel
theorem dX11_toldMany_47 : decode cX11_toldMany 47 = .ok (.goto (-43), 3) := by decide +kernel
theorem dX11_toldMany_50 : decode cX11_toldMany 50 = .ok (.iload_n 1, 1) := by decide +kernel
theorem dX11_toldMany_51 : decode cX11_toldMany 51 = .ok (.ireturn, 1) := by decide +kernel
theorem dX11_anchors_0 : decode cX11_anchors 0 = .ok (.iconst 0, 1) := by decide +kernel
theorem dX11_anchors_1 : decode cX11_anchors 1 = .ok (.istore_n 1, 1) := by decide +kernel
theorem dX11_anchors_2 : decode cX11_anchors 2 = .ok (.iconst 0, 1) := by decide +kernel
theorem dX11_anchors_3 : decode cX11_anchors 3 = .ok (.istore_n 2, 1) := by decide +kernel
theorem dX11_anchors_4 : decode cX11_anchors 4 = .ok (.iload_n 2, 1) := by decide +kernel
theorem dX11_anchors_5 : decode cX11_anchors 5 = .ok (.aload_n 0, 1) := by decide +kernel
theorem dX11_anchors_6 : decode cX11_anchors 6 = .ok (.getfield 7, 3) := by decide +kernel
theorem dX11_anchors_9 : decode cX11_anchors 9 = .ok (.aload_n 0, 1) := by decide +kernel
theorem dX11_anchors_10 : decode cX11_anchors 10 = .ok (.getfield 13, 3) := by decide +kernel
theorem dX11_anchors_13 : decode cX11_anchors 13 = .ok (.imul, 1) := by decide +kernel
theorem dX11_anchors_14 : decode cX11_anchors 14 = .ok (.if_icmp .ge 27, 3) := by decide +kernel
theorem dX11_anchors_17 : decode cX11_anchors 17 = .ok (.iload_n 1, 1) := by decide +kernel
theorem dX11_anchors_18 : decode cX11_anchors 18 = .ok (.aload_n 0, 1) := by decide +kernel
theorem dX11_anchors_19 : decode cX11_anchors 19 = .ok (.getfield 63, 3) := by decide +kernel
theorem dX11_anchors_22 : decode cX11_anchors 22 = .ok (.iload_n 2, 1) := by decide +kernel
theorem dX11_anchors_23 : decode cX11_anchors 23 = .ok (.iaload, 1) := by decide +kernel
theorem dX11_anchors_24 : decode cX11_anchors 24 = .ok (.iload_n 2, 1) := by decide +kernel
theorem dX11_anchors_25 : decode cX11_anchors 25 = .ok (.if_icmp .ne 7, 3) := by decide +kernel
theorem dX11_anchors_28 : decode cX11_anchors 28 = .ok (.iconst 1, 1) := by decide +kernel
theorem dX11_anchors_29 : decode cX11_anchors 29 = .ok (.goto 4, 3) := by decide +kernel
theorem dX11_anchors_32 : decode cX11_anchors 32 = .ok (.iconst 0, 1) := by decide +kernel
theorem dX11_anchors_33 : decode cX11_anchors 33 = .ok (.iadd, 1) := by decide +kernel
theorem dX11_anchors_34 : decode cX11_anchors 34 = .ok (.istore_n 1, 1) := by decide +kernel
theorem dX11_anchors_35 : decode cX11_anchors 35 = .ok (.iinc 2 1, 3) := by decide +kernel
theorem dX11_anchors_38 : decode cX11_anchors 38 = .ok (.goto (-34), 3) := by decide +kernel
theorem dX11_anchors_41 : decode cX11_anchors 41 = .ok (.iload_n 1, 1) := by decide +kernel
theorem dX11_anchors_42 : decode cX11_anchors 42 = .ok (.ireturn, 1) := by decide +kernel
theorem dX11_truthMany_0 : decode cX11_truthMany 0 = .ok (.iconst 0, 1) := by decide +kernel
theorem dX11_truthMany_1 : decode cX11_truthMany 1 = .ok (.istore_n 1, 1) := by decide +kernel
theorem dX11_truthMany_2 : decode cX11_truthMany 2 = .ok (.iconst 0, 1) := by decide +kernel
theorem dX11_truthMany_3 : decode cX11_truthMany 3 = .ok (.istore_n 2, 1) := by decide +kernel
theorem dX11_truthMany_4 : decode cX11_truthMany 4 = .ok (.iload_n 2, 1) := by decide +kernel
theorem dX11_truthMany_5 : decode cX11_truthMany 5 = .ok (.aload_n 0, 1) := by decide +kernel
theorem dX11_truthMany_6 : decode cX11_truthMany 6 = .ok (.getfield 7, 3) := by decide +kernel
theorem dX11_truthMany_9 : decode cX11_truthMany 9 = .ok (.aload_n 0, 1) := by decide +kernel
theorem dX11_truthMany_10 : decode cX11_truthMany 10 = .ok (.getfield 13, 3) := by decide +kernel
theorem dX11_truthMany_13 : decode cX11_truthMany 13 = .ok (.imul, 1) := by decide +kernel
theorem dX11_truthMany_14 : decode cX11_truthMany 14 = .ok (.if_icmp .ge 28, 3) := by decide +kernel
theorem dX11_truthMany_17 : decode cX11_truthMany 17 = .ok (.iload_n 1, 1) := by decide +kernel
theorem dX11_truthMany_18 : decode cX11_truthMany 18 = .ok (.aload_n 0, 1) := by decide +kernel
theorem dX11_truthMany_19 : decode cX11_truthMany 19 = .ok (.getfield 27, 3) := by decide +kernel
theorem dX11_truthMany_22 : decode cX11_truthMany 22 = .ok (.iload_n 2, 1) := by decide +kernel
theorem dX11_truthMany_23 : decode cX11_truthMany 23 = .ok (.iaload, 1) := by decide +kernel
theorem dX11_truthMany_24 : decode cX11_truthMany 24 = .ok (.bipush (-4), 2) := by decide +kernel
theorem dX11_truthMany_26 : decode cX11_truthMany 26 = .ok (.if_icmp .eq 7, 3) := by decide +kernel
theorem dX11_truthMany_29 : decode cX11_truthMany 29 = .ok (.iconst 1, 1) := by decide +kernel
theorem dX11_truthMany_30 : decode cX11_truthMany 30 = .ok (.goto 4, 3) := by decide +kernel
theorem dX11_truthMany_33 : decode cX11_truthMany 33 = .ok (.iconst 0, 1) := by decide +kernel
theorem dX11_truthMany_34 : decode cX11_truthMany 34 = .ok (.iadd, 1) := by decide +kernel
theorem dX11_truthMany_35 : decode cX11_truthMany 35 = .ok (.istore_n 1, 1) := by decide +kernel
theorem dX11_truthMany_36 : decode cX11_truthMany 36 = .ok (.iinc 2 1, 3) := by decide +kernel
theorem dX11_truthMany_39 : decode cX11_truthMany 39 = .ok (.goto (-35), 3) := by decide +kernel
theorem dX11_truthMany_42 : decode cX11_truthMany 42 = .ok (.iload_n 1, 1) := by decide +kernel
theorem dX11_truthMany_43 : decode cX11_truthMany 43 = .ok (.ireturn, 1) := by decide +kernel
theorem dX11_many_0 : decode cX11_many 0 = .ok (.aload_n 0, 1) := by decide +kernel
theorem dX11_many_1 : decode cX11_many 1 = .ok (.invokevirtual 105, 3) := by decide +kernel
theorem dX11_many_4 : decode cX11_many 4 = .ok (.iload_n 1, 1) := by decide +kernel
theorem dX11_many_5 : decode cX11_many 5 = .ok (.tableswitch 85 0 7 #[47, 52, 57, 57, 65, 70, 75, 80], 47) := by decide +kernel
theorem dX11_many_52 : decode cX11_many 52 = .ok (.aload_n 0, 1) := by decide +kernel
theorem dX11_many_53 : decode cX11_many 53 = .ok (.getfield 7, 3) := by decide +kernel
theorem dX11_many_56 : decode cX11_many 56 = .ok (.ireturn, 1) := by decide +kernel
theorem dX11_many_57 : decode cX11_many 57 = .ok (.aload_n 0, 1) := by decide +kernel
theorem dX11_many_58 : decode cX11_many 58 = .ok (.getfield 13, 3) := by decide +kernel
theorem dX11_many_61 : decode cX11_many 61 = .ok (.ireturn, 1) := by decide +kernel
theorem dX11_many_62 : decode cX11_many 62 = .ok (.aload_n 0, 1) := by decide +kernel
theorem dX11_many_63 : decode cX11_many 63 = .ok (.iload_n 1, 1) := by decide +kernel
theorem dX11_many_64 : decode cX11_many 64 = .ok (.iconst 2, 1) := by decide +kernel
theorem dX11_many_65 : decode cX11_many 65 = .ok (.isub, 1) := by decide +kernel
theorem dX11_many_66 : decode cX11_many 66 = .ok (.invokevirtual 108, 3) := by decide +kernel
theorem dX11_many_69 : decode cX11_many 69 = .ok (.ireturn, 1) := by decide +kernel
theorem dX11_many_70 : decode cX11_many 70 = .ok (.aload_n 0, 1) := by decide +kernel
theorem dX11_many_71 : decode cX11_many 71 = .ok (.invokevirtual 112, 3) := by decide +kernel
theorem dX11_many_74 : decode cX11_many 74 = .ok (.ireturn, 1) := by decide +kernel
theorem dX11_many_75 : decode cX11_many 75 = .ok (.aload_n 0, 1) := by decide +kernel
theorem dX11_many_76 : decode cX11_many 76 = .ok (.invokevirtual 116, 3) := by decide +kernel
theorem dX11_many_79 : decode cX11_many 79 = .ok (.ireturn, 1) := by decide +kernel
theorem dX11_many_80 : decode cX11_many 80 = .ok (.aload_n 0, 1) := by decide +kernel
theorem dX11_many_81 : decode cX11_many 81 = .ok (.invokevirtual 119, 3) := by decide +kernel
theorem dX11_many_84 : decode cX11_many 84 = .ok (.ireturn, 1) := by decide +kernel
theorem dX11_many_85 : decode cX11_many 85 = .ok (.aload_n 0, 1) := by decide +kernel
theorem dX11_many_86 : decode cX11_many 86 = .ok (.invokevirtual 122, 3) := by decide +kernel
theorem dX11_many_89 : decode cX11_many 89 = .ok (.ireturn, 1) := by decide +kernel
theorem dX11_many_90 : decode cX11_many 90 = .ok (.iconst (-1), 1) := by decide +kernel
theorem dX11_many_91 : decode cX11_many 91 = .ok (.ireturn, 1) := by decide +kernel
theorem dX11_acrossOf_0 : decode cX11_acrossOf 0 = .ok (.iload_n 0, 1) := by decide +kernel
theorem dX11_acrossOf_1 : decode cX11_acrossOf 1 = .ok (.ifCond .eq 13, 3) := by decide +kernel
theorem dX11_acrossOf_4 : decode cX11_acrossOf 4 = .ok (.iload_n 0, 1) := by decide +kernel
theorem dX11_acrossOf_5 : decode cX11_acrossOf 5 = .ok (.iconst 3, 1) := by decide +kernel
theorem dX11_acrossOf_6 : decode cX11_acrossOf 6 = .ok (.if_icmp .eq 8, 3) := by decide +kernel
theorem dX11_acrossOf_9 : decode cX11_acrossOf 9 = .ok (.iload_n 0, 1) := by decide +kernel
theorem dX11_acrossOf_10 : decode cX11_acrossOf 10 = .ok (.iconst 5, 1) := by decide +kernel
theorem dX11_acrossOf_11 : decode cX11_acrossOf 11 = .ok (.if_icmp .ne 7, 3) := by decide +kernel
theorem dX11_acrossOf_14 : decode cX11_acrossOf 14 = .ok (.iconst (-1), 1) := by decide +kernel
theorem dX11_acrossOf_15 : decode cX11_acrossOf 15 = .ok (.goto 19, 3) := by decide +kernel
theorem dX11_acrossOf_18 : decode cX11_acrossOf 18 = .ok (.iload_n 0, 1) := by decide +kernel
theorem dX11_acrossOf_19 : decode cX11_acrossOf 19 = .ok (.iconst 1, 1) := by decide +kernel
theorem dX11_acrossOf_20 : decode cX11_acrossOf 20 = .ok (.if_icmp .eq 9, 3) := by decide +kernel
theorem dX11_acrossOf_23 : decode cX11_acrossOf 23 = .ok (.iload_n 0, 1) := by decide +kernel
theorem dX11_acrossOf_24 : decode cX11_acrossOf 24 = .ok (.bipush 6, 2) := by decide +kernel
theorem dX11_acrossOf_26 : decode cX11_acrossOf 26 = .ok (.if_icmp .ne 7, 3) := by decide +kernel
theorem dX11_acrossOf_29 : decode cX11_acrossOf 29 = .ok (.iconst 0, 1) := by decide +kernel
theorem dX11_acrossOf_30 : decode cX11_acrossOf 30 = .ok (.goto 4, 3) := by decide +kernel
theorem dX11_acrossOf_33 : decode cX11_acrossOf 33 = .ok (.iconst 1, 1) := by decide +kernel
theorem dX11_acrossOf_34 : decode cX11_acrossOf 34 = .ok (.ireturn, 1) := by decide +kernel
theorem dX11_downOf_0 : decode cX11_downOf 0 = .ok (.iload_n 0, 1) := by decide +kernel
theorem dX11_downOf_1 : decode cX11_downOf 1 = .ok (.iconst 3, 1) := by decide +kernel
theorem dX11_downOf_2 : decode cX11_downOf 2 = .ok (.if_icmp .ge 7, 3) := by decide +kernel
theorem dX11_downOf_5 : decode cX11_downOf 5 = .ok (.iconst (-1), 1) := by decide +kernel
theorem dX11_downOf_6 : decode cX11_downOf 6 = .ok (.goto 13, 3) := by decide +kernel
theorem dX11_downOf_9 : decode cX11_downOf 9 = .ok (.iload_n 0, 1) := by decide +kernel
theorem dX11_downOf_10 : decode cX11_downOf 10 = .ok (.iconst 5, 1) := by decide +kernel
theorem dX11_downOf_11 : decode cX11_downOf 11 = .ok (.if_icmp .ge 7, 3) := by decide +kernel
theorem dX11_downOf_14 : decode cX11_downOf 14 = .ok (.iconst 0, 1) := by decide +kernel
theorem dX11_downOf_15 : decode cX11_downOf 15 = .ok (.goto 4, 3) := by decide +kernel
theorem dX11_downOf_18 : decode cX11_downOf 18 = .ok (.iconst 1, 1) := by decide +kernel
theorem dX11_downOf_19 : decode cX11_downOf 19 = .ok (.ireturn, 1) := by decide +kernel
theorem dX11_isKnown_0 : decode cX11_isKnown 0 = .ok (.aload_n 0, 1) := by decide +kernel
theorem dX11_isKnown_1 : decode cX11_isKnown 1 = .ok (.iload_n 2, 1) := by decide +kernel
theorem dX11_isKnown_2 : decode cX11_isKnown 2 = .ok (.iload_n 3, 1) := by decide +kernel
theorem dX11_isKnown_3 : decode cX11_isKnown 3 = .ok (.invokevirtual 95, 3) := by decide +kernel
theorem dX11_isKnown_6 : decode cX11_isKnown 6 = .ok (.ifCond .eq 17, 3) := by decide +kernel
theorem dX11_isKnown_9 : decode cX11_isKnown 9 = .ok (.aload_n 0, 1) := by decide +kernel
theorem dX11_isKnown_10 : decode cX11_isKnown 10 = .ok (.iload_n 1, 1) := by decide +kernel
theorem dX11_isKnown_11 : decode cX11_isKnown 11 = .ok (.iload_n 2, 1) := by decide +kernel
theorem dX11_isKnown_12 : decode cX11_isKnown 12 = .ok (.iload_n 3, 1) := by decide +kernel
theorem dX11_isKnown_13 : decode cX11_isKnown 13 = .ok (.invokevirtual 98, 3) := by decide +kernel
theorem dX11_isKnown_16 : decode cX11_isKnown 16 = .ok (.ifCond .ne 7, 3) := by decide +kernel
theorem dX11_isKnown_19 : decode cX11_isKnown 19 = .ok (.iconst 1, 1) := by decide +kernel
theorem dX11_isKnown_20 : decode cX11_isKnown 20 = .ok (.goto 4, 3) := by decide +kernel
theorem dX11_isKnown_23 : decode cX11_isKnown 23 = .ok (.iconst 0, 1) := by decide +kernel
theorem dX11_isKnown_24 : decode cX11_isKnown 24 = .ok (.ireturn, 1) := by decide +kernel
theorem dX11_costAt_0 : decode cX11_costAt 0 = .ok (.iload_n 1, 1) := by decide +kernel
theorem dX11_costAt_1 : decode cX11_costAt 1 = .ok (.iload_n 3, 1) := by decide +kernel
theorem dX11_costAt_2 : decode cX11_costAt 2 = .ok (.if_icmp .lt 25, 3) := by decide +kernel
theorem dX11_costAt_5 : decode cX11_costAt 5 = .ok (.aload_n 0, 1) := by decide +kernel
theorem dX11_costAt_6 : decode cX11_costAt 6 = .ok (.iconst 0, 1) := by decide +kernel
theorem dX11_costAt_7 : decode cX11_costAt 7 = .ok (.iload_n 1, 1) := by decide +kernel
theorem dX11_costAt_8 : decode cX11_costAt 8 = .ok (.iload_n 2, 1) := by decide +kernel
theorem dX11_costAt_9 : decode cX11_costAt 9 = .ok (.invokevirtual 98, 3) := by decide +kernel
theorem dX11_costAt_12 : decode cX11_costAt 12 = .ok (.ifCond .ne 15, 3) := by decide +kernel
theorem dX11_costAt_15 : decode cX11_costAt 15 = .ok (.aload_n 0, 1) := by decide +kernel
theorem dX11_costAt_16 : decode cX11_costAt 16 = .ok (.iconst 1, 1) := by decide +kernel
theorem dX11_costAt_17 : decode cX11_costAt 17 = .ok (.iload_n 1, 1) := by decide +kernel
theorem dX11_costAt_18 : decode cX11_costAt 18 = .ok (.iload_n 3, 1) := by decide +kernel
theorem dX11_costAt_19 : decode cX11_costAt 19 = .ok (.isub, 1) := by decide +kernel
theorem dX11_costAt_20 : decode cX11_costAt 20 = .ok (.iload_n 2, 1) := by decide +kernel
theorem dX11_costAt_21 : decode cX11_costAt 21 = .ok (.invokevirtual 98, 3) := by decide +kernel
theorem dX11_costAt_24 : decode cX11_costAt 24 = .ok (.ifCond .eq 5, 3) := by decide +kernel
theorem dX11_costAt_27 : decode cX11_costAt 27 = .ok (.iconst (-1), 1) := by decide +kernel
theorem dX11_costAt_28 : decode cX11_costAt 28 = .ok (.ireturn, 1) := by decide +kernel
theorem dX11_costAt_29 : decode cX11_costAt 29 = .ok (.iconst 0, 1) := by decide +kernel
theorem dX11_costAt_30 : decode cX11_costAt 30 = .ok (.istore 4, 2) := by decide +kernel
theorem dX11_costAt_32 : decode cX11_costAt 32 = .ok (.aload_n 0, 1) := by decide +kernel
theorem dX11_costAt_33 : decode cX11_costAt 33 = .ok (.getfield 16, 3) := by decide +kernel
theorem dX11_costAt_36 : decode cX11_costAt 36 = .ok (.aload_n 0, 1) := by decide +kernel
theorem dX11_costAt_37 : decode cX11_costAt 37 = .ok (.iconst 0, 1) := by decide +kernel
theorem dX11_costAt_38 : decode cX11_costAt 38 = .ok (.iload_n 1, 1) := by decide +kernel
theorem dX11_costAt_39 : decode cX11_costAt 39 = .ok (.iload_n 2, 1) := by decide +kernel
theorem dX11_costAt_40 : decode cX11_costAt 40 = .ok (.invokevirtual 84, 3) := by decide +kernel
theorem dX11_costAt_43 : decode cX11_costAt 43 = .ok (.iaload, 1) := by decide +kernel
theorem dX11_costAt_44 : decode cX11_costAt 44 = .ok (.istore 5, 2) := by decide +kernel
theorem dX11_costAt_46 : decode cX11_costAt 46 = .ok (.aload_n 0, 1) := by decide +kernel
theorem dX11_costAt_47 : decode cX11_costAt 47 = .ok (.getfield 16, 3) := by decide +kernel
theorem dX11_costAt_50 : decode cX11_costAt 50 = .ok (.aload_n 0, 1) := by decide +kernel
theorem dX11_costAt_51 : decode cX11_costAt 51 = .ok (.iconst 1, 1) := by decide +kernel
theorem dX11_costAt_52 : decode cX11_costAt 52 = .ok (.iload_n 1, 1) := by decide +kernel
theorem dX11_costAt_53 : decode cX11_costAt 53 = .ok (.iload_n 3, 1) := by decide +kernel
theorem dX11_costAt_54 : decode cX11_costAt 54 = .ok (.isub, 1) := by decide +kernel
theorem dX11_costAt_55 : decode cX11_costAt 55 = .ok (.iload_n 2, 1) := by decide +kernel
theorem dX11_costAt_56 : decode cX11_costAt 56 = .ok (.invokevirtual 84, 3) := by decide +kernel
theorem dX11_costAt_59 : decode cX11_costAt 59 = .ok (.iaload, 1) := by decide +kernel
theorem dX11_costAt_60 : decode cX11_costAt 60 = .ok (.istore 6, 2) := by decide +kernel
theorem dX11_costAt_62 : decode cX11_costAt 62 = .ok (.iconst 0, 1) := by decide +kernel
theorem dX11_costAt_63 : decode cX11_costAt 63 = .ok (.istore 7, 2) := by decide +kernel
theorem dX11_costAt_65 : decode cX11_costAt 65 = .ok (.iload 7, 2) := by decide +kernel
theorem dX11_costAt_67 : decode cX11_costAt 67 = .ok (.bipush 8, 2) := by decide +kernel
theorem dX11_costAt_69 : decode cX11_costAt 69 = .ok (.if_icmp .ge 136, 3) := by decide +kernel
theorem dX11_costAt_72 : decode cX11_costAt 72 = .ok (.iload 7, 2) := by decide +kernel
theorem dX11_costAt_74 : decode cX11_costAt 74 = .ok (.invokestatic 125, 3) := by decide +kernel
theorem dX11_costAt_77 : decode cX11_costAt 77 = .ok (.istore 8, 2) := by decide +kernel
theorem dX11_costAt_79 : decode cX11_costAt 79 = .ok (.iload 7, 2) := by decide +kernel
theorem dX11_costAt_81 : decode cX11_costAt 81 = .ok (.invokestatic 128, 3) := by decide +kernel
theorem dX11_costAt_84 : decode cX11_costAt 84 = .ok (.istore 9, 2) := by decide +kernel
theorem dX11_costAt_86 : decode cX11_costAt 86 = .ok (.aload_n 0, 1) := by decide +kernel
theorem dX11_costAt_87 : decode cX11_costAt 87 = .ok (.iconst 0, 1) := by decide +kernel
theorem dX11_costAt_88 : decode cX11_costAt 88 = .ok (.iload_n 1, 1) := by decide +kernel
theorem dX11_costAt_89 : decode cX11_costAt 89 = .ok (.iload 8, 2) := by decide +kernel
theorem dX11_costAt_91 : decode cX11_costAt 91 = .ok (.iadd, 1) := by decide +kernel
theorem dX11_costAt_92 : decode cX11_costAt 92 = .ok (.iload_n 2, 1) := by decide +kernel
theorem dX11_costAt_93 : decode cX11_costAt 93 = .ok (.iload 9, 2) := by decide +kernel
theorem dX11_costAt_95 : decode cX11_costAt 95 = .ok (.iadd, 1) := by decide +kernel
theorem dX11_costAt_96 : decode cX11_costAt 96 = .ok (.invokevirtual 131, 3) := by decide +kernel
theorem dX11_costAt_99 : decode cX11_costAt 99 = .ok (.ifCond .eq 100, 3) := by decide +kernel
theorem dX11_costAt_102 : decode cX11_costAt 102 = .ok (.aload_n 0, 1) := by decide +kernel
theorem dX11_costAt_103 : decode cX11_costAt 103 = .ok (.iconst 1, 1) := by decide +kernel
theorem dX11_costAt_104 : decode cX11_costAt 104 = .ok (.iload_n 1, 1) := by decide +kernel
theorem dX11_costAt_105 : decode cX11_costAt 105 = .ok (.iload_n 3, 1) := by decide +kernel
theorem dX11_costAt_106 : decode cX11_costAt 106 = .ok (.isub, 1) := by decide +kernel
theorem dX11_costAt_107 : decode cX11_costAt 107 = .ok (.iload 8, 2) := by decide +kernel
theorem dX11_costAt_109 : decode cX11_costAt 109 = .ok (.iadd, 1) := by decide +kernel
theorem dX11_costAt_110 : decode cX11_costAt 110 = .ok (.iload_n 2, 1) := by decide +kernel
theorem dX11_costAt_111 : decode cX11_costAt 111 = .ok (.iload 9, 2) := by decide +kernel
theorem dX11_costAt_113 : decode cX11_costAt 113 = .ok (.iadd, 1) := by decide +kernel
theorem dX11_costAt_114 : decode cX11_costAt 114 = .ok (.invokevirtual 131, 3) := by decide +kernel
theorem dX11_costAt_117 : decode cX11_costAt 117 = .ok (.ifCond .eq 82, 3) := by decide +kernel
theorem dX11_costAt_120 : decode cX11_costAt 120 = .ok (.aload_n 0, 1) := by decide +kernel
theorem dX11_costAt_121 : decode cX11_costAt 121 = .ok (.getfield 16, 3) := by decide +kernel
theorem dX11_costAt_124 : decode cX11_costAt 124 = .ok (.aload_n 0, 1) := by decide +kernel
theorem dX11_costAt_125 : decode cX11_costAt 125 = .ok (.iconst 0, 1) := by decide +kernel
theorem dX11_costAt_126 : decode cX11_costAt 126 = .ok (.iload_n 1, 1) := by decide +kernel
theorem dX11_costAt_127 : decode cX11_costAt 127 = .ok (.iload 8, 2) := by decide +kernel
theorem dX11_costAt_129 : decode cX11_costAt 129 = .ok (.iadd, 1) := by decide +kernel
theorem dX11_costAt_130 : decode cX11_costAt 130 = .ok (.iload_n 2, 1) := by decide +kernel
theorem dX11_costAt_131 : decode cX11_costAt 131 = .ok (.iload 9, 2) := by decide +kernel
theorem dX11_costAt_133 : decode cX11_costAt 133 = .ok (.iadd, 1) := by decide +kernel
theorem dX11_costAt_134 : decode cX11_costAt 134 = .ok (.invokevirtual 84, 3) := by decide +kernel
theorem dX11_costAt_137 : decode cX11_costAt 137 = .ok (.iaload, 1) := by decide +kernel
theorem dX11_costAt_138 : decode cX11_costAt 138 = .ok (.iload 5, 2) := by decide +kernel
theorem dX11_costAt_140 : decode cX11_costAt 140 = .ok (.if_icmp .ge 7, 3) := by decide +kernel
theorem dX11_costAt_143 : decode cX11_costAt 143 = .ok (.iconst 1, 1) := by decide +kernel
theorem dX11_costAt_144 : decode cX11_costAt 144 = .ok (.goto 4, 3) := by decide +kernel
theorem dX11_costAt_147 : decode cX11_costAt 147 = .ok (.iconst 0, 1) := by decide +kernel
theorem dX11_costAt_148 : decode cX11_costAt 148 = .ok (.istore 10, 2) := by decide +kernel
theorem dX11_costAt_150 : decode cX11_costAt 150 = .ok (.aload_n 0, 1) := by decide +kernel
theorem dX11_costAt_151 : decode cX11_costAt 151 = .ok (.getfield 16, 3) := by decide +kernel
theorem dX11_costAt_154 : decode cX11_costAt 154 = .ok (.aload_n 0, 1) := by decide +kernel
theorem dX11_costAt_155 : decode cX11_costAt 155 = .ok (.iconst 1, 1) := by decide +kernel
theorem dX11_costAt_156 : decode cX11_costAt 156 = .ok (.iload_n 1, 1) := by decide +kernel
theorem dX11_costAt_157 : decode cX11_costAt 157 = .ok (.iload_n 3, 1) := by decide +kernel
theorem dX11_costAt_158 : decode cX11_costAt 158 = .ok (.isub, 1) := by decide +kernel
theorem dX11_costAt_159 : decode cX11_costAt 159 = .ok (.iload 8, 2) := by decide +kernel
theorem dX11_costAt_161 : decode cX11_costAt 161 = .ok (.iadd, 1) := by decide +kernel
theorem dX11_costAt_162 : decode cX11_costAt 162 = .ok (.iload_n 2, 1) := by decide +kernel
theorem dX11_costAt_163 : decode cX11_costAt 163 = .ok (.iload 9, 2) := by decide +kernel
theorem dX11_costAt_165 : decode cX11_costAt 165 = .ok (.iadd, 1) := by decide +kernel
theorem dX11_costAt_166 : decode cX11_costAt 166 = .ok (.invokevirtual 84, 3) := by decide +kernel
theorem dX11_costAt_169 : decode cX11_costAt 169 = .ok (.iaload, 1) := by decide +kernel
theorem dX11_costAt_170 : decode cX11_costAt 170 = .ok (.iload 6, 2) := by decide +kernel
theorem dX11_costAt_172 : decode cX11_costAt 172 = .ok (.if_icmp .ge 7, 3) := by decide +kernel
theorem dX11_costAt_175 : decode cX11_costAt 175 = .ok (.iconst 1, 1) := by decide +kernel
theorem dX11_costAt_176 : decode cX11_costAt 176 = .ok (.goto 4, 3) := by decide +kernel
theorem dX11_costAt_179 : decode cX11_costAt 179 = .ok (.iconst 0, 1) := by decide +kernel
theorem dX11_costAt_180 : decode cX11_costAt 180 = .ok (.istore 11, 2) := by decide +kernel
theorem dX11_costAt_182 : decode cX11_costAt 182 = .ok (.iload 4, 2) := by decide +kernel
theorem dX11_costAt_184 : decode cX11_costAt 184 = .ok (.iload 10, 2) := by decide +kernel
theorem dX11_costAt_186 : decode cX11_costAt 186 = .ok (.iload 11, 2) := by decide +kernel
theorem dX11_costAt_188 : decode cX11_costAt 188 = .ok (.if_icmp .eq 7, 3) := by decide +kernel
theorem dX11_costAt_191 : decode cX11_costAt 191 = .ok (.iconst 1, 1) := by decide +kernel
theorem dX11_costAt_192 : decode cX11_costAt 192 = .ok (.goto 4, 3) := by decide +kernel
theorem dX11_costAt_195 : decode cX11_costAt 195 = .ok (.iconst 0, 1) := by decide +kernel
theorem dX11_costAt_196 : decode cX11_costAt 196 = .ok (.iadd, 1) := by decide +kernel
theorem dX11_costAt_197 : decode cX11_costAt 197 = .ok (.istore 4, 2) := by decide +kernel
theorem dX11_costAt_199 : decode cX11_costAt 199 = .ok (.iinc 7 1, 3) := by decide +kernel
theorem dX11_costAt_202 : decode cX11_costAt 202 = .ok (.goto (-137), 3) := by decide +kernel
theorem dX11_costAt_205 : decode cX11_costAt 205 = .ok (.iload 4, 2) := by decide +kernel
theorem dX11_costAt_207 : decode cX11_costAt 207 = .ok (.ireturn, 1) := by decide +kernel
theorem dX11_reckon_0 : decode cX11_reckon 0 = .ok (.aload_n 0, 1) := by decide +kernel
theorem dX11_reckon_1 : decode cX11_reckon 1 = .ok (.getfield 76, 3) := by decide +kernel
theorem dX11_reckon_4 : decode cX11_reckon 4 = .ok (.ifCond .eq 4, 3) := by decide +kernel
theorem dX11_reckon_7 : decode cX11_reckon 7 = .ok (.return_, 1) := by decide +kernel
theorem dX11_reckon_8 : decode cX11_reckon 8 = .ok (.aload_n 0, 1) := by decide +kernel
theorem dX11_reckon_9 : decode cX11_reckon 9 = .ok (.iconst 1, 1) := by decide +kernel
theorem dX11_reckon_10 : decode cX11_reckon 10 = .ok (.putfield 76, 3) := by decide +kernel
theorem dX11_reckon_13 : decode cX11_reckon 13 = .ok (.iconst 0, 1) := by decide +kernel
theorem dX11_reckon_14 : decode cX11_reckon 14 = .ok (.istore_n 1, 1) := by decide +kernel
theorem dX11_reckon_15 : decode cX11_reckon 15 = .ok (.iload_n 1, 1) := by decide +kernel
theorem dX11_reckon_16 : decode cX11_reckon 16 = .ok (.aload_n 0, 1) := by decide +kernel
theorem dX11_reckon_17 : decode cX11_reckon 17 = .ok (.getfield 7, 3) := by decide +kernel
theorem dX11_reckon_20 : decode cX11_reckon 20 = .ok (.aload_n 0, 1) := by decide +kernel
theorem dX11_reckon_21 : decode cX11_reckon 21 = .ok (.getfield 13, 3) := by decide +kernel
theorem dX11_reckon_24 : decode cX11_reckon 24 = .ok (.imul, 1) := by decide +kernel
theorem dX11_reckon_25 : decode cX11_reckon 25 = .ok (.if_icmp .ge 67, 3) := by decide +kernel
theorem dX11_reckon_28 : decode cX11_reckon 28 = .ok (.iconst 0, 1) := by decide +kernel
theorem dX11_reckon_29 : decode cX11_reckon 29 = .ok (.istore_n 2, 1) := by decide +kernel
theorem dX11_reckon_30 : decode cX11_reckon 30 = .ok (.iload_n 2, 1) := by decide +kernel
theorem dX11_reckon_31 : decode cX11_reckon 31 = .ok (.aload_n 0, 1) := by decide +kernel
theorem dX11_reckon_32 : decode cX11_reckon 32 = .ok (.getfield 30, 3) := by decide +kernel
theorem dX11_reckon_35 : decode cX11_reckon 35 = .ok (.iconst 0, 1) := by decide +kernel
theorem dX11_reckon_36 : decode cX11_reckon 36 = .ok (.iaload, 1) := by decide +kernel
theorem dX11_reckon_37 : decode cX11_reckon 37 = .ok (.if_icmp .gt 49, 3) := by decide +kernel
theorem dX11_reckon_40 : decode cX11_reckon 40 = .ok (.aload_n 0, 1) := by decide +kernel
theorem dX11_reckon_41 : decode cX11_reckon 41 = .ok (.getfield 48, 3) := by decide +kernel
theorem dX11_reckon_44 : decode cX11_reckon 44 = .ok (.bipush 9, 2) := by decide +kernel
theorem dX11_reckon_46 : decode cX11_reckon 46 = .ok (.iload_n 1, 1) := by decide +kernel
theorem dX11_reckon_47 : decode cX11_reckon 47 = .ok (.imul, 1) := by decide +kernel
theorem dX11_reckon_48 : decode cX11_reckon 48 = .ok (.iload_n 2, 1) := by decide +kernel
theorem dX11_reckon_49 : decode cX11_reckon 49 = .ok (.iadd, 1) := by decide +kernel
theorem dX11_reckon_50 : decode cX11_reckon 50 = .ok (.aload_n 0, 1) := by decide +kernel
theorem dX11_reckon_51 : decode cX11_reckon 51 = .ok (.iload_n 1, 1) := by decide +kernel
theorem dX11_reckon_52 : decode cX11_reckon 52 = .ok (.aload_n 0, 1) := by decide +kernel
theorem dX11_reckon_53 : decode cX11_reckon 53 = .ok (.getfield 7, 3) := by decide +kernel
theorem dX11_reckon_56 : decode cX11_reckon 56 = .ok (.irem, 1) := by decide +kernel
theorem dX11_reckon_57 : decode cX11_reckon 57 = .ok (.iload_n 1, 1) := by decide +kernel
theorem dX11_reckon_58 : decode cX11_reckon 58 = .ok (.aload_n 0, 1) := by decide +kernel
theorem dX11_reckon_59 : decode cX11_reckon 59 = .ok (.getfield 7, 3) := by decide +kernel
theorem dX11_reckon_62 : decode cX11_reckon 62 = .ok (.idiv, 1) := by decide +kernel
theorem dX11_reckon_63 : decode cX11_reckon 63 = .ok (.iload_n 2, 1) := by decide +kernel
theorem dX11_reckon_64 : decode cX11_reckon 64 = .ok (.invokevirtual 134, 3) := by decide +kernel
theorem dX11_reckon_67 : decode cX11_reckon 67 = .ok (.iastore, 1) := by decide +kernel
theorem dX11_reckon_68 : decode cX11_reckon 68 = .ok (.aload_n 0, 1) := by decide +kernel
theorem dX11_reckon_69 : decode cX11_reckon 69 = .ok (.getfield 54, 3) := by decide +kernel
theorem dX11_reckon_72 : decode cX11_reckon 72 = .ok (.bipush 9, 2) := by decide +kernel
theorem dX11_reckon_74 : decode cX11_reckon 74 = .ok (.iload_n 1, 1) := by decide +kernel
theorem dX11_reckon_75 : decode cX11_reckon 75 = .ok (.imul, 1) := by decide +kernel
theorem dX11_reckon_76 : decode cX11_reckon 76 = .ok (.iload_n 2, 1) := by decide +kernel
theorem dX11_reckon_77 : decode cX11_reckon 77 = .ok (.iadd, 1) := by decide +kernel
theorem dX11_reckon_78 : decode cX11_reckon 78 = .ok (.iconst 0, 1) := by decide +kernel
theorem dX11_reckon_79 : decode cX11_reckon 79 = .ok (.iastore, 1) := by decide +kernel
theorem dX11_reckon_80 : decode cX11_reckon 80 = .ok (.iinc 2 1, 3) := by decide +kernel
theorem dX11_reckon_83 : decode cX11_reckon 83 = .ok (.goto (-53), 3) := by decide +kernel
theorem dX11_reckon_86 : decode cX11_reckon 86 = .ok (.iinc 1 1, 3) := by decide +kernel
theorem dX11_reckon_89 : decode cX11_reckon 89 = .ok (.goto (-74), 3) := by decide +kernel
theorem dX11_reckon_92 : decode cX11_reckon 92 = .ok (.iconst 0, 1) := by decide +kernel
theorem dX11_reckon_93 : decode cX11_reckon 93 = .ok (.istore_n 1, 1) := by decide +kernel
theorem dX11_reckon_94 : decode cX11_reckon 94 = .ok (.iload_n 1, 1) := by decide +kernel
theorem dX11_reckon_95 : decode cX11_reckon 95 = .ok (.bipush 8, 2) := by decide +kernel
theorem dX11_reckon_97 : decode cX11_reckon 97 = .ok (.if_icmp .ge 14, 3) := by decide +kernel
theorem dX11_reckon_100 : decode cX11_reckon 100 = .ok (.aload_n 0, 1) := by decide +kernel
theorem dX11_reckon_101 : decode cX11_reckon 101 = .ok (.iload_n 1, 1) := by decide +kernel
theorem dX11_reckon_102 : decode cX11_reckon 102 = .ok (.invokevirtual 137, 3) := by decide +kernel
theorem dX11_reckon_105 : decode cX11_reckon 105 = .ok (.iinc 1 1, 3) := by decide +kernel
theorem dX11_reckon_108 : decode cX11_reckon 108 = .ok (.goto (-14), 3) := by decide +kernel
theorem dX11_reckon_111 : decode cX11_reckon 111 = .ok (.iconst 0, 1) := by decide +kernel
theorem dX11_reckon_112 : decode cX11_reckon 112 = .ok (.istore_n 1, 1) := by decide +kernel
theorem dX11_reckon_113 : decode cX11_reckon 113 = .ok (.iload_n 1, 1) := by decide +kernel
theorem dX11_reckon_114 : decode cX11_reckon 114 = .ok (.aload_n 0, 1) := by decide +kernel
theorem dX11_reckon_115 : decode cX11_reckon 115 = .ok (.getfield 7, 3) := by decide +kernel
theorem dX11_reckon_118 : decode cX11_reckon 118 = .ok (.aload_n 0, 1) := by decide +kernel
theorem dX11_reckon_119 : decode cX11_reckon 119 = .ok (.getfield 13, 3) := by decide +kernel
theorem dX11_reckon_122 : decode cX11_reckon 122 = .ok (.imul, 1) := by decide +kernel
theorem dX11_reckon_123 : decode cX11_reckon 123 = .ok (.if_icmp .ge 25, 3) := by decide +kernel
theorem dX11_reckon_126 : decode cX11_reckon 126 = .ok (.aload_n 0, 1) := by decide +kernel
theorem dX11_reckon_127 : decode cX11_reckon 127 = .ok (.iload_n 1, 1) := by decide +kernel
theorem dX11_reckon_128 : decode cX11_reckon 128 = .ok (.aload_n 0, 1) := by decide +kernel
theorem dX11_reckon_129 : decode cX11_reckon 129 = .ok (.getfield 7, 3) := by decide +kernel
theorem dX11_reckon_132 : decode cX11_reckon 132 = .ok (.irem, 1) := by decide +kernel
theorem dX11_reckon_133 : decode cX11_reckon 133 = .ok (.iload_n 1, 1) := by decide +kernel
theorem dX11_reckon_134 : decode cX11_reckon 134 = .ok (.aload_n 0, 1) := by decide +kernel
theorem dX11_reckon_135 : decode cX11_reckon 135 = .ok (.getfield 7, 3) := by decide +kernel
theorem dX11_reckon_138 : decode cX11_reckon 138 = .ok (.idiv, 1) := by decide +kernel
theorem dX11_reckon_139 : decode cX11_reckon 139 = .ok (.invokevirtual 141, 3) := by decide +kernel
theorem dX11_reckon_142 : decode cX11_reckon 142 = .ok (.iinc 1 1, 3) := by decide +kernel
theorem dX11_reckon_145 : decode cX11_reckon 145 = .ok (.goto (-32), 3) := by decide +kernel
theorem dX11_reckon_148 : decode cX11_reckon 148 = .ok (.aload_n 0, 1) := by decide +kernel
theorem dX11_reckon_149 : decode cX11_reckon 149 = .ok (.invokevirtual 144, 3) := by decide +kernel
theorem dX11_reckon_152 : decode cX11_reckon 152 = .ok (.return_, 1) := by decide +kernel
theorem dX11_voteAt_0 : decode cX11_voteAt 0 = .ok (.aload_n 0, 1) := by decide +kernel
theorem dX11_voteAt_1 : decode cX11_voteAt 1 = .ok (.iconst 0, 1) := by decide +kernel
theorem dX11_voteAt_2 : decode cX11_voteAt 2 = .ok (.iload_n 1, 1) := by decide +kernel
theorem dX11_voteAt_3 : decode cX11_voteAt 3 = .ok (.iload_n 2, 1) := by decide +kernel
theorem dX11_voteAt_4 : decode cX11_voteAt 4 = .ok (.invokevirtual 98, 3) := by decide +kernel
theorem dX11_voteAt_7 : decode cX11_voteAt 7 = .ok (.ifCond .eq 5, 3) := by decide +kernel
theorem dX11_voteAt_10 : decode cX11_voteAt 10 = .ok (.iconst 0, 1) := by decide +kernel
theorem dX11_voteAt_11 : decode cX11_voteAt 11 = .ok (.ireturn, 1) := by decide +kernel
theorem dX11_voteAt_12 : decode cX11_voteAt 12 = .ok (.iload_n 1, 1) := by decide +kernel
theorem dX11_voteAt_13 : decode cX11_voteAt 13 = .ok (.iload_n 3, 1) := by decide +kernel
theorem dX11_voteAt_14 : decode cX11_voteAt 14 = .ok (.if_icmp .ge 6, 3) := by decide +kernel
theorem dX11_voteAt_17 : decode cX11_voteAt 17 = .ok (.bipush 8, 2) := by decide +kernel
theorem dX11_voteAt_19 : decode cX11_voteAt 19 = .ok (.ireturn, 1) := by decide +kernel
theorem dX11_voteAt_20 : decode cX11_voteAt 20 = .ok (.aload_n 0, 1) := by decide +kernel
theorem dX11_voteAt_21 : decode cX11_voteAt 21 = .ok (.iconst 1, 1) := by decide +kernel
theorem dX11_voteAt_22 : decode cX11_voteAt 22 = .ok (.iload_n 1, 1) := by decide +kernel
theorem dX11_voteAt_23 : decode cX11_voteAt 23 = .ok (.iload_n 3, 1) := by decide +kernel
theorem dX11_voteAt_24 : decode cX11_voteAt 24 = .ok (.isub, 1) := by decide +kernel
theorem dX11_voteAt_25 : decode cX11_voteAt 25 = .ok (.iload_n 2, 1) := by decide +kernel
theorem dX11_voteAt_26 : decode cX11_voteAt 26 = .ok (.invokevirtual 98, 3) := by decide +kernel
theorem dX11_voteAt_29 : decode cX11_voteAt 29 = .ok (.ifCond .eq 7, 3) := by decide +kernel
theorem dX11_voteAt_32 : decode cX11_voteAt 32 = .ok (.iconst 0, 1) := by decide +kernel
theorem dX11_voteAt_33 : decode cX11_voteAt 33 = .ok (.goto 21, 3) := by decide +kernel
theorem dX11_voteAt_36 : decode cX11_voteAt 36 = .ok (.aload_n 0, 1) := by decide +kernel
theorem dX11_voteAt_37 : decode cX11_voteAt 37 = .ok (.getfield 48, 3) := by decide +kernel
theorem dX11_voteAt_40 : decode cX11_voteAt 40 = .ok (.bipush 9, 2) := by decide +kernel
theorem dX11_voteAt_42 : decode cX11_voteAt 42 = .ok (.aload_n 0, 1) := by decide +kernel
theorem dX11_voteAt_43 : decode cX11_voteAt 43 = .ok (.getfield 7, 3) := by decide +kernel
theorem dX11_voteAt_46 : decode cX11_voteAt 46 = .ok (.iload_n 2, 1) := by decide +kernel
theorem dX11_voteAt_47 : decode cX11_voteAt 47 = .ok (.imul, 1) := by decide +kernel
theorem dX11_voteAt_48 : decode cX11_voteAt 48 = .ok (.iload_n 1, 1) := by decide +kernel
theorem dX11_voteAt_49 : decode cX11_voteAt 49 = .ok (.iadd, 1) := by decide +kernel
theorem dX11_voteAt_50 : decode cX11_voteAt 50 = .ok (.imul, 1) := by decide +kernel
theorem dX11_voteAt_51 : decode cX11_voteAt 51 = .ok (.iload_n 3, 1) := by decide +kernel
theorem dX11_voteAt_52 : decode cX11_voteAt 52 = .ok (.iadd, 1) := by decide +kernel
theorem dX11_voteAt_53 : decode cX11_voteAt 53 = .ok (.iaload, 1) := by decide +kernel
theorem dX11_voteAt_54 : decode cX11_voteAt 54 = .ok (.ireturn, 1) := by decide +kernel
theorem dX11_layRuns_0 : decode cX11_layRuns 0 = .ok (.aload_n 0, 1) := by decide +kernel
theorem dX11_layRuns_1 : decode cX11_layRuns 1 = .ok (.getfield 7, 3) := by decide +kernel
theorem dX11_layRuns_4 : decode cX11_layRuns 4 = .ok (.aload_n 0, 1) := by decide +kernel
theorem dX11_layRuns_5 : decode cX11_layRuns 5 = .ok (.getfield 13, 3) := by decide +kernel
theorem dX11_layRuns_8 : decode cX11_layRuns 8 = .ok (.imul, 1) := by decide +kernel
theorem dX11_layRuns_9 : decode cX11_layRuns 9 = .ok (.istore_n 2, 1) := by decide +kernel
theorem dX11_layRuns_10 : decode cX11_layRuns 10 = .ok (.iconst 0, 1) := by decide +kernel
theorem dX11_layRuns_11 : decode cX11_layRuns 11 = .ok (.istore_n 3, 1) := by decide +kernel
theorem dX11_layRuns_12 : decode cX11_layRuns 12 = .ok (.iload_n 3, 1) := by decide +kernel
theorem dX11_layRuns_13 : decode cX11_layRuns 13 = .ok (.iload_n 2, 1) := by decide +kernel
theorem dX11_layRuns_14 : decode cX11_layRuns 14 = .ok (.if_icmp .ge 260, 3) := by decide +kernel
theorem dX11_layRuns_17 : decode cX11_layRuns 17 = .ok (.iload_n 1, 1) := by decide +kernel
theorem dX11_layRuns_18 : decode cX11_layRuns 18 = .ok (.iconst 4, 1) := by decide +kernel
theorem dX11_layRuns_19 : decode cX11_layRuns 19 = .ok (.if_icmp .ge 7, 3) := by decide +kernel
theorem dX11_layRuns_22 : decode cX11_layRuns 22 = .ok (.iload_n 3, 1) := by decide +kernel
theorem dX11_layRuns_23 : decode cX11_layRuns 23 = .ok (.goto 8, 3) := by decide +kernel
theorem dX11_layRuns_26 : decode cX11_layRuns 26 = .ok (.iload_n 2, 1) := by decide +kernel
theorem dX11_layRuns_27 : decode cX11_layRuns 27 = .ok (.iconst 1, 1) := by decide +kernel
theorem dX11_layRuns_28 : decode cX11_layRuns 28 = .ok (.isub, 1) := by decide +kernel
theorem dX11_layRuns_29 : decode cX11_layRuns 29 = .ok (.iload_n 3, 1) := by decide +kernel
theorem dX11_layRuns_30 : decode cX11_layRuns 30 = .ok (.isub, 1) := by decide +kernel
theorem dX11_layRuns_31 : decode cX11_layRuns 31 = .ok (.istore 4, 2) := by decide +kernel
theorem dX11_layRuns_33 : decode cX11_layRuns 33 = .ok (.iload 4, 2) := by decide +kernel
theorem dX11_layRuns_35 : decode cX11_layRuns 35 = .ok (.aload_n 0, 1) := by decide +kernel
theorem dX11_layRuns_36 : decode cX11_layRuns 36 = .ok (.getfield 7, 3) := by decide +kernel
theorem dX11_layRuns_39 : decode cX11_layRuns 39 = .ok (.irem, 1) := by decide +kernel
theorem dX11_layRuns_40 : decode cX11_layRuns 40 = .ok (.istore 5, 2) := by decide +kernel
theorem dX11_layRuns_42 : decode cX11_layRuns 42 = .ok (.iload 4, 2) := by decide +kernel
theorem dX11_layRuns_44 : decode cX11_layRuns 44 = .ok (.aload_n 0, 1) := by decide +kernel
theorem dX11_layRuns_45 : decode cX11_layRuns 45 = .ok (.getfield 7, 3) := by decide +kernel
theorem dX11_layRuns_48 : decode cX11_layRuns 48 = .ok (.idiv, 1) := by decide +kernel
theorem dX11_layRuns_49 : decode cX11_layRuns 49 = .ok (.istore 6, 2) := by decide +kernel
theorem dX11_layRuns_51 : decode cX11_layRuns 51 = .ok (.iload 5, 2) := by decide +kernel
theorem dX11_layRuns_53 : decode cX11_layRuns 53 = .ok (.iload_n 1, 1) := by decide +kernel
theorem dX11_layRuns_54 : decode cX11_layRuns 54 = .ok (.invokestatic 125, 3) := by decide +kernel
theorem dX11_layRuns_57 : decode cX11_layRuns 57 = .ok (.iadd, 1) := by decide +kernel
theorem dX11_layRuns_58 : decode cX11_layRuns 58 = .ok (.istore 7, 2) := by decide +kernel
theorem dX11_layRuns_60 : decode cX11_layRuns 60 = .ok (.iload 6, 2) := by decide +kernel
theorem dX11_layRuns_62 : decode cX11_layRuns 62 = .ok (.iload_n 1, 1) := by decide +kernel
theorem dX11_layRuns_63 : decode cX11_layRuns 63 = .ok (.invokestatic 128, 3) := by decide +kernel
theorem dX11_layRuns_66 : decode cX11_layRuns 66 = .ok (.iadd, 1) := by decide +kernel
theorem dX11_layRuns_67 : decode cX11_layRuns 67 = .ok (.istore 8, 2) := by decide +kernel
theorem dX11_layRuns_69 : decode cX11_layRuns 69 = .ok (.aload_n 0, 1) := by decide +kernel
theorem dX11_layRuns_70 : decode cX11_layRuns 70 = .ok (.iload 7, 2) := by decide +kernel
theorem dX11_layRuns_72 : decode cX11_layRuns 72 = .ok (.iload 8, 2) := by decide +kernel
theorem dX11_layRuns_74 : decode cX11_layRuns 74 = .ok (.invokevirtual 95, 3) := by decide +kernel
theorem dX11_layRuns_77 : decode cX11_layRuns 77 = .ok (.istore 9, 2) := by decide +kernel
theorem dX11_layRuns_79 : decode cX11_layRuns 79 = .ok (.iload 9, 2) := by decide +kernel
theorem dX11_layRuns_81 : decode cX11_layRuns 81 = .ok (.ifCond .eq 25, 3) := by decide +kernel
theorem dX11_layRuns_84 : decode cX11_layRuns 84 = .ok (.sipush 1800, 3) := by decide +kernel
theorem dX11_layRuns_87 : decode cX11_layRuns 87 = .ok (.iload_n 1, 1) := by decide +kernel
theorem dX11_layRuns_88 : decode cX11_layRuns 88 = .ok (.imul, 1) := by decide +kernel
theorem dX11_layRuns_89 : decode cX11_layRuns 89 = .ok (.bipush 9, 2) := by decide +kernel
theorem dX11_layRuns_91 : decode cX11_layRuns 91 = .ok (.aload_n 0, 1) := by decide +kernel
theorem dX11_layRuns_92 : decode cX11_layRuns 92 = .ok (.getfield 7, 3) := by decide +kernel
theorem dX11_layRuns_95 : decode cX11_layRuns 95 = .ok (.iload 8, 2) := by decide +kernel
theorem dX11_layRuns_97 : decode cX11_layRuns 97 = .ok (.imul, 1) := by decide +kernel
theorem dX11_layRuns_98 : decode cX11_layRuns 98 = .ok (.iload 7, 2) := by decide +kernel
theorem dX11_layRuns_100 : decode cX11_layRuns 100 = .ok (.iadd, 1) := by decide +kernel
theorem dX11_layRuns_101 : decode cX11_layRuns 101 = .ok (.imul, 1) := by decide +kernel
theorem dX11_layRuns_102 : decode cX11_layRuns 102 = .ok (.iadd, 1) := by decide +kernel
theorem dX11_layRuns_103 : decode cX11_layRuns 103 = .ok (.goto 4, 3) := by decide +kernel
theorem dX11_layRuns_106 : decode cX11_layRuns 106 = .ok (.iconst 0, 1) := by decide +kernel
theorem dX11_layRuns_107 : decode cX11_layRuns 107 = .ok (.istore 10, 2) := by decide +kernel
theorem dX11_layRuns_109 : decode cX11_layRuns 109 = .ok (.iconst 0, 1) := by decide +kernel
theorem dX11_layRuns_110 : decode cX11_layRuns 110 = .ok (.istore 11, 2) := by decide +kernel
theorem dX11_layRuns_112 : decode cX11_layRuns 112 = .ok (.iconst 0, 1) := by decide +kernel
theorem dX11_layRuns_113 : decode cX11_layRuns 113 = .ok (.istore 12, 2) := by decide +kernel
theorem dX11_layRuns_115 : decode cX11_layRuns 115 = .ok (.iload 12, 2) := by decide +kernel
theorem dX11_layRuns_117 : decode cX11_layRuns 117 = .ok (.aload_n 0, 1) := by decide +kernel
theorem dX11_layRuns_118 : decode cX11_layRuns 118 = .ok (.getfield 30, 3) := by decide +kernel
theorem dX11_layRuns_121 : decode cX11_layRuns 121 = .ok (.iconst 0, 1) := by decide +kernel
theorem dX11_layRuns_122 : decode cX11_layRuns 122 = .ok (.iaload, 1) := by decide +kernel
theorem dX11_layRuns_123 : decode cX11_layRuns 123 = .ok (.if_icmp .gt 51, 3) := by decide +kernel
theorem dX11_layRuns_126 : decode cX11_layRuns 126 = .ok (.iload 9, 2) := by decide +kernel
theorem dX11_layRuns_128 : decode cX11_layRuns 128 = .ok (.ifCond .eq 46, 3) := by decide +kernel
theorem dX11_layRuns_131 : decode cX11_layRuns 131 = .ok (.iload 12, 2) := by decide +kernel
theorem dX11_layRuns_133 : decode cX11_layRuns 133 = .ok (.ifCond .eq 18, 3) := by decide +kernel
theorem dX11_layRuns_136 : decode cX11_layRuns 136 = .ok (.aload_n 0, 1) := by decide +kernel
theorem dX11_layRuns_137 : decode cX11_layRuns 137 = .ok (.getfield 51, 3) := by decide +kernel
theorem dX11_layRuns_140 : decode cX11_layRuns 140 = .ok (.iload 10, 2) := by decide +kernel
theorem dX11_layRuns_142 : decode cX11_layRuns 142 = .ok (.iload 12, 2) := by decide +kernel
theorem dX11_layRuns_144 : decode cX11_layRuns 144 = .ok (.iadd, 1) := by decide +kernel
theorem dX11_layRuns_145 : decode cX11_layRuns 145 = .ok (.iaload, 1) := by decide +kernel
theorem dX11_layRuns_146 : decode cX11_layRuns 146 = .ok (.iload 11, 2) := by decide +kernel
theorem dX11_layRuns_148 : decode cX11_layRuns 148 = .ok (.if_icmp .ge 16, 3) := by decide +kernel
theorem dX11_layRuns_151 : decode cX11_layRuns 151 = .ok (.aload_n 0, 1) := by decide +kernel
theorem dX11_layRuns_152 : decode cX11_layRuns 152 = .ok (.getfield 51, 3) := by decide +kernel
theorem dX11_layRuns_155 : decode cX11_layRuns 155 = .ok (.iload 10, 2) := by decide +kernel
theorem dX11_layRuns_157 : decode cX11_layRuns 157 = .ok (.iload 12, 2) := by decide +kernel
theorem dX11_layRuns_159 : decode cX11_layRuns 159 = .ok (.iadd, 1) := by decide +kernel
theorem dX11_layRuns_160 : decode cX11_layRuns 160 = .ok (.iaload, 1) := by decide +kernel
theorem dX11_layRuns_161 : decode cX11_layRuns 161 = .ok (.goto 5, 3) := by decide +kernel
theorem dX11_layRuns_164 : decode cX11_layRuns 164 = .ok (.iload 11, 2) := by decide +kernel
theorem dX11_layRuns_166 : decode cX11_layRuns 166 = .ok (.istore 11, 2) := by decide +kernel
theorem dX11_layRuns_168 : decode cX11_layRuns 168 = .ok (.iinc 12 1, 3) := by decide +kernel
theorem dX11_layRuns_171 : decode cX11_layRuns 171 = .ok (.goto (-56), 3) := by decide +kernel
theorem dX11_layRuns_174 : decode cX11_layRuns 174 = .ok (.iconst 0, 1) := by decide +kernel
theorem dX11_layRuns_175 : decode cX11_layRuns 175 = .ok (.istore 12, 2) := by decide +kernel
theorem dX11_layRuns_177 : decode cX11_layRuns 177 = .ok (.iload 12, 2) := by decide +kernel
theorem dX11_layRuns_179 : decode cX11_layRuns 179 = .ok (.aload_n 0, 1) := by decide +kernel
theorem dX11_layRuns_180 : decode cX11_layRuns 180 = .ok (.getfield 30, 3) := by decide +kernel
theorem dX11_layRuns_183 : decode cX11_layRuns 183 = .ok (.iconst 0, 1) := by decide +kernel
theorem dX11_layRuns_184 : decode cX11_layRuns 184 = .ok (.iaload, 1) := by decide +kernel
theorem dX11_layRuns_185 : decode cX11_layRuns 185 = .ok (.if_icmp .gt 83, 3) := by decide +kernel
theorem dX11_layRuns_188 : decode cX11_layRuns 188 = .ok (.aload_n 0, 1) := by decide +kernel
theorem dX11_layRuns_189 : decode cX11_layRuns 189 = .ok (.iload 5, 2) := by decide +kernel
theorem dX11_layRuns_191 : decode cX11_layRuns 191 = .ok (.iload 6, 2) := by decide +kernel
theorem dX11_layRuns_193 : decode cX11_layRuns 193 = .ok (.iload 12, 2) := by decide +kernel
theorem dX11_layRuns_195 : decode cX11_layRuns 195 = .ok (.invokevirtual 147, 3) := by decide +kernel
theorem dX11_layRuns_198 : decode cX11_layRuns 198 = .ok (.iload 9, 2) := by decide +kernel
theorem dX11_layRuns_200 : decode cX11_layRuns 200 = .ok (.ifCond .eq 19, 3) := by decide +kernel
theorem dX11_layRuns_203 : decode cX11_layRuns 203 = .ok (.aload_n 0, 1) := by decide +kernel
theorem dX11_layRuns_204 : decode cX11_layRuns 204 = .ok (.iload 10, 2) := by decide +kernel
theorem dX11_layRuns_206 : decode cX11_layRuns 206 = .ok (.iload 12, 2) := by decide +kernel
theorem dX11_layRuns_208 : decode cX11_layRuns 208 = .ok (.iload 11, 2) := by decide +kernel
theorem dX11_layRuns_210 : decode cX11_layRuns 210 = .ok (.invokevirtual 150, 3) := by decide +kernel
theorem dX11_layRuns_213 : decode cX11_layRuns 213 = .ok (.iload 11, 2) := by decide +kernel
theorem dX11_layRuns_215 : decode cX11_layRuns 215 = .ok (.isub, 1) := by decide +kernel
theorem dX11_layRuns_216 : decode cX11_layRuns 216 = .ok (.goto 4, 3) := by decide +kernel
theorem dX11_layRuns_219 : decode cX11_layRuns 219 = .ok (.iconst 0, 1) := by decide +kernel
theorem dX11_layRuns_220 : decode cX11_layRuns 220 = .ok (.iadd, 1) := by decide +kernel
theorem dX11_layRuns_221 : decode cX11_layRuns 221 = .ok (.istore 13, 2) := by decide +kernel
theorem dX11_layRuns_223 : decode cX11_layRuns 223 = .ok (.aload_n 0, 1) := by decide +kernel
theorem dX11_layRuns_224 : decode cX11_layRuns 224 = .ok (.getfield 51, 3) := by decide +kernel
theorem dX11_layRuns_227 : decode cX11_layRuns 227 = .ok (.sipush 1800, 3) := by decide +kernel
theorem dX11_layRuns_230 : decode cX11_layRuns 230 = .ok (.iload_n 1, 1) := by decide +kernel
theorem dX11_layRuns_231 : decode cX11_layRuns 231 = .ok (.imul, 1) := by decide +kernel
theorem dX11_layRuns_232 : decode cX11_layRuns 232 = .ok (.bipush 9, 2) := by decide +kernel
theorem dX11_layRuns_234 : decode cX11_layRuns 234 = .ok (.iload 4, 2) := by decide +kernel
theorem dX11_layRuns_236 : decode cX11_layRuns 236 = .ok (.imul, 1) := by decide +kernel
theorem dX11_layRuns_237 : decode cX11_layRuns 237 = .ok (.iadd, 1) := by decide +kernel
theorem dX11_layRuns_238 : decode cX11_layRuns 238 = .ok (.iload 12, 2) := by decide +kernel
theorem dX11_layRuns_240 : decode cX11_layRuns 240 = .ok (.iadd, 1) := by decide +kernel
theorem dX11_layRuns_241 : decode cX11_layRuns 241 = .ok (.iload 13, 2) := by decide +kernel
theorem dX11_layRuns_243 : decode cX11_layRuns 243 = .ok (.iastore, 1) := by decide +kernel
theorem dX11_layRuns_244 : decode cX11_layRuns 244 = .ok (.aload_n 0, 1) := by decide +kernel
theorem dX11_layRuns_245 : decode cX11_layRuns 245 = .ok (.getfield 54, 3) := by decide +kernel
theorem dX11_layRuns_248 : decode cX11_layRuns 248 = .ok (.bipush 9, 2) := by decide +kernel
theorem dX11_layRuns_250 : decode cX11_layRuns 250 = .ok (.iload 4, 2) := by decide +kernel
theorem dX11_layRuns_252 : decode cX11_layRuns 252 = .ok (.imul, 1) := by decide +kernel
theorem dX11_layRuns_253 : decode cX11_layRuns 253 = .ok (.iload 12, 2) := by decide +kernel
theorem dX11_layRuns_255 : decode cX11_layRuns 255 = .ok (.iadd, 1) := by decide +kernel
theorem dX11_layRuns_256 : decode cX11_layRuns 256 = .ok (.dup2, 1) := by decide +kernel
theorem dX11_layRuns_257 : decode cX11_layRuns 257 = .ok (.iaload, 1) := by decide +kernel
theorem dX11_layRuns_258 : decode cX11_layRuns 258 = .ok (.iload 13, 2) := by decide +kernel
theorem dX11_layRuns_260 : decode cX11_layRuns 260 = .ok (.iadd, 1) := by decide +kernel
theorem dX11_layRuns_261 : decode cX11_layRuns 261 = .ok (.iastore, 1) := by decide +kernel
theorem dX11_layRuns_262 : decode cX11_layRuns 262 = .ok (.iinc 12 1, 3) := by decide +kernel
theorem dX11_layRuns_265 : decode cX11_layRuns 265 = .ok (.goto (-88), 3) := by decide +kernel
theorem dX11_layRuns_268 : decode cX11_layRuns 268 = .ok (.iinc 3 1, 3) := by decide +kernel
theorem dX11_layRuns_271 : decode cX11_layRuns 271 = .ok (.goto (-259), 3) := by decide +kernel
theorem dX11_layRuns_274 : decode cX11_layRuns 274 = .ok (.return_, 1) := by decide +kernel
theorem dX11_goesOn_0 : decode cX11_goesOn 0 = .ok (.aload_n 0, 1) := by decide +kernel
theorem dX11_goesOn_1 : decode cX11_goesOn 1 = .ok (.getfield 51, 3) := by decide +kernel
theorem dX11_goesOn_4 : decode cX11_goesOn 4 = .ok (.iload_n 1, 1) := by decide +kernel
theorem dX11_goesOn_5 : decode cX11_goesOn 5 = .ok (.iload_n 2, 1) := by decide +kernel
theorem dX11_goesOn_6 : decode cX11_goesOn 6 = .ok (.iadd, 1) := by decide +kernel
theorem dX11_goesOn_7 : decode cX11_goesOn 7 = .ok (.iaload, 1) := by decide +kernel
theorem dX11_goesOn_8 : decode cX11_goesOn 8 = .ok (.istore 4, 2) := by decide +kernel
theorem dX11_goesOn_10 : decode cX11_goesOn 10 = .ok (.iload 4, 2) := by decide +kernel
theorem dX11_goesOn_12 : decode cX11_goesOn 12 = .ok (.istore 5, 2) := by decide +kernel
theorem dX11_goesOn_14 : decode cX11_goesOn 14 = .ok (.iload_n 2, 1) := by decide +kernel
theorem dX11_goesOn_15 : decode cX11_goesOn 15 = .ok (.ifCond .le 45, 3) := by decide +kernel
theorem dX11_goesOn_18 : decode cX11_goesOn 18 = .ok (.aload_n 0, 1) := by decide +kernel
theorem dX11_goesOn_19 : decode cX11_goesOn 19 = .ok (.getfield 51, 3) := by decide +kernel
theorem dX11_goesOn_22 : decode cX11_goesOn 22 = .ok (.iload_n 1, 1) := by decide +kernel
theorem dX11_goesOn_23 : decode cX11_goesOn 23 = .ok (.iload_n 2, 1) := by decide +kernel
theorem dX11_goesOn_24 : decode cX11_goesOn 24 = .ok (.iadd, 1) := by decide +kernel
theorem dX11_goesOn_25 : decode cX11_goesOn 25 = .ok (.iconst 1, 1) := by decide +kernel
theorem dX11_goesOn_26 : decode cX11_goesOn 26 = .ok (.isub, 1) := by decide +kernel
theorem dX11_goesOn_27 : decode cX11_goesOn 27 = .ok (.iaload, 1) := by decide +kernel
theorem dX11_goesOn_28 : decode cX11_goesOn 28 = .ok (.aload_n 0, 1) := by decide +kernel
theorem dX11_goesOn_29 : decode cX11_goesOn 29 = .ok (.getfield 30, 3) := by decide +kernel
theorem dX11_goesOn_32 : decode cX11_goesOn 32 = .ok (.iconst 2, 1) := by decide +kernel
theorem dX11_goesOn_33 : decode cX11_goesOn 33 = .ok (.iaload, 1) := by decide +kernel
theorem dX11_goesOn_34 : decode cX11_goesOn 34 = .ok (.iadd, 1) := by decide +kernel
theorem dX11_goesOn_35 : decode cX11_goesOn 35 = .ok (.iload 5, 2) := by decide +kernel
theorem dX11_goesOn_37 : decode cX11_goesOn 37 = .ok (.if_icmp .ge 23, 3) := by decide +kernel
theorem dX11_goesOn_40 : decode cX11_goesOn 40 = .ok (.aload_n 0, 1) := by decide +kernel
theorem dX11_goesOn_41 : decode cX11_goesOn 41 = .ok (.getfield 51, 3) := by decide +kernel
theorem dX11_goesOn_44 : decode cX11_goesOn 44 = .ok (.iload_n 1, 1) := by decide +kernel
theorem dX11_goesOn_45 : decode cX11_goesOn 45 = .ok (.iload_n 2, 1) := by decide +kernel
theorem dX11_goesOn_46 : decode cX11_goesOn 46 = .ok (.iadd, 1) := by decide +kernel
theorem dX11_goesOn_47 : decode cX11_goesOn 47 = .ok (.iconst 1, 1) := by decide +kernel
theorem dX11_goesOn_48 : decode cX11_goesOn 48 = .ok (.isub, 1) := by decide +kernel
theorem dX11_goesOn_49 : decode cX11_goesOn 49 = .ok (.iaload, 1) := by decide +kernel
theorem dX11_goesOn_50 : decode cX11_goesOn 50 = .ok (.aload_n 0, 1) := by decide +kernel
theorem dX11_goesOn_51 : decode cX11_goesOn 51 = .ok (.getfield 30, 3) := by decide +kernel
theorem dX11_goesOn_54 : decode cX11_goesOn 54 = .ok (.iconst 2, 1) := by decide +kernel
theorem dX11_goesOn_55 : decode cX11_goesOn 55 = .ok (.iaload, 1) := by decide +kernel
theorem dX11_goesOn_56 : decode cX11_goesOn 56 = .ok (.iadd, 1) := by decide +kernel
theorem dX11_goesOn_57 : decode cX11_goesOn 57 = .ok (.goto 5, 3) := by decide +kernel
theorem dX11_goesOn_60 : decode cX11_goesOn 60 = .ok (.iload 5, 2) := by decide +kernel
theorem dX11_goesOn_62 : decode cX11_goesOn 62 = .ok (.istore 5, 2) := by decide +kernel
theorem dX11_goesOn_64 : decode cX11_goesOn 64 = .ok (.iload_n 2, 1) := by decide +kernel
theorem dX11_goesOn_65 : decode cX11_goesOn 65 = .ok (.aload_n 0, 1) := by decide +kernel
theorem dX11_goesOn_66 : decode cX11_goesOn 66 = .ok (.getfield 30, 3) := by decide +kernel
theorem dX11_goesOn_69 : decode cX11_goesOn 69 = .ok (.iconst 0, 1) := by decide +kernel
theorem dX11_goesOn_70 : decode cX11_goesOn 70 = .ok (.iaload, 1) := by decide +kernel
theorem dX11_goesOn_71 : decode cX11_goesOn 71 = .ok (.if_icmp .ge 45, 3) := by decide +kernel
theorem dX11_goesOn_74 : decode cX11_goesOn 74 = .ok (.aload_n 0, 1) := by decide +kernel
theorem dX11_goesOn_75 : decode cX11_goesOn 75 = .ok (.getfield 51, 3) := by decide +kernel
theorem dX11_goesOn_78 : decode cX11_goesOn 78 = .ok (.iload_n 1, 1) := by decide +kernel
theorem dX11_goesOn_79 : decode cX11_goesOn 79 = .ok (.iload_n 2, 1) := by decide +kernel
theorem dX11_goesOn_80 : decode cX11_goesOn 80 = .ok (.iadd, 1) := by decide +kernel
theorem dX11_goesOn_81 : decode cX11_goesOn 81 = .ok (.iconst 1, 1) := by decide +kernel
theorem dX11_goesOn_82 : decode cX11_goesOn 82 = .ok (.iadd, 1) := by decide +kernel
theorem dX11_goesOn_83 : decode cX11_goesOn 83 = .ok (.iaload, 1) := by decide +kernel
theorem dX11_goesOn_84 : decode cX11_goesOn 84 = .ok (.aload_n 0, 1) := by decide +kernel
theorem dX11_goesOn_85 : decode cX11_goesOn 85 = .ok (.getfield 30, 3) := by decide +kernel
theorem dX11_goesOn_88 : decode cX11_goesOn 88 = .ok (.iconst 2, 1) := by decide +kernel
theorem dX11_goesOn_89 : decode cX11_goesOn 89 = .ok (.iaload, 1) := by decide +kernel
theorem dX11_goesOn_90 : decode cX11_goesOn 90 = .ok (.iadd, 1) := by decide +kernel
theorem dX11_goesOn_91 : decode cX11_goesOn 91 = .ok (.iload 5, 2) := by decide +kernel
theorem dX11_goesOn_93 : decode cX11_goesOn 93 = .ok (.if_icmp .ge 23, 3) := by decide +kernel
theorem dX11_goesOn_96 : decode cX11_goesOn 96 = .ok (.aload_n 0, 1) := by decide +kernel
theorem dX11_goesOn_97 : decode cX11_goesOn 97 = .ok (.getfield 51, 3) := by decide +kernel
theorem dX11_goesOn_100 : decode cX11_goesOn 100 = .ok (.iload_n 1, 1) := by decide +kernel
theorem dX11_goesOn_101 : decode cX11_goesOn 101 = .ok (.iload_n 2, 1) := by decide +kernel
theorem dX11_goesOn_102 : decode cX11_goesOn 102 = .ok (.iadd, 1) := by decide +kernel
theorem dX11_goesOn_103 : decode cX11_goesOn 103 = .ok (.iconst 1, 1) := by decide +kernel
theorem dX11_goesOn_104 : decode cX11_goesOn 104 = .ok (.iadd, 1) := by decide +kernel
theorem dX11_goesOn_105 : decode cX11_goesOn 105 = .ok (.iaload, 1) := by decide +kernel
theorem dX11_goesOn_106 : decode cX11_goesOn 106 = .ok (.aload_n 0, 1) := by decide +kernel
theorem dX11_goesOn_107 : decode cX11_goesOn 107 = .ok (.getfield 30, 3) := by decide +kernel
theorem dX11_goesOn_110 : decode cX11_goesOn 110 = .ok (.iconst 2, 1) := by decide +kernel
theorem dX11_goesOn_111 : decode cX11_goesOn 111 = .ok (.iaload, 1) := by decide +kernel
theorem dX11_goesOn_112 : decode cX11_goesOn 112 = .ok (.iadd, 1) := by decide +kernel
theorem dX11_goesOn_113 : decode cX11_goesOn 113 = .ok (.goto 5, 3) := by decide +kernel
theorem dX11_goesOn_116 : decode cX11_goesOn 116 = .ok (.iload 5, 2) := by decide +kernel
theorem dX11_goesOn_118 : decode cX11_goesOn 118 = .ok (.istore 5, 2) := by decide +kernel
theorem dX11_goesOn_120 : decode cX11_goesOn 120 = .ok (.iload_n 3, 1) := by decide +kernel
theorem dX11_goesOn_121 : decode cX11_goesOn 121 = .ok (.aload_n 0, 1) := by decide +kernel
theorem dX11_goesOn_122 : decode cX11_goesOn 122 = .ok (.getfield 30, 3) := by decide +kernel
theorem dX11_goesOn_125 : decode cX11_goesOn 125 = .ok (.iconst 3, 1) := by decide +kernel
theorem dX11_goesOn_126 : decode cX11_goesOn 126 = .ok (.iaload, 1) := by decide +kernel
theorem dX11_goesOn_127 : decode cX11_goesOn 127 = .ok (.iadd, 1) := by decide +kernel
theorem dX11_goesOn_128 : decode cX11_goesOn 128 = .ok (.iload 5, 2) := by decide +kernel
theorem dX11_goesOn_130 : decode cX11_goesOn 130 = .ok (.if_icmp .ge 14, 3) := by decide +kernel
theorem dX11_goesOn_133 : decode cX11_goesOn 133 = .ok (.iload_n 3, 1) := by decide +kernel
theorem dX11_goesOn_134 : decode cX11_goesOn 134 = .ok (.aload_n 0, 1) := by decide +kernel
theorem dX11_goesOn_135 : decode cX11_goesOn 135 = .ok (.getfield 30, 3) := by decide +kernel
theorem dX11_goesOn_138 : decode cX11_goesOn 138 = .ok (.iconst 3, 1) := by decide +kernel
theorem dX11_goesOn_139 : decode cX11_goesOn 139 = .ok (.iaload, 1) := by decide +kernel
theorem dX11_goesOn_140 : decode cX11_goesOn 140 = .ok (.iadd, 1) := by decide +kernel
theorem dX11_goesOn_141 : decode cX11_goesOn 141 = .ok (.goto 5, 3) := by decide +kernel
theorem dX11_goesOn_144 : decode cX11_goesOn 144 = .ok (.iload 5, 2) := by decide +kernel
theorem dX11_goesOn_146 : decode cX11_goesOn 146 = .ok (.ireturn, 1) := by decide +kernel
theorem dX11_layDepths_0 : decode cX11_layDepths 0 = .ok (.aload_n 0, 1) := by decide +kernel
theorem dX11_layDepths_1 : decode cX11_layDepths 1 = .ok (.getfield 7, 3) := by decide +kernel
theorem dX11_layDepths_4 : decode cX11_layDepths 4 = .ok (.iload_n 2, 1) := by decide +kernel
theorem dX11_layDepths_5 : decode cX11_layDepths 5 = .ok (.imul, 1) := by decide +kernel
theorem dX11_layDepths_6 : decode cX11_layDepths 6 = .ok (.iload_n 1, 1) := by decide +kernel
theorem dX11_layDepths_7 : decode cX11_layDepths 7 = .ok (.iadd, 1) := by decide +kernel
theorem dX11_layDepths_8 : decode cX11_layDepths 8 = .ok (.istore_n 3, 1) := by decide +kernel
theorem dX11_layDepths_9 : decode cX11_layDepths 9 = .ok (.iconst 0, 1) := by decide +kernel
theorem dX11_layDepths_10 : decode cX11_layDepths 10 = .ok (.istore 4, 2) := by decide +kernel
theorem dX11_layDepths_12 : decode cX11_layDepths 12 = .ok (.iconst 0, 1) := by decide +kernel
theorem dX11_layDepths_13 : decode cX11_layDepths 13 = .ok (.istore 5, 2) := by decide +kernel
theorem dX11_layDepths_15 : decode cX11_layDepths 15 = .ok (.iconst 1, 1) := by decide +kernel
theorem dX11_layDepths_16 : decode cX11_layDepths 16 = .ok (.istore 6, 2) := by decide +kernel
theorem dX11_layDepths_18 : decode cX11_layDepths 18 = .ok (.iload 6, 2) := by decide +kernel
theorem dX11_layDepths_20 : decode cX11_layDepths 20 = .ok (.aload_n 0, 1) := by decide +kernel
theorem dX11_layDepths_21 : decode cX11_layDepths 21 = .ok (.getfield 30, 3) := by decide +kernel
theorem dX11_layDepths_24 : decode cX11_layDepths 24 = .ok (.iconst 0, 1) := by decide +kernel
theorem dX11_layDepths_25 : decode cX11_layDepths 25 = .ok (.iaload, 1) := by decide +kernel
theorem dX11_layDepths_26 : decode cX11_layDepths 26 = .ok (.if_icmp .gt 98, 3) := by decide +kernel
theorem dX11_layDepths_29 : decode cX11_layDepths 29 = .ok (.aload_n 0, 1) := by decide +kernel
theorem dX11_layDepths_30 : decode cX11_layDepths 30 = .ok (.getfield 54, 3) := by decide +kernel
theorem dX11_layDepths_33 : decode cX11_layDepths 33 = .ok (.bipush 9, 2) := by decide +kernel
theorem dX11_layDepths_35 : decode cX11_layDepths 35 = .ok (.iload_n 3, 1) := by decide +kernel
theorem dX11_layDepths_36 : decode cX11_layDepths 36 = .ok (.imul, 1) := by decide +kernel
theorem dX11_layDepths_37 : decode cX11_layDepths 37 = .ok (.iload 6, 2) := by decide +kernel
theorem dX11_layDepths_39 : decode cX11_layDepths 39 = .ok (.iadd, 1) := by decide +kernel
theorem dX11_layDepths_40 : decode cX11_layDepths 40 = .ok (.iaload, 1) := by decide +kernel
theorem dX11_layDepths_41 : decode cX11_layDepths 41 = .ok (.aload_n 0, 1) := by decide +kernel
theorem dX11_layDepths_42 : decode cX11_layDepths 42 = .ok (.getfield 54, 3) := by decide +kernel
theorem dX11_layDepths_45 : decode cX11_layDepths 45 = .ok (.bipush 9, 2) := by decide +kernel
theorem dX11_layDepths_47 : decode cX11_layDepths 47 = .ok (.iload_n 3, 1) := by decide +kernel
theorem dX11_layDepths_48 : decode cX11_layDepths 48 = .ok (.imul, 1) := by decide +kernel
theorem dX11_layDepths_49 : decode cX11_layDepths 49 = .ok (.iload 4, 2) := by decide +kernel
theorem dX11_layDepths_51 : decode cX11_layDepths 51 = .ok (.iadd, 1) := by decide +kernel
theorem dX11_layDepths_52 : decode cX11_layDepths 52 = .ok (.iaload, 1) := by decide +kernel
theorem dX11_layDepths_53 : decode cX11_layDepths 53 = .ok (.if_icmp .ge 8, 3) := by decide +kernel
theorem dX11_layDepths_56 : decode cX11_layDepths 56 = .ok (.iload 6, 2) := by decide +kernel
theorem dX11_layDepths_58 : decode cX11_layDepths 58 = .ok (.goto 5, 3) := by decide +kernel
theorem dX11_layDepths_61 : decode cX11_layDepths 61 = .ok (.iload 4, 2) := by decide +kernel
theorem dX11_layDepths_63 : decode cX11_layDepths 63 = .ok (.istore 4, 2) := by decide +kernel
theorem dX11_layDepths_65 : decode cX11_layDepths 65 = .ok (.iload_n 1, 1) := by decide +kernel
theorem dX11_layDepths_66 : decode cX11_layDepths 66 = .ok (.iload 6, 2) := by decide +kernel
theorem dX11_layDepths_68 : decode cX11_layDepths 68 = .ok (.iadd, 1) := by decide +kernel
theorem dX11_layDepths_69 : decode cX11_layDepths 69 = .ok (.aload_n 0, 1) := by decide +kernel
theorem dX11_layDepths_70 : decode cX11_layDepths 70 = .ok (.getfield 7, 3) := by decide +kernel
theorem dX11_layDepths_73 : decode cX11_layDepths 73 = .ok (.if_icmp .ge 45, 3) := by decide +kernel
theorem dX11_layDepths_76 : decode cX11_layDepths 76 = .ok (.aload_n 0, 1) := by decide +kernel
theorem dX11_layDepths_77 : decode cX11_layDepths 77 = .ok (.getfield 54, 3) := by decide +kernel
theorem dX11_layDepths_80 : decode cX11_layDepths 80 = .ok (.bipush 9, 2) := by decide +kernel
theorem dX11_layDepths_82 : decode cX11_layDepths 82 = .ok (.iload_n 3, 1) := by decide +kernel
theorem dX11_layDepths_83 : decode cX11_layDepths 83 = .ok (.iload 6, 2) := by decide +kernel
theorem dX11_layDepths_85 : decode cX11_layDepths 85 = .ok (.iadd, 1) := by decide +kernel
theorem dX11_layDepths_86 : decode cX11_layDepths 86 = .ok (.imul, 1) := by decide +kernel
theorem dX11_layDepths_87 : decode cX11_layDepths 87 = .ok (.iload 6, 2) := by decide +kernel
theorem dX11_layDepths_89 : decode cX11_layDepths 89 = .ok (.iadd, 1) := by decide +kernel
theorem dX11_layDepths_90 : decode cX11_layDepths 90 = .ok (.iaload, 1) := by decide +kernel
theorem dX11_layDepths_91 : decode cX11_layDepths 91 = .ok (.aload_n 0, 1) := by decide +kernel
theorem dX11_layDepths_92 : decode cX11_layDepths 92 = .ok (.getfield 54, 3) := by decide +kernel
theorem dX11_layDepths_95 : decode cX11_layDepths 95 = .ok (.bipush 9, 2) := by decide +kernel
theorem dX11_layDepths_97 : decode cX11_layDepths 97 = .ok (.iload_n 3, 1) := by decide +kernel
theorem dX11_layDepths_98 : decode cX11_layDepths 98 = .ok (.iload 5, 2) := by decide +kernel
theorem dX11_layDepths_100 : decode cX11_layDepths 100 = .ok (.iadd, 1) := by decide +kernel
theorem dX11_layDepths_101 : decode cX11_layDepths 101 = .ok (.imul, 1) := by decide +kernel
theorem dX11_layDepths_102 : decode cX11_layDepths 102 = .ok (.iload 5, 2) := by decide +kernel
theorem dX11_layDepths_104 : decode cX11_layDepths 104 = .ok (.iadd, 1) := by decide +kernel
theorem dX11_layDepths_105 : decode cX11_layDepths 105 = .ok (.iaload, 1) := by decide +kernel
theorem dX11_layDepths_106 : decode cX11_layDepths 106 = .ok (.if_icmp .ge 8, 3) := by decide +kernel
theorem dX11_layDepths_109 : decode cX11_layDepths 109 = .ok (.iload 6, 2) := by decide +kernel
theorem dX11_layDepths_111 : decode cX11_layDepths 111 = .ok (.goto 5, 3) := by decide +kernel
theorem dX11_layDepths_114 : decode cX11_layDepths 114 = .ok (.iload 5, 2) := by decide +kernel
theorem dX11_layDepths_116 : decode cX11_layDepths 116 = .ok (.istore 5, 2) := by decide +kernel
theorem dX11_layDepths_118 : decode cX11_layDepths 118 = .ok (.iinc 6 1, 3) := by decide +kernel
theorem dX11_layDepths_121 : decode cX11_layDepths 121 = .ok (.goto (-103), 3) := by decide +kernel
theorem dX11_layDepths_124 : decode cX11_layDepths 124 = .ok (.aload_n 0, 1) := by decide +kernel
theorem dX11_layDepths_125 : decode cX11_layDepths 125 = .ok (.getfield 57, 3) := by decide +kernel
theorem dX11_layDepths_128 : decode cX11_layDepths 128 = .ok (.iload_n 3, 1) := by decide +kernel
theorem dX11_layDepths_129 : decode cX11_layDepths 129 = .ok (.iload 4, 2) := by decide +kernel
theorem dX11_layDepths_131 : decode cX11_layDepths 131 = .ok (.iastore, 1) := by decide +kernel
theorem dX11_layDepths_132 : decode cX11_layDepths 132 = .ok (.aload_n 0, 1) := by decide +kernel
theorem dX11_layDepths_133 : decode cX11_layDepths 133 = .ok (.getfield 60, 3) := by decide +kernel
theorem dX11_layDepths_136 : decode cX11_layDepths 136 = .ok (.iload_n 3, 1) := by decide +kernel
theorem dX11_layDepths_137 : decode cX11_layDepths 137 = .ok (.iload 5, 2) := by decide +kernel
theorem dX11_layDepths_139 : decode cX11_layDepths 139 = .ok (.iastore, 1) := by decide +kernel
theorem dX11_layDepths_140 : decode cX11_layDepths 140 = .ok (.return_, 1) := by decide +kernel
theorem dX11_agreedAt_0 : decode cX11_agreedAt 0 = .ok (.aload_n 0, 1) := by decide +kernel
theorem dX11_agreedAt_1 : decode cX11_agreedAt 1 = .ok (.getfield 57, 3) := by decide +kernel
theorem dX11_agreedAt_4 : decode cX11_agreedAt 4 = .ok (.aload_n 0, 1) := by decide +kernel
theorem dX11_agreedAt_5 : decode cX11_agreedAt 5 = .ok (.getfield 7, 3) := by decide +kernel
theorem dX11_agreedAt_8 : decode cX11_agreedAt 8 = .ok (.iload_n 2, 1) := by decide +kernel
theorem dX11_agreedAt_9 : decode cX11_agreedAt 9 = .ok (.imul, 1) := by decide +kernel
theorem dX11_agreedAt_10 : decode cX11_agreedAt 10 = .ok (.iload_n 1, 1) := by decide +kernel
theorem dX11_agreedAt_11 : decode cX11_agreedAt 11 = .ok (.iadd, 1) := by decide +kernel
theorem dX11_agreedAt_12 : decode cX11_agreedAt 12 = .ok (.iaload, 1) := by decide +kernel
theorem dX11_agreedAt_13 : decode cX11_agreedAt 13 = .ok (.istore_n 3, 1) := by decide +kernel
theorem dX11_agreedAt_14 : decode cX11_agreedAt 14 = .ok (.aload_n 0, 1) := by decide +kernel
theorem dX11_agreedAt_15 : decode cX11_agreedAt 15 = .ok (.iconst 0, 1) := by decide +kernel
theorem dX11_agreedAt_16 : decode cX11_agreedAt 16 = .ok (.iload_n 1, 1) := by decide +kernel
theorem dX11_agreedAt_17 : decode cX11_agreedAt 17 = .ok (.iload_n 2, 1) := by decide +kernel
theorem dX11_agreedAt_18 : decode cX11_agreedAt 18 = .ok (.invokevirtual 98, 3) := by decide +kernel
theorem dX11_agreedAt_21 : decode cX11_agreedAt 21 = .ok (.ifCond .eq 6, 3) := by decide +kernel
theorem dX11_agreedAt_24 : decode cX11_agreedAt 24 = .ok (.bipush (-11), 2) := by decide +kernel
theorem dX11_agreedAt_26 : decode cX11_agreedAt 26 = .ok (.ireturn, 1) := by decide +kernel
theorem dX11_agreedAt_27 : decode cX11_agreedAt 27 = .ok (.iload_n 1, 1) := by decide +kernel
theorem dX11_agreedAt_28 : decode cX11_agreedAt 28 = .ok (.iload_n 3, 1) := by decide +kernel
theorem dX11_agreedAt_29 : decode cX11_agreedAt 29 = .ok (.if_icmp .ge 6, 3) := by decide +kernel
theorem dX11_agreedAt_32 : decode cX11_agreedAt 32 = .ok (.bipush (-12), 2) := by decide +kernel
theorem dX11_agreedAt_34 : decode cX11_agreedAt 34 = .ok (.ireturn, 1) := by decide +kernel
theorem dX11_agreedAt_35 : decode cX11_agreedAt 35 = .ok (.aload_n 0, 1) := by decide +kernel
theorem dX11_agreedAt_36 : decode cX11_agreedAt 36 = .ok (.iconst 1, 1) := by decide +kernel
theorem dX11_agreedAt_37 : decode cX11_agreedAt 37 = .ok (.iload_n 1, 1) := by decide +kernel
theorem dX11_agreedAt_38 : decode cX11_agreedAt 38 = .ok (.iload_n 3, 1) := by decide +kernel
theorem dX11_agreedAt_39 : decode cX11_agreedAt 39 = .ok (.isub, 1) := by decide +kernel
theorem dX11_agreedAt_40 : decode cX11_agreedAt 40 = .ok (.iload_n 2, 1) := by decide +kernel
theorem dX11_agreedAt_41 : decode cX11_agreedAt 41 = .ok (.invokevirtual 98, 3) := by decide +kernel
theorem dX11_agreedAt_44 : decode cX11_agreedAt 44 = .ok (.ifCond .eq 6, 3) := by decide +kernel
theorem dX11_agreedAt_47 : decode cX11_agreedAt 47 = .ok (.bipush (-13), 2) := by decide +kernel
theorem dX11_agreedAt_49 : decode cX11_agreedAt 49 = .ok (.ireturn, 1) := by decide +kernel
theorem dX11_agreedAt_50 : decode cX11_agreedAt 50 = .ok (.aload_n 0, 1) := by decide +kernel
theorem dX11_agreedAt_51 : decode cX11_agreedAt 51 = .ok (.getfield 60, 3) := by decide +kernel
theorem dX11_agreedAt_54 : decode cX11_agreedAt 54 = .ok (.aload_n 0, 1) := by decide +kernel
theorem dX11_agreedAt_55 : decode cX11_agreedAt 55 = .ok (.getfield 7, 3) := by decide +kernel
theorem dX11_agreedAt_58 : decode cX11_agreedAt 58 = .ok (.iload_n 2, 1) := by decide +kernel
theorem dX11_agreedAt_59 : decode cX11_agreedAt 59 = .ok (.imul, 1) := by decide +kernel
theorem dX11_agreedAt_60 : decode cX11_agreedAt 60 = .ok (.iload_n 1, 1) := by decide +kernel
theorem dX11_agreedAt_61 : decode cX11_agreedAt 61 = .ok (.iadd, 1) := by decide +kernel
theorem dX11_agreedAt_62 : decode cX11_agreedAt 62 = .ok (.iload_n 3, 1) := by decide +kernel
theorem dX11_agreedAt_63 : decode cX11_agreedAt 63 = .ok (.isub, 1) := by decide +kernel
theorem dX11_agreedAt_64 : decode cX11_agreedAt 64 = .ok (.iaload, 1) := by decide +kernel
theorem dX11_agreedAt_65 : decode cX11_agreedAt 65 = .ok (.iload_n 3, 1) := by decide +kernel
theorem dX11_agreedAt_66 : decode cX11_agreedAt 66 = .ok (.if_icmp .ne 7, 3) := by decide +kernel
theorem dX11_agreedAt_69 : decode cX11_agreedAt 69 = .ok (.iload_n 3, 1) := by decide +kernel
theorem dX11_agreedAt_70 : decode cX11_agreedAt 70 = .ok (.goto 5, 3) := by decide +kernel
theorem dX11_agreedAt_73 : decode cX11_agreedAt 73 = .ok (.bipush (-14), 2) := by decide +kernel
theorem dX11_agreedAt_75 : decode cX11_agreedAt 75 = .ok (.ireturn, 1) := by decide +kernel
theorem dX11_isDeep_0 : decode cX11_isDeep 0 = .ok (.aload_n 0, 1) := by decide +kernel
theorem dX11_isDeep_1 : decode cX11_isDeep 1 = .ok (.iload_n 1, 1) := by decide +kernel
theorem dX11_isDeep_2 : decode cX11_isDeep 2 = .ok (.iload_n 2, 1) := by decide +kernel
theorem dX11_isDeep_3 : decode cX11_isDeep 3 = .ok (.invokevirtual 95, 3) := by decide +kernel
theorem dX11_isDeep_6 : decode cX11_isDeep 6 = .ok (.ifCond .eq 21, 3) := by decide +kernel
theorem dX11_isDeep_9 : decode cX11_isDeep 9 = .ok (.iload_n 3, 1) := by decide +kernel
theorem dX11_isDeep_10 : decode cX11_isDeep 10 = .ok (.iconst 0, 1) := by decide +kernel
theorem dX11_isDeep_11 : decode cX11_isDeep 11 = .ok (.aload_n 0, 1) := by decide +kernel
theorem dX11_isDeep_12 : decode cX11_isDeep 12 = .ok (.getfield 30, 3) := by decide +kernel
theorem dX11_isDeep_15 : decode cX11_isDeep 15 = .ok (.iconst 0, 1) := by decide +kernel
theorem dX11_isDeep_16 : decode cX11_isDeep 16 = .ok (.iaload, 1) := by decide +kernel
theorem dX11_isDeep_17 : decode cX11_isDeep 17 = .ok (.invokestatic 80, 3) := by decide +kernel
theorem dX11_isDeep_20 : decode cX11_isDeep 20 = .ok (.ifCond .eq 7, 3) := by decide +kernel
theorem dX11_isDeep_23 : decode cX11_isDeep 23 = .ok (.iconst 1, 1) := by decide +kernel
theorem dX11_isDeep_24 : decode cX11_isDeep 24 = .ok (.goto 4, 3) := by decide +kernel
theorem dX11_isDeep_27 : decode cX11_isDeep 27 = .ok (.iconst 0, 1) := by decide +kernel
theorem dX11_isDeep_28 : decode cX11_isDeep 28 = .ok (.ireturn, 1) := by decide +kernel
theorem dX11_cost_0 : decode cX11_cost 0 = .ok (.aload_n 0, 1) := by decide +kernel
theorem dX11_cost_1 : decode cX11_cost 1 = .ok (.iload_n 1, 1) := by decide +kernel
theorem dX11_cost_2 : decode cX11_cost 2 = .ok (.iload_n 2, 1) := by decide +kernel
theorem dX11_cost_3 : decode cX11_cost 3 = .ok (.iload_n 3, 1) := by decide +kernel
theorem dX11_cost_4 : decode cX11_cost 4 = .ok (.invokevirtual 153, 3) := by decide +kernel
theorem dX11_cost_7 : decode cX11_cost 7 = .ok (.ifCond .ne 5, 3) := by decide +kernel
theorem dX11_cost_10 : decode cX11_cost 10 = .ok (.iconst (-1), 1) := by decide +kernel
theorem dX11_cost_11 : decode cX11_cost 11 = .ok (.ireturn, 1) := by decide +kernel
theorem dX11_cost_12 : decode cX11_cost 12 = .ok (.aload_n 0, 1) := by decide +kernel
theorem dX11_cost_13 : decode cX11_cost 13 = .ok (.iload_n 1, 1) := by decide +kernel
theorem dX11_cost_14 : decode cX11_cost 14 = .ok (.iload_n 2, 1) := by decide +kernel
theorem dX11_cost_15 : decode cX11_cost 15 = .ok (.iload_n 3, 1) := by decide +kernel
theorem dX11_cost_16 : decode cX11_cost 16 = .ok (.invokevirtual 134, 3) := by decide +kernel
theorem dX11_cost_19 : decode cX11_cost 19 = .ok (.istore 4, 2) := by decide +kernel
theorem dX11_cost_21 : decode cX11_cost 21 = .ok (.iload 4, 2) := by decide +kernel
theorem dX11_cost_23 : decode cX11_cost 23 = .ok (.iconst (-1), 1) := by decide +kernel
theorem dX11_cost_24 : decode cX11_cost 24 = .ok (.if_icmp .ne 8, 3) := by decide +kernel
theorem dX11_cost_27 : decode cX11_cost 27 = .ok (.bipush (-4), 2) := by decide +kernel
theorem dX11_cost_29 : decode cX11_cost 29 = .ok (.goto 5, 3) := by decide +kernel
theorem dX11_cost_32 : decode cX11_cost 32 = .ok (.iload 4, 2) := by decide +kernel
theorem dX11_cost_34 : decode cX11_cost 34 = .ok (.ireturn, 1) := by decide +kernel
theorem dX11_payMatch_0 : decode cX11_payMatch 0 = .ok (.iload_n 1, 1) := by decide +kernel
theorem dX11_payMatch_1 : decode cX11_payMatch 1 = .ok (.aload_n 0, 1) := by decide +kernel
theorem dX11_payMatch_2 : decode cX11_payMatch 2 = .ok (.getfield 7, 3) := by decide +kernel
theorem dX11_payMatch_5 : decode cX11_payMatch 5 = .ok (.if_icmp .ge 28, 3) := by decide +kernel
theorem dX11_payMatch_8 : decode cX11_payMatch 8 = .ok (.iload_n 2, 1) := by decide +kernel
theorem dX11_payMatch_9 : decode cX11_payMatch 9 = .ok (.aload_n 0, 1) := by decide +kernel
theorem dX11_payMatch_10 : decode cX11_payMatch 10 = .ok (.getfield 7, 3) := by decide +kernel
theorem dX11_payMatch_13 : decode cX11_payMatch 13 = .ok (.if_icmp .ge 20, 3) := by decide +kernel
theorem dX11_payMatch_16 : decode cX11_payMatch 16 = .ok (.iload_n 1, 1) := by decide +kernel
theorem dX11_payMatch_17 : decode cX11_payMatch 17 = .ok (.iload_n 2, 1) := by decide +kernel
theorem dX11_payMatch_18 : decode cX11_payMatch 18 = .ok (.if_icmp .lt 15, 3) := by decide +kernel
theorem dX11_payMatch_21 : decode cX11_payMatch 21 = .ok (.iload_n 1, 1) := by decide +kernel
theorem dX11_payMatch_22 : decode cX11_payMatch 22 = .ok (.iload_n 2, 1) := by decide +kernel
theorem dX11_payMatch_23 : decode cX11_payMatch 23 = .ok (.isub, 1) := by decide +kernel
theorem dX11_payMatch_24 : decode cX11_payMatch 24 = .ok (.aload_n 0, 1) := by decide +kernel
theorem dX11_payMatch_25 : decode cX11_payMatch 25 = .ok (.getfield 30, 3) := by decide +kernel
theorem dX11_payMatch_28 : decode cX11_payMatch 28 = .ok (.iconst 0, 1) := by decide +kernel
theorem dX11_payMatch_29 : decode cX11_payMatch 29 = .ok (.iaload, 1) := by decide +kernel
theorem dX11_payMatch_30 : decode cX11_payMatch 30 = .ok (.if_icmp .le 5, 3) := by decide +kernel
theorem dX11_payMatch_33 : decode cX11_payMatch 33 = .ok (.iconst (-1), 1) := by decide +kernel
theorem dX11_payMatch_34 : decode cX11_payMatch 34 = .ok (.ireturn, 1) := by decide +kernel
theorem dX11_payMatch_35 : decode cX11_payMatch 35 = .ok (.aload_n 0, 1) := by decide +kernel
theorem dX11_payMatch_36 : decode cX11_payMatch 36 = .ok (.iload_n 1, 1) := by decide +kernel
theorem dX11_payMatch_37 : decode cX11_payMatch 37 = .ok (.iload_n 3, 1) := by decide +kernel
theorem dX11_payMatch_38 : decode cX11_payMatch 38 = .ok (.iload_n 1, 1) := by decide +kernel
theorem dX11_payMatch_39 : decode cX11_payMatch 39 = .ok (.iload_n 2, 1) := by decide +kernel
theorem dX11_payMatch_40 : decode cX11_payMatch 40 = .ok (.isub, 1) := by decide +kernel
theorem dX11_payMatch_41 : decode cX11_payMatch 41 = .ok (.invokevirtual 134, 3) := by decide +kernel
theorem dX11_payMatch_44 : decode cX11_payMatch 44 = .ok (.istore 4, 2) := by decide +kernel
theorem dX11_payMatch_46 : decode cX11_payMatch 46 = .ok (.iload 4, 2) := by decide +kernel
theorem dX11_payMatch_48 : decode cX11_payMatch 48 = .ok (.iconst (-1), 1) := by decide +kernel
theorem dX11_payMatch_49 : decode cX11_payMatch 49 = .ok (.if_icmp .ne 7, 3) := by decide +kernel
theorem dX11_payMatch_52 : decode cX11_payMatch 52 = .ok (.iconst (-1), 1) := by decide +kernel
theorem dX11_payMatch_53 : decode cX11_payMatch 53 = .ok (.goto 21, 3) := by decide +kernel
theorem dX11_payMatch_56 : decode cX11_payMatch 56 = .ok (.iload 4, 2) := by decide +kernel
theorem dX11_payMatch_58 : decode cX11_payMatch 58 = .ok (.aload_n 0, 1) := by decide +kernel
theorem dX11_payMatch_59 : decode cX11_payMatch 59 = .ok (.getfield 66, 3) := by decide +kernel
theorem dX11_payMatch_62 : decode cX11_payMatch 62 = .ok (.bipush 21, 2) := by decide +kernel
theorem dX11_payMatch_64 : decode cX11_payMatch 64 = .ok (.iload_n 1, 1) := by decide +kernel
theorem dX11_payMatch_65 : decode cX11_payMatch 65 = .ok (.iconst 1, 1) := by decide +kernel
theorem dX11_payMatch_66 : decode cX11_payMatch 66 = .ok (.iadd, 1) := by decide +kernel
theorem dX11_payMatch_67 : decode cX11_payMatch 67 = .ok (.imul, 1) := by decide +kernel
theorem dX11_payMatch_68 : decode cX11_payMatch 68 = .ok (.iload_n 2, 1) := by decide +kernel
theorem dX11_payMatch_69 : decode cX11_payMatch 69 = .ok (.iadd, 1) := by decide +kernel
theorem dX11_payMatch_70 : decode cX11_payMatch 70 = .ok (.iconst 1, 1) := by decide +kernel
theorem dX11_payMatch_71 : decode cX11_payMatch 71 = .ok (.iadd, 1) := by decide +kernel
theorem dX11_payMatch_72 : decode cX11_payMatch 72 = .ok (.iaload, 1) := by decide +kernel
theorem dX11_payMatch_73 : decode cX11_payMatch 73 = .ok (.iadd, 1) := by decide +kernel
theorem dX11_payMatch_74 : decode cX11_payMatch 74 = .ok (.ireturn, 1) := by decide +kernel
theorem dX11_layPath_0 : decode cX11_layPath 0 = .ok (.aload_n 0, 1) := by decide +kernel
theorem dX11_layPath_1 : decode cX11_layPath 1 = .ok (.getfield 7, 3) := by decide +kernel
theorem dX11_layPath_4 : decode cX11_layPath 4 = .ok (.istore_n 2, 1) := by decide +kernel
theorem dX11_layPath_5 : decode cX11_layPath 5 = .ok (.iload_n 2, 1) := by decide +kernel
theorem dX11_layPath_6 : decode cX11_layPath 6 = .ok (.ifCond .lt 185, 3) := by decide +kernel
theorem dX11_layPath_9 : decode cX11_layPath 9 = .ok (.aload_n 0, 1) := by decide +kernel
theorem dX11_layPath_10 : decode cX11_layPath 10 = .ok (.getfield 7, 3) := by decide +kernel
theorem dX11_layPath_13 : decode cX11_layPath 13 = .ok (.istore_n 3, 1) := by decide +kernel
theorem dX11_layPath_14 : decode cX11_layPath 14 = .ok (.iload_n 3, 1) := by decide +kernel
theorem dX11_layPath_15 : decode cX11_layPath 15 = .ok (.ifCond .lt 170, 3) := by decide +kernel
theorem dX11_layPath_18 : decode cX11_layPath 18 = .ok (.iload_n 2, 1) := by decide +kernel
theorem dX11_layPath_19 : decode cX11_layPath 19 = .ok (.aload_n 0, 1) := by decide +kernel
theorem dX11_layPath_20 : decode cX11_layPath 20 = .ok (.getfield 7, 3) := by decide +kernel
theorem dX11_layPath_23 : decode cX11_layPath 23 = .ok (.if_icmp .ne 15, 3) := by decide +kernel
theorem dX11_layPath_26 : decode cX11_layPath 26 = .ok (.iload_n 3, 1) := by decide +kernel
theorem dX11_layPath_27 : decode cX11_layPath 27 = .ok (.aload_n 0, 1) := by decide +kernel
theorem dX11_layPath_28 : decode cX11_layPath 28 = .ok (.getfield 7, 3) := by decide +kernel
theorem dX11_layPath_31 : decode cX11_layPath 31 = .ok (.if_icmp .ne 7, 3) := by decide +kernel
theorem dX11_layPath_34 : decode cX11_layPath 34 = .ok (.iconst 0, 1) := by decide +kernel
theorem dX11_layPath_35 : decode cX11_layPath 35 = .ok (.goto 4, 3) := by decide +kernel
theorem dX11_layPath_38 : decode cX11_layPath 38 = .ok (.iconst (-1), 1) := by decide +kernel
theorem dX11_layPath_39 : decode cX11_layPath 39 = .ok (.istore 4, 2) := by decide +kernel
theorem dX11_layPath_41 : decode cX11_layPath 41 = .ok (.aload_n 0, 1) := by decide +kernel
theorem dX11_layPath_42 : decode cX11_layPath 42 = .ok (.iload_n 2, 1) := by decide +kernel
theorem dX11_layPath_43 : decode cX11_layPath 43 = .ok (.iload_n 3, 1) := by decide +kernel
theorem dX11_layPath_44 : decode cX11_layPath 44 = .ok (.iload_n 1, 1) := by decide +kernel
theorem dX11_layPath_45 : decode cX11_layPath 45 = .ok (.invokevirtual 156, 3) := by decide +kernel
theorem dX11_layPath_48 : decode cX11_layPath 48 = .ok (.istore 5, 2) := by decide +kernel
theorem dX11_layPath_50 : decode cX11_layPath 50 = .ok (.iload 5, 2) := by decide +kernel
theorem dX11_layPath_52 : decode cX11_layPath 52 = .ok (.ifCond .lt 8, 3) := by decide +kernel
theorem dX11_layPath_55 : decode cX11_layPath 55 = .ok (.iload 5, 2) := by decide +kernel
theorem dX11_layPath_57 : decode cX11_layPath 57 = .ok (.goto 5, 3) := by decide +kernel
theorem dX11_layPath_60 : decode cX11_layPath 60 = .ok (.iload 4, 2) := by decide +kernel
theorem dX11_layPath_62 : decode cX11_layPath 62 = .ok (.istore 4, 2) := by decide +kernel
theorem dX11_layPath_64 : decode cX11_layPath 64 = .ok (.iload_n 2, 1) := by decide +kernel
theorem dX11_layPath_65 : decode cX11_layPath 65 = .ok (.aload_n 0, 1) := by decide +kernel
theorem dX11_layPath_66 : decode cX11_layPath 66 = .ok (.getfield 7, 3) := by decide +kernel
theorem dX11_layPath_69 : decode cX11_layPath 69 = .ok (.if_icmp .ge 46, 3) := by decide +kernel
theorem dX11_layPath_72 : decode cX11_layPath 72 = .ok (.aload_n 0, 1) := by decide +kernel
theorem dX11_layPath_73 : decode cX11_layPath 73 = .ok (.getfield 30, 3) := by decide +kernel
theorem dX11_layPath_76 : decode cX11_layPath 76 = .ok (.iconst 1, 1) := by decide +kernel
theorem dX11_layPath_77 : decode cX11_layPath 77 = .ok (.iaload, 1) := by decide +kernel
theorem dX11_layPath_78 : decode cX11_layPath 78 = .ok (.aload_n 0, 1) := by decide +kernel
theorem dX11_layPath_79 : decode cX11_layPath 79 = .ok (.getfield 66, 3) := by decide +kernel
theorem dX11_layPath_82 : decode cX11_layPath 82 = .ok (.bipush 21, 2) := by decide +kernel
theorem dX11_layPath_84 : decode cX11_layPath 84 = .ok (.iload_n 2, 1) := by decide +kernel
theorem dX11_layPath_85 : decode cX11_layPath 85 = .ok (.iconst 1, 1) := by decide +kernel
theorem dX11_layPath_86 : decode cX11_layPath 86 = .ok (.iadd, 1) := by decide +kernel
theorem dX11_layPath_87 : decode cX11_layPath 87 = .ok (.imul, 1) := by decide +kernel
theorem dX11_layPath_88 : decode cX11_layPath 88 = .ok (.iload_n 3, 1) := by decide +kernel
theorem dX11_layPath_89 : decode cX11_layPath 89 = .ok (.iadd, 1) := by decide +kernel
theorem dX11_layPath_90 : decode cX11_layPath 90 = .ok (.iaload, 1) := by decide +kernel
theorem dX11_layPath_91 : decode cX11_layPath 91 = .ok (.iadd, 1) := by decide +kernel
theorem dX11_layPath_92 : decode cX11_layPath 92 = .ok (.istore 6, 2) := by decide +kernel
theorem dX11_layPath_94 : decode cX11_layPath 94 = .ok (.iload 4, 2) := by decide +kernel
theorem dX11_layPath_96 : decode cX11_layPath 96 = .ok (.ifCond .lt 10, 3) := by decide +kernel
theorem dX11_layPath_99 : decode cX11_layPath 99 = .ok (.iload 6, 2) := by decide +kernel
theorem dX11_layPath_101 : decode cX11_layPath 101 = .ok (.iload 4, 2) := by decide +kernel
theorem dX11_layPath_103 : decode cX11_layPath 103 = .ok (.if_icmp .ge 8, 3) := by decide +kernel
theorem dX11_layPath_106 : decode cX11_layPath 106 = .ok (.iload 6, 2) := by decide +kernel
theorem dX11_layPath_108 : decode cX11_layPath 108 = .ok (.goto 5, 3) := by decide +kernel
theorem dX11_layPath_111 : decode cX11_layPath 111 = .ok (.iload 4, 2) := by decide +kernel
theorem dX11_layPath_113 : decode cX11_layPath 113 = .ok (.istore 4, 2) := by decide +kernel
theorem dX11_layPath_115 : decode cX11_layPath 115 = .ok (.iload_n 3, 1) := by decide +kernel
theorem dX11_layPath_116 : decode cX11_layPath 116 = .ok (.aload_n 0, 1) := by decide +kernel
theorem dX11_layPath_117 : decode cX11_layPath 117 = .ok (.getfield 7, 3) := by decide +kernel
theorem dX11_layPath_120 : decode cX11_layPath 120 = .ok (.if_icmp .ge 46, 3) := by decide +kernel
theorem dX11_layPath_123 : decode cX11_layPath 123 = .ok (.aload_n 0, 1) := by decide +kernel
theorem dX11_layPath_124 : decode cX11_layPath 124 = .ok (.getfield 30, 3) := by decide +kernel
theorem dX11_layPath_127 : decode cX11_layPath 127 = .ok (.iconst 1, 1) := by decide +kernel
theorem dX11_layPath_128 : decode cX11_layPath 128 = .ok (.iaload, 1) := by decide +kernel
theorem dX11_layPath_129 : decode cX11_layPath 129 = .ok (.aload_n 0, 1) := by decide +kernel
theorem dX11_layPath_130 : decode cX11_layPath 130 = .ok (.getfield 66, 3) := by decide +kernel
theorem dX11_layPath_133 : decode cX11_layPath 133 = .ok (.bipush 21, 2) := by decide +kernel
theorem dX11_layPath_135 : decode cX11_layPath 135 = .ok (.iload_n 2, 1) := by decide +kernel
theorem dX11_layPath_136 : decode cX11_layPath 136 = .ok (.imul, 1) := by decide +kernel
theorem dX11_layPath_137 : decode cX11_layPath 137 = .ok (.iload_n 3, 1) := by decide +kernel
theorem dX11_layPath_138 : decode cX11_layPath 138 = .ok (.iadd, 1) := by decide +kernel
theorem dX11_layPath_139 : decode cX11_layPath 139 = .ok (.iconst 1, 1) := by decide +kernel
theorem dX11_layPath_140 : decode cX11_layPath 140 = .ok (.iadd, 1) := by decide +kernel
theorem dX11_layPath_141 : decode cX11_layPath 141 = .ok (.iaload, 1) := by decide +kernel
theorem dX11_layPath_142 : decode cX11_layPath 142 = .ok (.iadd, 1) := by decide +kernel
theorem dX11_layPath_143 : decode cX11_layPath 143 = .ok (.istore 6, 2) := by decide +kernel
theorem dX11_layPath_145 : decode cX11_layPath 145 = .ok (.iload 4, 2) := by decide +kernel
theorem dX11_layPath_147 : decode cX11_layPath 147 = .ok (.ifCond .lt 10, 3) := by decide +kernel
theorem dX11_layPath_150 : decode cX11_layPath 150 = .ok (.iload 6, 2) := by decide +kernel
theorem dX11_layPath_152 : decode cX11_layPath 152 = .ok (.iload 4, 2) := by decide +kernel
theorem dX11_layPath_154 : decode cX11_layPath 154 = .ok (.if_icmp .ge 8, 3) := by decide +kernel
theorem dX11_layPath_157 : decode cX11_layPath 157 = .ok (.iload 6, 2) := by decide +kernel
theorem dX11_layPath_159 : decode cX11_layPath 159 = .ok (.goto 5, 3) := by decide +kernel
theorem dX11_layPath_162 : decode cX11_layPath 162 = .ok (.iload 4, 2) := by decide +kernel
theorem dX11_layPath_164 : decode cX11_layPath 164 = .ok (.istore 4, 2) := by decide +kernel
theorem dX11_layPath_166 : decode cX11_layPath 166 = .ok (.aload_n 0, 1) := by decide +kernel
theorem dX11_layPath_167 : decode cX11_layPath 167 = .ok (.getfield 66, 3) := by decide +kernel
theorem dX11_layPath_170 : decode cX11_layPath 170 = .ok (.bipush 21, 2) := by decide +kernel
theorem dX11_layPath_172 : decode cX11_layPath 172 = .ok (.iload_n 2, 1) := by decide +kernel
theorem dX11_layPath_173 : decode cX11_layPath 173 = .ok (.imul, 1) := by decide +kernel
theorem dX11_layPath_174 : decode cX11_layPath 174 = .ok (.iload_n 3, 1) := by decide +kernel
theorem dX11_layPath_175 : decode cX11_layPath 175 = .ok (.iadd, 1) := by decide +kernel
theorem dX11_layPath_176 : decode cX11_layPath 176 = .ok (.iload 4, 2) := by decide +kernel
theorem dX11_layPath_178 : decode cX11_layPath 178 = .ok (.iastore, 1) := by decide +kernel
theorem dX11_layPath_179 : decode cX11_layPath 179 = .ok (.iinc 3 (-1), 3) := by decide +kernel
theorem dX11_layPath_182 : decode cX11_layPath 182 = .ok (.goto (-168), 3) := by decide +kernel
theorem dX11_layPath_185 : decode cX11_layPath 185 = .ok (.iinc 2 (-1), 3) := by decide +kernel
theorem dX11_layPath_188 : decode cX11_layPath 188 = .ok (.goto (-183), 3) := by decide +kernel
theorem dX11_layPath_191 : decode cX11_layPath 191 = .ok (.aload_n 0, 1) := by decide +kernel
theorem dX11_layPath_192 : decode cX11_layPath 192 = .ok (.iload_n 1, 1) := by decide +kernel
theorem dX11_layPath_193 : decode cX11_layPath 193 = .ok (.invokevirtual 159, 3) := by decide +kernel
theorem dX11_layPath_196 : decode cX11_layPath 196 = .ok (.return_, 1) := by decide +kernel
theorem dX11_goPath_0 : decode cX11_goPath 0 = .ok (.iconst 0, 1) := by decide +kernel
theorem dX11_goPath_1 : decode cX11_goPath 1 = .ok (.istore_n 2, 1) := by decide +kernel
theorem dX11_goPath_2 : decode cX11_goPath 2 = .ok (.iconst 0, 1) := by decide +kernel
theorem dX11_goPath_3 : decode cX11_goPath 3 = .ok (.istore_n 3, 1) := by decide +kernel
theorem dX11_goPath_4 : decode cX11_goPath 4 = .ok (.aload_n 0, 1) := by decide +kernel
theorem dX11_goPath_5 : decode cX11_goPath 5 = .ok (.iconst 0, 1) := by decide +kernel
theorem dX11_goPath_6 : decode cX11_goPath 6 = .ok (.putfield 162, 3) := by decide +kernel
theorem dX11_goPath_9 : decode cX11_goPath 9 = .ok (.aload_n 0, 1) := by decide +kernel
theorem dX11_goPath_10 : decode cX11_goPath 10 = .ok (.iconst 0, 1) := by decide +kernel
theorem dX11_goPath_11 : decode cX11_goPath 11 = .ok (.putfield 165, 3) := by decide +kernel
theorem dX11_goPath_14 : decode cX11_goPath 14 = .ok (.iload_n 2, 1) := by decide +kernel
theorem dX11_goPath_15 : decode cX11_goPath 15 = .ok (.aload_n 0, 1) := by decide +kernel
theorem dX11_goPath_16 : decode cX11_goPath 16 = .ok (.getfield 7, 3) := by decide +kernel
theorem dX11_goPath_19 : decode cX11_goPath 19 = .ok (.if_icmp .lt 11, 3) := by decide +kernel
theorem dX11_goPath_22 : decode cX11_goPath 22 = .ok (.iload_n 3, 1) := by decide +kernel
theorem dX11_goPath_23 : decode cX11_goPath 23 = .ok (.aload_n 0, 1) := by decide +kernel
theorem dX11_goPath_24 : decode cX11_goPath 24 = .ok (.getfield 7, 3) := by decide +kernel
theorem dX11_goPath_27 : decode cX11_goPath 27 = .ok (.if_icmp .ge 119, 3) := by decide +kernel
theorem dX11_goPath_30 : decode cX11_goPath 30 = .ok (.aload_n 0, 1) := by decide +kernel
theorem dX11_goPath_31 : decode cX11_goPath 31 = .ok (.getfield 66, 3) := by decide +kernel
theorem dX11_goPath_34 : decode cX11_goPath 34 = .ok (.bipush 21, 2) := by decide +kernel
theorem dX11_goPath_36 : decode cX11_goPath 36 = .ok (.iload_n 2, 1) := by decide +kernel
theorem dX11_goPath_37 : decode cX11_goPath 37 = .ok (.imul, 1) := by decide +kernel
theorem dX11_goPath_38 : decode cX11_goPath 38 = .ok (.iload_n 3, 1) := by decide +kernel
theorem dX11_goPath_39 : decode cX11_goPath 39 = .ok (.iadd, 1) := by decide +kernel
theorem dX11_goPath_40 : decode cX11_goPath 40 = .ok (.iaload, 1) := by decide +kernel
theorem dX11_goPath_41 : decode cX11_goPath 41 = .ok (.istore 4, 2) := by decide +kernel
theorem dX11_goPath_43 : decode cX11_goPath 43 = .ok (.aload_n 0, 1) := by decide +kernel
theorem dX11_goPath_44 : decode cX11_goPath 44 = .ok (.iload_n 2, 1) := by decide +kernel
theorem dX11_goPath_45 : decode cX11_goPath 45 = .ok (.iload_n 3, 1) := by decide +kernel
theorem dX11_goPath_46 : decode cX11_goPath 46 = .ok (.iload_n 1, 1) := by decide +kernel
theorem dX11_goPath_47 : decode cX11_goPath 47 = .ok (.invokevirtual 156, 3) := by decide +kernel
theorem dX11_goPath_50 : decode cX11_goPath 50 = .ok (.iload 4, 2) := by decide +kernel
theorem dX11_goPath_52 : decode cX11_goPath 52 = .ok (.if_icmp .ne 21, 3) := by decide +kernel
theorem dX11_goPath_55 : decode cX11_goPath 55 = .ok (.aload_n 0, 1) := by decide +kernel
theorem dX11_goPath_56 : decode cX11_goPath 56 = .ok (.getfield 69, 3) := by decide +kernel
theorem dX11_goPath_59 : decode cX11_goPath 59 = .ok (.iload_n 2, 1) := by decide +kernel
theorem dX11_goPath_60 : decode cX11_goPath 60 = .ok (.iload_n 2, 1) := by decide +kernel
theorem dX11_goPath_61 : decode cX11_goPath 61 = .ok (.iload_n 3, 1) := by decide +kernel
theorem dX11_goPath_62 : decode cX11_goPath 62 = .ok (.isub, 1) := by decide +kernel
theorem dX11_goPath_63 : decode cX11_goPath 63 = .ok (.iastore, 1) := by decide +kernel
theorem dX11_goPath_64 : decode cX11_goPath 64 = .ok (.iinc 2 1, 3) := by decide +kernel
theorem dX11_goPath_67 : decode cX11_goPath 67 = .ok (.iinc 3 1, 3) := by decide +kernel
theorem dX11_goPath_70 : decode cX11_goPath 70 = .ok (.goto 73, 3) := by decide +kernel
theorem dX11_goPath_73 : decode cX11_goPath 73 = .ok (.iload_n 2, 1) := by decide +kernel
theorem dX11_goPath_74 : decode cX11_goPath 74 = .ok (.aload_n 0, 1) := by decide +kernel
theorem dX11_goPath_75 : decode cX11_goPath 75 = .ok (.getfield 7, 3) := by decide +kernel
theorem dX11_goPath_78 : decode cX11_goPath 78 = .ok (.if_icmp .ge 52, 3) := by decide +kernel
theorem dX11_goPath_81 : decode cX11_goPath 81 = .ok (.aload_n 0, 1) := by decide +kernel
theorem dX11_goPath_82 : decode cX11_goPath 82 = .ok (.getfield 30, 3) := by decide +kernel
theorem dX11_goPath_85 : decode cX11_goPath 85 = .ok (.iconst 1, 1) := by decide +kernel
theorem dX11_goPath_86 : decode cX11_goPath 86 = .ok (.iaload, 1) := by decide +kernel
theorem dX11_goPath_87 : decode cX11_goPath 87 = .ok (.aload_n 0, 1) := by decide +kernel
theorem dX11_goPath_88 : decode cX11_goPath 88 = .ok (.getfield 66, 3) := by decide +kernel
theorem dX11_goPath_91 : decode cX11_goPath 91 = .ok (.bipush 21, 2) := by decide +kernel
theorem dX11_goPath_93 : decode cX11_goPath 93 = .ok (.iload_n 2, 1) := by decide +kernel
theorem dX11_goPath_94 : decode cX11_goPath 94 = .ok (.iconst 1, 1) := by decide +kernel
theorem dX11_goPath_95 : decode cX11_goPath 95 = .ok (.iadd, 1) := by decide +kernel
theorem dX11_goPath_96 : decode cX11_goPath 96 = .ok (.imul, 1) := by decide +kernel
theorem dX11_goPath_97 : decode cX11_goPath 97 = .ok (.iload_n 3, 1) := by decide +kernel
theorem dX11_goPath_98 : decode cX11_goPath 98 = .ok (.iadd, 1) := by decide +kernel
theorem dX11_goPath_99 : decode cX11_goPath 99 = .ok (.iaload, 1) := by decide +kernel
theorem dX11_goPath_100 : decode cX11_goPath 100 = .ok (.iadd, 1) := by decide +kernel
theorem dX11_goPath_101 : decode cX11_goPath 101 = .ok (.iload 4, 2) := by decide +kernel
theorem dX11_goPath_103 : decode cX11_goPath 103 = .ok (.if_icmp .ne 27, 3) := by decide +kernel
theorem dX11_goPath_106 : decode cX11_goPath 106 = .ok (.aload_n 0, 1) := by decide +kernel
theorem dX11_goPath_107 : decode cX11_goPath 107 = .ok (.getfield 69, 3) := by decide +kernel
theorem dX11_goPath_110 : decode cX11_goPath 110 = .ok (.iload_n 2, 1) := by decide +kernel
theorem dX11_goPath_111 : decode cX11_goPath 111 = .ok (.bipush (-4), 2) := by decide +kernel
theorem dX11_goPath_113 : decode cX11_goPath 113 = .ok (.iastore, 1) := by decide +kernel
theorem dX11_goPath_114 : decode cX11_goPath 114 = .ok (.aload_n 0, 1) := by decide +kernel
theorem dX11_goPath_115 : decode cX11_goPath 115 = .ok (.dup, 1) := by decide +kernel
theorem dX11_goPath_116 : decode cX11_goPath 116 = .ok (.getfield 162, 3) := by decide +kernel
theorem dX11_goPath_119 : decode cX11_goPath 119 = .ok (.iconst 1, 1) := by decide +kernel
theorem dX11_goPath_120 : decode cX11_goPath 120 = .ok (.iadd, 1) := by decide +kernel
theorem dX11_goPath_121 : decode cX11_goPath 121 = .ok (.putfield 162, 3) := by decide +kernel
theorem dX11_goPath_124 : decode cX11_goPath 124 = .ok (.iinc 2 1, 3) := by decide +kernel
theorem dX11_goPath_127 : decode cX11_goPath 127 = .ok (.goto 16, 3) := by decide +kernel
theorem dX11_goPath_130 : decode cX11_goPath 130 = .ok (.aload_n 0, 1) := by decide +kernel
theorem dX11_goPath_131 : decode cX11_goPath 131 = .ok (.dup, 1) := by decide +kernel
theorem dX11_goPath_132 : decode cX11_goPath 132 = .ok (.getfield 165, 3) := by decide +kernel
theorem dX11_goPath_135 : decode cX11_goPath 135 = .ok (.iconst 1, 1) := by decide +kernel
theorem dX11_goPath_136 : decode cX11_goPath 136 = .ok (.iadd, 1) := by decide +kernel
theorem dX11_goPath_137 : decode cX11_goPath 137 = .ok (.putfield 165, 3) := by decide +kernel
theorem dX11_goPath_140 : decode cX11_goPath 140 = .ok (.iinc 3 1, 3) := by decide +kernel
theorem dX11_goPath_143 : decode cX11_goPath 143 = .ok (.goto (-129), 3) := by decide +kernel
theorem dX11_goPath_146 : decode cX11_goPath 146 = .ok (.return_, 1) := by decide +kernel
theorem dX11_path_0 : decode cX11_path 0 = .ok (.iload_n 1, 1) := by decide +kernel
theorem dX11_path_1 : decode cX11_path 1 = .ok (.iconst 0, 1) := by decide +kernel
theorem dX11_path_2 : decode cX11_path 2 = .ok (.aload_n 0, 1) := by decide +kernel
theorem dX11_path_3 : decode cX11_path 3 = .ok (.getfield 13, 3) := by decide +kernel
theorem dX11_path_6 : decode cX11_path 6 = .ok (.iconst 1, 1) := by decide +kernel
theorem dX11_path_7 : decode cX11_path 7 = .ok (.isub, 1) := by decide +kernel
theorem dX11_path_8 : decode cX11_path 8 = .ok (.invokestatic 80, 3) := by decide +kernel
theorem dX11_path_11 : decode cX11_path 11 = .ok (.ifCond .ne 5, 3) := by decide +kernel
theorem dX11_path_14 : decode cX11_path 14 = .ok (.iconst (-1), 1) := by decide +kernel
theorem dX11_path_15 : decode cX11_path 15 = .ok (.ireturn, 1) := by decide +kernel
theorem dX11_path_16 : decode cX11_path 16 = .ok (.aload_n 0, 1) := by decide +kernel
theorem dX11_path_17 : decode cX11_path 17 = .ok (.iload_n 1, 1) := by decide +kernel
theorem dX11_path_18 : decode cX11_path 18 = .ok (.invokevirtual 168, 3) := by decide +kernel
theorem dX11_path_21 : decode cX11_path 21 = .ok (.aload_n 0, 1) := by decide +kernel
theorem dX11_path_22 : decode cX11_path 22 = .ok (.getfield 66, 3) := by decide +kernel
theorem dX11_path_25 : decode cX11_path 25 = .ok (.iconst 0, 1) := by decide +kernel
theorem dX11_path_26 : decode cX11_path 26 = .ok (.iaload, 1) := by decide +kernel
theorem dX11_path_27 : decode cX11_path 27 = .ok (.ireturn, 1) := by decide +kernel
theorem dX11_matched_0 : decode cX11_matched 0 = .ok (.aload_n 0, 1) := by decide +kernel
theorem dX11_matched_1 : decode cX11_matched 1 = .ok (.iload_n 1, 1) := by decide +kernel
theorem dX11_matched_2 : decode cX11_matched 2 = .ok (.iload_n 2, 1) := by decide +kernel
theorem dX11_matched_3 : decode cX11_matched 3 = .ok (.invokevirtual 95, 3) := by decide +kernel
theorem dX11_matched_6 : decode cX11_matched 6 = .ok (.ifCond .ne 5, 3) := by decide +kernel
theorem dX11_matched_9 : decode cX11_matched 9 = .ok (.iconst (-1), 1) := by decide +kernel
theorem dX11_matched_10 : decode cX11_matched 10 = .ok (.ireturn, 1) := by decide +kernel
theorem dX11_matched_11 : decode cX11_matched 11 = .ok (.aload_n 0, 1) := by decide +kernel
theorem dX11_matched_12 : decode cX11_matched 12 = .ok (.iload_n 2, 1) := by decide +kernel
theorem dX11_matched_13 : decode cX11_matched 13 = .ok (.invokevirtual 168, 3) := by decide +kernel
theorem dX11_matched_16 : decode cX11_matched 16 = .ok (.aload_n 0, 1) := by decide +kernel
theorem dX11_matched_17 : decode cX11_matched 17 = .ok (.getfield 69, 3) := by decide +kernel
theorem dX11_matched_20 : decode cX11_matched 20 = .ok (.iload_n 1, 1) := by decide +kernel
theorem dX11_matched_21 : decode cX11_matched 21 = .ok (.iaload, 1) := by decide +kernel
theorem dX11_matched_22 : decode cX11_matched 22 = .ok (.ireturn, 1) := by decide +kernel
theorem dX11_hidden_0 : decode cX11_hidden 0 = .ok (.aload_n 0, 1) := by decide +kernel
theorem dX11_hidden_1 : decode cX11_hidden 1 = .ok (.iload_n 1, 1) := by decide +kernel
theorem dX11_hidden_2 : decode cX11_hidden 2 = .ok (.iload_n 2, 1) := by decide +kernel
theorem dX11_hidden_3 : decode cX11_hidden 3 = .ok (.invokevirtual 88, 3) := by decide +kernel
theorem dX11_hidden_6 : decode cX11_hidden 6 = .ok (.ifCond .ne 5, 3) := by decide +kernel
theorem dX11_hidden_9 : decode cX11_hidden 9 = .ok (.iconst (-1), 1) := by decide +kernel
theorem dX11_hidden_10 : decode cX11_hidden 10 = .ok (.ireturn, 1) := by decide +kernel
theorem dX11_hidden_11 : decode cX11_hidden 11 = .ok (.aload_n 0, 1) := by decide +kernel
theorem dX11_hidden_12 : decode cX11_hidden 12 = .ok (.iload_n 2, 1) := by decide +kernel
theorem dX11_hidden_13 : decode cX11_hidden 13 = .ok (.invokevirtual 168, 3) := by decide +kernel
theorem dX11_hidden_16 : decode cX11_hidden 16 = .ok (.iload_n 1, 1) := by decide +kernel
theorem dX11_hidden_17 : decode cX11_hidden 17 = .ok (.ifCond .ne 10, 3) := by decide +kernel
theorem dX11_hidden_20 : decode cX11_hidden 20 = .ok (.aload_n 0, 1) := by decide +kernel
theorem dX11_hidden_21 : decode cX11_hidden 21 = .ok (.getfield 162, 3) := by decide +kernel
theorem dX11_hidden_24 : decode cX11_hidden 24 = .ok (.goto 7, 3) := by decide +kernel
theorem dX11_hidden_27 : decode cX11_hidden 27 = .ok (.aload_n 0, 1) := by decide +kernel
theorem dX11_hidden_28 : decode cX11_hidden 28 = .ok (.getfield 165, 3) := by decide +kernel
theorem dX11_hidden_31 : decode cX11_hidden 31 = .ok (.ireturn, 1) := by decide +kernel
theorem dX11_run_0 : decode cX11_run 0 = .ok (.aload_n 0, 1) := by decide +kernel
theorem dX11_run_1 : decode cX11_run 1 = .ok (.iload_n 1, 1) := by decide +kernel
theorem dX11_run_2 : decode cX11_run 2 = .ok (.iload_n 2, 1) := by decide +kernel
theorem dX11_run_3 : decode cX11_run 3 = .ok (.iload_n 3, 1) := by decide +kernel
theorem dX11_run_4 : decode cX11_run 4 = .ok (.invokevirtual 153, 3) := by decide +kernel
theorem dX11_run_7 : decode cX11_run 7 = .ok (.ifCond .eq 14, 3) := by decide +kernel
theorem dX11_run_10 : decode cX11_run 10 = .ok (.iload 4, 2) := by decide +kernel
theorem dX11_run_12 : decode cX11_run 12 = .ok (.iconst 0, 1) := by decide +kernel
theorem dX11_run_13 : decode cX11_run 13 = .ok (.bipush 7, 2) := by decide +kernel
theorem dX11_run_15 : decode cX11_run 15 = .ok (.invokestatic 80, 3) := by decide +kernel
theorem dX11_run_18 : decode cX11_run 18 = .ok (.ifCond .ne 5, 3) := by decide +kernel
theorem dX11_run_21 : decode cX11_run 21 = .ok (.iconst (-1), 1) := by decide +kernel
theorem dX11_run_22 : decode cX11_run 22 = .ok (.ireturn, 1) := by decide +kernel
theorem dX11_run_23 : decode cX11_run 23 = .ok (.aload_n 0, 1) := by decide +kernel
theorem dX11_run_24 : decode cX11_run 24 = .ok (.invokevirtual 105, 3) := by decide +kernel
theorem dX11_run_27 : decode cX11_run 27 = .ok (.aload_n 0, 1) := by decide +kernel
theorem dX11_run_28 : decode cX11_run 28 = .ok (.getfield 51, 3) := by decide +kernel
theorem dX11_run_31 : decode cX11_run 31 = .ok (.sipush 1800, 3) := by decide +kernel
theorem dX11_run_34 : decode cX11_run 34 = .ok (.iload 4, 2) := by decide +kernel
theorem dX11_run_36 : decode cX11_run 36 = .ok (.imul, 1) := by decide +kernel
theorem dX11_run_37 : decode cX11_run 37 = .ok (.bipush 9, 2) := by decide +kernel
theorem dX11_run_39 : decode cX11_run 39 = .ok (.aload_n 0, 1) := by decide +kernel
theorem dX11_run_40 : decode cX11_run 40 = .ok (.getfield 7, 3) := by decide +kernel
theorem dX11_run_43 : decode cX11_run 43 = .ok (.iload_n 2, 1) := by decide +kernel
theorem dX11_run_44 : decode cX11_run 44 = .ok (.imul, 1) := by decide +kernel
theorem dX11_run_45 : decode cX11_run 45 = .ok (.iload_n 1, 1) := by decide +kernel
theorem dX11_run_46 : decode cX11_run 46 = .ok (.iadd, 1) := by decide +kernel
theorem dX11_run_47 : decode cX11_run 47 = .ok (.imul, 1) := by decide +kernel
theorem dX11_run_48 : decode cX11_run 48 = .ok (.iadd, 1) := by decide +kernel
theorem dX11_run_49 : decode cX11_run 49 = .ok (.iload_n 3, 1) := by decide +kernel
theorem dX11_run_50 : decode cX11_run 50 = .ok (.iadd, 1) := by decide +kernel
theorem dX11_run_51 : decode cX11_run 51 = .ok (.iaload, 1) := by decide +kernel
theorem dX11_run_52 : decode cX11_run 52 = .ok (.ireturn, 1) := by decide +kernel
theorem dX11_sum_0 : decode cX11_sum 0 = .ok (.aload_n 0, 1) := by decide +kernel
theorem dX11_sum_1 : decode cX11_sum 1 = .ok (.iload_n 1, 1) := by decide +kernel
theorem dX11_sum_2 : decode cX11_sum 2 = .ok (.iload_n 2, 1) := by decide +kernel
theorem dX11_sum_3 : decode cX11_sum 3 = .ok (.iload_n 3, 1) := by decide +kernel
theorem dX11_sum_4 : decode cX11_sum 4 = .ok (.invokevirtual 153, 3) := by decide +kernel
theorem dX11_sum_7 : decode cX11_sum 7 = .ok (.ifCond .ne 5, 3) := by decide +kernel
theorem dX11_sum_10 : decode cX11_sum 10 = .ok (.iconst (-1), 1) := by decide +kernel
theorem dX11_sum_11 : decode cX11_sum 11 = .ok (.ireturn, 1) := by decide +kernel
theorem dX11_sum_12 : decode cX11_sum 12 = .ok (.aload_n 0, 1) := by decide +kernel
theorem dX11_sum_13 : decode cX11_sum 13 = .ok (.invokevirtual 105, 3) := by decide +kernel
theorem dX11_sum_16 : decode cX11_sum 16 = .ok (.aload_n 0, 1) := by decide +kernel
theorem dX11_sum_17 : decode cX11_sum 17 = .ok (.getfield 54, 3) := by decide +kernel
theorem dX11_sum_20 : decode cX11_sum 20 = .ok (.bipush 9, 2) := by decide +kernel
theorem dX11_sum_22 : decode cX11_sum 22 = .ok (.aload_n 0, 1) := by decide +kernel
theorem dX11_sum_23 : decode cX11_sum 23 = .ok (.getfield 7, 3) := by decide +kernel
theorem dX11_sum_26 : decode cX11_sum 26 = .ok (.iload_n 2, 1) := by decide +kernel
theorem dX11_sum_27 : decode cX11_sum 27 = .ok (.imul, 1) := by decide +kernel
theorem dX11_sum_28 : decode cX11_sum 28 = .ok (.iload_n 1, 1) := by decide +kernel
theorem dX11_sum_29 : decode cX11_sum 29 = .ok (.iadd, 1) := by decide +kernel
theorem dX11_sum_30 : decode cX11_sum 30 = .ok (.imul, 1) := by decide +kernel
theorem dX11_sum_31 : decode cX11_sum 31 = .ok (.iload_n 3, 1) := by decide +kernel
theorem dX11_sum_32 : decode cX11_sum 32 = .ok (.iadd, 1) := by decide +kernel
theorem dX11_sum_33 : decode cX11_sum 33 = .ok (.iaload, 1) := by decide +kernel
theorem dX11_sum_34 : decode cX11_sum 34 = .ok (.ireturn, 1) := by decide +kernel
theorem dX11_depth_0 : decode cX11_depth 0 = .ok (.iload_n 1, 1) := by decide +kernel
theorem dX11_depth_1 : decode cX11_depth 1 = .ok (.iconst 0, 1) := by decide +kernel
theorem dX11_depth_2 : decode cX11_depth 2 = .ok (.iconst 1, 1) := by decide +kernel
theorem dX11_depth_3 : decode cX11_depth 3 = .ok (.invokestatic 80, 3) := by decide +kernel
theorem dX11_depth_6 : decode cX11_depth 6 = .ok (.ifCond .eq 12, 3) := by decide +kernel
theorem dX11_depth_9 : decode cX11_depth 9 = .ok (.aload_n 0, 1) := by decide +kernel
theorem dX11_depth_10 : decode cX11_depth 10 = .ok (.iload_n 2, 1) := by decide +kernel
theorem dX11_depth_11 : decode cX11_depth 11 = .ok (.iload_n 3, 1) := by decide +kernel
theorem dX11_depth_12 : decode cX11_depth 12 = .ok (.invokevirtual 95, 3) := by decide +kernel
theorem dX11_depth_15 : decode cX11_depth 15 = .ok (.ifCond .ne 5, 3) := by decide +kernel
theorem dX11_depth_18 : decode cX11_depth 18 = .ok (.iconst (-1), 1) := by decide +kernel
theorem dX11_depth_19 : decode cX11_depth 19 = .ok (.ireturn, 1) := by decide +kernel
theorem dX11_depth_20 : decode cX11_depth 20 = .ok (.aload_n 0, 1) := by decide +kernel
theorem dX11_depth_21 : decode cX11_depth 21 = .ok (.invokevirtual 105, 3) := by decide +kernel
theorem dX11_depth_24 : decode cX11_depth 24 = .ok (.iload_n 1, 1) := by decide +kernel
theorem dX11_depth_25 : decode cX11_depth 25 = .ok (.ifCond .ne 19, 3) := by decide +kernel
theorem dX11_depth_28 : decode cX11_depth 28 = .ok (.aload_n 0, 1) := by decide +kernel
theorem dX11_depth_29 : decode cX11_depth 29 = .ok (.getfield 57, 3) := by decide +kernel
theorem dX11_depth_32 : decode cX11_depth 32 = .ok (.aload_n 0, 1) := by decide +kernel
theorem dX11_depth_33 : decode cX11_depth 33 = .ok (.getfield 7, 3) := by decide +kernel
theorem dX11_depth_36 : decode cX11_depth 36 = .ok (.iload_n 3, 1) := by decide +kernel
theorem dX11_depth_37 : decode cX11_depth 37 = .ok (.imul, 1) := by decide +kernel
theorem dX11_depth_38 : decode cX11_depth 38 = .ok (.iload_n 2, 1) := by decide +kernel
theorem dX11_depth_39 : decode cX11_depth 39 = .ok (.iadd, 1) := by decide +kernel
theorem dX11_depth_40 : decode cX11_depth 40 = .ok (.iaload, 1) := by decide +kernel
theorem dX11_depth_41 : decode cX11_depth 41 = .ok (.goto 16, 3) := by decide +kernel
theorem dX11_depth_44 : decode cX11_depth 44 = .ok (.aload_n 0, 1) := by decide +kernel
theorem dX11_depth_45 : decode cX11_depth 45 = .ok (.getfield 60, 3) := by decide +kernel
theorem dX11_depth_48 : decode cX11_depth 48 = .ok (.aload_n 0, 1) := by decide +kernel
theorem dX11_depth_49 : decode cX11_depth 49 = .ok (.getfield 7, 3) := by decide +kernel
theorem dX11_depth_52 : decode cX11_depth 52 = .ok (.iload_n 3, 1) := by decide +kernel
theorem dX11_depth_53 : decode cX11_depth 53 = .ok (.imul, 1) := by decide +kernel
theorem dX11_depth_54 : decode cX11_depth 54 = .ok (.iload_n 2, 1) := by decide +kernel
theorem dX11_depth_55 : decode cX11_depth 55 = .ok (.iadd, 1) := by decide +kernel
theorem dX11_depth_56 : decode cX11_depth 56 = .ok (.iaload, 1) := by decide +kernel
theorem dX11_depth_57 : decode cX11_depth 57 = .ok (.ireturn, 1) := by decide +kernel
theorem dX11_agreed_0 : decode cX11_agreed 0 = .ok (.aload_n 0, 1) := by decide +kernel
theorem dX11_agreed_1 : decode cX11_agreed 1 = .ok (.iload_n 1, 1) := by decide +kernel
theorem dX11_agreed_2 : decode cX11_agreed 2 = .ok (.iload_n 2, 1) := by decide +kernel
theorem dX11_agreed_3 : decode cX11_agreed 3 = .ok (.invokevirtual 95, 3) := by decide +kernel
theorem dX11_agreed_6 : decode cX11_agreed 6 = .ok (.ifCond .ne 5, 3) := by decide +kernel
theorem dX11_agreed_9 : decode cX11_agreed 9 = .ok (.iconst (-1), 1) := by decide +kernel
theorem dX11_agreed_10 : decode cX11_agreed 10 = .ok (.ireturn, 1) := by decide +kernel
theorem dX11_agreed_11 : decode cX11_agreed 11 = .ok (.aload_n 0, 1) := by decide +kernel
theorem dX11_agreed_12 : decode cX11_agreed 12 = .ok (.invokevirtual 105, 3) := by decide +kernel
theorem dX11_agreed_15 : decode cX11_agreed 15 = .ok (.aload_n 0, 1) := by decide +kernel
theorem dX11_agreed_16 : decode cX11_agreed 16 = .ok (.iload_n 1, 1) := by decide +kernel
theorem dX11_agreed_17 : decode cX11_agreed 17 = .ok (.iload_n 2, 1) := by decide +kernel
theorem dX11_agreed_18 : decode cX11_agreed 18 = .ok (.invokevirtual 101, 3) := by decide +kernel
theorem dX11_agreed_21 : decode cX11_agreed 21 = .ok (.ireturn, 1) := by decide +kernel
theorem dX11_hang_0 : decode cX11_hang 0 = .ok (.aload_n 0, 1) := by decide +kernel
theorem dX11_hang_1 : decode cX11_hang 1 = .ok (.getfield 16, 3) := by decide +kernel
theorem dX11_hang_4 : decode cX11_hang 4 = .ok (.iload_n 1, 1) := by decide +kernel
theorem dX11_hang_5 : decode cX11_hang 5 = .ok (.iaload, 1) := by decide +kernel
theorem dX11_hang_6 : decode cX11_hang 6 = .ok (.aload_n 0, 1) := by decide +kernel
theorem dX11_hang_7 : decode cX11_hang 7 = .ok (.getfield 16, 3) := by decide +kernel
theorem dX11_hang_10 : decode cX11_hang 10 = .ok (.iload_n 2, 1) := by decide +kernel
theorem dX11_hang_11 : decode cX11_hang 11 = .ok (.iaload, 1) := by decide +kernel
theorem dX11_hang_12 : decode cX11_hang 12 = .ok (.isub, 1) := by decide +kernel
theorem dX11_hang_13 : decode cX11_hang 13 = .ok (.istore_n 3, 1) := by decide +kernel
theorem dX11_hang_14 : decode cX11_hang 14 = .ok (.aload_n 0, 1) := by decide +kernel
theorem dX11_hang_15 : decode cX11_hang 15 = .ok (.getfield 63, 3) := by decide +kernel
theorem dX11_hang_18 : decode cX11_hang 18 = .ok (.iload_n 1, 1) := by decide +kernel
theorem dX11_hang_19 : decode cX11_hang 19 = .ok (.iaload, 1) := by decide +kernel
theorem dX11_hang_20 : decode cX11_hang 20 = .ok (.ifCond .lt 37, 3) := by decide +kernel
theorem dX11_hang_23 : decode cX11_hang 23 = .ok (.aload_n 0, 1) := by decide +kernel
theorem dX11_hang_24 : decode cX11_hang 24 = .ok (.getfield 63, 3) := by decide +kernel
theorem dX11_hang_27 : decode cX11_hang 27 = .ok (.iload_n 2, 1) := by decide +kernel
theorem dX11_hang_28 : decode cX11_hang 28 = .ok (.iaload, 1) := by decide +kernel
theorem dX11_hang_29 : decode cX11_hang 29 = .ok (.ifCond .lt 28, 3) := by decide +kernel
theorem dX11_hang_32 : decode cX11_hang 32 = .ok (.iload_n 3, 1) := by decide +kernel
theorem dX11_hang_33 : decode cX11_hang 33 = .ok (.aload_n 0, 1) := by decide +kernel
theorem dX11_hang_34 : decode cX11_hang 34 = .ok (.getfield 30, 3) := by decide +kernel
theorem dX11_hang_37 : decode cX11_hang 37 = .ok (.iconst 4, 1) := by decide +kernel
theorem dX11_hang_38 : decode cX11_hang 38 = .ok (.iaload, 1) := by decide +kernel
theorem dX11_hang_39 : decode cX11_hang 39 = .ok (.if_icmp .gt 18, 3) := by decide +kernel
theorem dX11_hang_42 : decode cX11_hang 42 = .ok (.iload_n 3, 1) := by decide +kernel
theorem dX11_hang_43 : decode cX11_hang 43 = .ok (.ineg, 1) := by decide +kernel
theorem dX11_hang_44 : decode cX11_hang 44 = .ok (.aload_n 0, 1) := by decide +kernel
theorem dX11_hang_45 : decode cX11_hang 45 = .ok (.getfield 30, 3) := by decide +kernel
theorem dX11_hang_48 : decode cX11_hang 48 = .ok (.iconst 4, 1) := by decide +kernel
theorem dX11_hang_49 : decode cX11_hang 49 = .ok (.iaload, 1) := by decide +kernel
theorem dX11_hang_50 : decode cX11_hang 50 = .ok (.if_icmp .gt 7, 3) := by decide +kernel
theorem dX11_hang_53 : decode cX11_hang 53 = .ok (.iconst 1, 1) := by decide +kernel
theorem dX11_hang_54 : decode cX11_hang 54 = .ok (.goto 4, 3) := by decide +kernel
theorem dX11_hang_57 : decode cX11_hang 57 = .ok (.iconst 0, 1) := by decide +kernel
theorem dX11_hang_58 : decode cX11_hang 58 = .ok (.ireturn, 1) := by decide +kernel
theorem dX11_bringTogether_0 : decode cX11_bringTogether 0 = .ok (.aload_n 0, 1) := by decide +kernel
theorem dX11_bringTogether_1 : decode cX11_bringTogether 1 = .ok (.iload_n 1, 1) := by decide +kernel
theorem dX11_bringTogether_2 : decode cX11_bringTogether 2 = .ok (.iload_n 2, 1) := by decide +kernel
theorem dX11_bringTogether_3 : decode cX11_bringTogether 3 = .ok (.invokevirtual 171, 3) := by decide +kernel
theorem dX11_bringTogether_6 : decode cX11_bringTogether 6 = .ok (.ifCond .eq 18, 3) := by decide +kernel
theorem dX11_bringTogether_9 : decode cX11_bringTogether 9 = .ok (.aload_n 0, 1) := by decide +kernel
theorem dX11_bringTogether_10 : decode cX11_bringTogether 10 = .ok (.getfield 63, 3) := by decide +kernel
theorem dX11_bringTogether_13 : decode cX11_bringTogether 13 = .ok (.iload_n 1, 1) := by decide +kernel
theorem dX11_bringTogether_14 : decode cX11_bringTogether 14 = .ok (.iaload, 1) := by decide +kernel
theorem dX11_bringTogether_15 : decode cX11_bringTogether 15 = .ok (.aload_n 0, 1) := by decide +kernel
theorem dX11_bringTogether_16 : decode cX11_bringTogether 16 = .ok (.getfield 63, 3) := by decide +kernel
theorem dX11_bringTogether_19 : decode cX11_bringTogether 19 = .ok (.iload_n 2, 1) := by decide +kernel
theorem dX11_bringTogether_20 : decode cX11_bringTogether 20 = .ok (.iaload, 1) := by decide +kernel
theorem dX11_bringTogether_21 : decode cX11_bringTogether 21 = .ok (.if_icmp .ne 5, 3) := by decide +kernel
theorem dX11_bringTogether_24 : decode cX11_bringTogether 24 = .ok (.iconst 0, 1) := by decide +kernel
theorem dX11_bringTogether_25 : decode cX11_bringTogether 25 = .ok (.ireturn, 1) := by decide +kernel
theorem dX11_bringTogether_26 : decode cX11_bringTogether 26 = .ok (.aload_n 0, 1) := by decide +kernel
theorem dX11_bringTogether_27 : decode cX11_bringTogether 27 = .ok (.getfield 63, 3) := by decide +kernel
theorem dX11_bringTogether_30 : decode cX11_bringTogether 30 = .ok (.iload_n 1, 1) := by decide +kernel
theorem dX11_bringTogether_31 : decode cX11_bringTogether 31 = .ok (.iaload, 1) := by decide +kernel
theorem dX11_bringTogether_32 : decode cX11_bringTogether 32 = .ok (.aload_n 0, 1) := by decide +kernel
theorem dX11_bringTogether_33 : decode cX11_bringTogether 33 = .ok (.getfield 63, 3) := by decide +kernel
theorem dX11_bringTogether_36 : decode cX11_bringTogether 36 = .ok (.iload_n 2, 1) := by decide +kernel
theorem dX11_bringTogether_37 : decode cX11_bringTogether 37 = .ok (.iaload, 1) := by decide +kernel
theorem dX11_bringTogether_38 : decode cX11_bringTogether 38 = .ok (.if_icmp .ge 12, 3) := by decide +kernel
theorem dX11_bringTogether_41 : decode cX11_bringTogether 41 = .ok (.aload_n 0, 1) := by decide +kernel
theorem dX11_bringTogether_42 : decode cX11_bringTogether 42 = .ok (.getfield 63, 3) := by decide +kernel
theorem dX11_bringTogether_45 : decode cX11_bringTogether 45 = .ok (.iload_n 1, 1) := by decide +kernel
theorem dX11_bringTogether_46 : decode cX11_bringTogether 46 = .ok (.iaload, 1) := by decide +kernel
theorem dX11_bringTogether_47 : decode cX11_bringTogether 47 = .ok (.goto 9, 3) := by decide +kernel
theorem dX11_bringTogether_50 : decode cX11_bringTogether 50 = .ok (.aload_n 0, 1) := by decide +kernel
theorem dX11_bringTogether_51 : decode cX11_bringTogether 51 = .ok (.getfield 63, 3) := by decide +kernel
theorem dX11_bringTogether_54 : decode cX11_bringTogether 54 = .ok (.iload_n 2, 1) := by decide +kernel
theorem dX11_bringTogether_55 : decode cX11_bringTogether 55 = .ok (.iaload, 1) := by decide +kernel
theorem dX11_bringTogether_56 : decode cX11_bringTogether 56 = .ok (.istore_n 3, 1) := by decide +kernel
theorem dX11_bringTogether_57 : decode cX11_bringTogether 57 = .ok (.aload_n 0, 1) := by decide +kernel
theorem dX11_bringTogether_58 : decode cX11_bringTogether 58 = .ok (.getfield 63, 3) := by decide +kernel
theorem dX11_bringTogether_61 : decode cX11_bringTogether 61 = .ok (.iload_n 1, 1) := by decide +kernel
theorem dX11_bringTogether_62 : decode cX11_bringTogether 62 = .ok (.iload_n 3, 1) := by decide +kernel
theorem dX11_bringTogether_63 : decode cX11_bringTogether 63 = .ok (.iastore, 1) := by decide +kernel
theorem dX11_bringTogether_64 : decode cX11_bringTogether 64 = .ok (.aload_n 0, 1) := by decide +kernel
theorem dX11_bringTogether_65 : decode cX11_bringTogether 65 = .ok (.getfield 63, 3) := by decide +kernel
theorem dX11_bringTogether_68 : decode cX11_bringTogether 68 = .ok (.iload_n 2, 1) := by decide +kernel
theorem dX11_bringTogether_69 : decode cX11_bringTogether 69 = .ok (.iload_n 3, 1) := by decide +kernel
theorem dX11_bringTogether_70 : decode cX11_bringTogether 70 = .ok (.iastore, 1) := by decide +kernel
theorem dX11_bringTogether_71 : decode cX11_bringTogether 71 = .ok (.iconst 1, 1) := by decide +kernel
theorem dX11_bringTogether_72 : decode cX11_bringTogether 72 = .ok (.ireturn, 1) := by decide +kernel
theorem dX11_layAnchors_0 : decode cX11_layAnchors 0 = .ok (.aload_n 0, 1) := by decide +kernel
theorem dX11_layAnchors_1 : decode cX11_layAnchors 1 = .ok (.getfield 7, 3) := by decide +kernel
theorem dX11_layAnchors_4 : decode cX11_layAnchors 4 = .ok (.aload_n 0, 1) := by decide +kernel
theorem dX11_layAnchors_5 : decode cX11_layAnchors 5 = .ok (.getfield 13, 3) := by decide +kernel
theorem dX11_layAnchors_8 : decode cX11_layAnchors 8 = .ok (.imul, 1) := by decide +kernel
theorem dX11_layAnchors_9 : decode cX11_layAnchors 9 = .ok (.istore_n 1, 1) := by decide +kernel
theorem dX11_layAnchors_10 : decode cX11_layAnchors 10 = .ok (.iconst 0, 1) := by decide +kernel
theorem dX11_layAnchors_11 : decode cX11_layAnchors 11 = .ok (.istore_n 2, 1) := by decide +kernel
theorem dX11_layAnchors_12 : decode cX11_layAnchors 12 = .ok (.iload_n 2, 1) := by decide +kernel
theorem dX11_layAnchors_13 : decode cX11_layAnchors 13 = .ok (.iload_n 1, 1) := by decide +kernel
theorem dX11_layAnchors_14 : decode cX11_layAnchors 14 = .ok (.if_icmp .ge 40, 3) := by decide +kernel
theorem dX11_layAnchors_17 : decode cX11_layAnchors 17 = .ok (.aload_n 0, 1) := by decide +kernel
theorem dX11_layAnchors_18 : decode cX11_layAnchors 18 = .ok (.getfield 63, 3) := by decide +kernel
theorem dX11_layAnchors_21 : decode cX11_layAnchors 21 = .ok (.iload_n 2, 1) := by decide +kernel
theorem dX11_layAnchors_22 : decode cX11_layAnchors 22 = .ok (.aload_n 0, 1) := by decide +kernel
theorem dX11_layAnchors_23 : decode cX11_layAnchors 23 = .ok (.iconst 0, 1) := by decide +kernel
theorem dX11_layAnchors_24 : decode cX11_layAnchors 24 = .ok (.iload_n 2, 1) := by decide +kernel
theorem dX11_layAnchors_25 : decode cX11_layAnchors 25 = .ok (.aload_n 0, 1) := by decide +kernel
theorem dX11_layAnchors_26 : decode cX11_layAnchors 26 = .ok (.getfield 7, 3) := by decide +kernel
theorem dX11_layAnchors_29 : decode cX11_layAnchors 29 = .ok (.irem, 1) := by decide +kernel
theorem dX11_layAnchors_30 : decode cX11_layAnchors 30 = .ok (.iload_n 2, 1) := by decide +kernel
theorem dX11_layAnchors_31 : decode cX11_layAnchors 31 = .ok (.aload_n 0, 1) := by decide +kernel
theorem dX11_layAnchors_32 : decode cX11_layAnchors 32 = .ok (.getfield 7, 3) := by decide +kernel
theorem dX11_layAnchors_35 : decode cX11_layAnchors 35 = .ok (.idiv, 1) := by decide +kernel
theorem dX11_layAnchors_36 : decode cX11_layAnchors 36 = .ok (.invokevirtual 98, 3) := by decide +kernel
theorem dX11_layAnchors_39 : decode cX11_layAnchors 39 = .ok (.ifCond .eq 7, 3) := by decide +kernel
theorem dX11_layAnchors_42 : decode cX11_layAnchors 42 = .ok (.iconst (-1), 1) := by decide +kernel
theorem dX11_layAnchors_43 : decode cX11_layAnchors 43 = .ok (.goto 4, 3) := by decide +kernel
theorem dX11_layAnchors_46 : decode cX11_layAnchors 46 = .ok (.iload_n 2, 1) := by decide +kernel
theorem dX11_layAnchors_47 : decode cX11_layAnchors 47 = .ok (.iastore, 1) := by decide +kernel
theorem dX11_layAnchors_48 : decode cX11_layAnchors 48 = .ok (.iinc 2 1, 3) := by decide +kernel
theorem dX11_layAnchors_51 : decode cX11_layAnchors 51 = .ok (.goto (-39), 3) := by decide +kernel
theorem dX11_layAnchors_54 : decode cX11_layAnchors 54 = .ok (.iconst 1, 1) := by decide +kernel
theorem dX11_layAnchors_55 : decode cX11_layAnchors 55 = .ok (.istore_n 2, 1) := by decide +kernel
theorem dX11_layAnchors_56 : decode cX11_layAnchors 56 = .ok (.iload_n 2, 1) := by decide +kernel
theorem dX11_layAnchors_57 : decode cX11_layAnchors 57 = .ok (.ifCond .eq 75, 3) := by decide +kernel
theorem dX11_layAnchors_60 : decode cX11_layAnchors 60 = .ok (.iconst 0, 1) := by decide +kernel
theorem dX11_layAnchors_61 : decode cX11_layAnchors 61 = .ok (.istore_n 2, 1) := by decide +kernel
theorem dX11_layAnchors_62 : decode cX11_layAnchors 62 = .ok (.iconst 0, 1) := by decide +kernel
theorem dX11_layAnchors_63 : decode cX11_layAnchors 63 = .ok (.istore_n 3, 1) := by decide +kernel
theorem dX11_layAnchors_64 : decode cX11_layAnchors 64 = .ok (.iload_n 3, 1) := by decide +kernel
theorem dX11_layAnchors_65 : decode cX11_layAnchors 65 = .ok (.iload_n 1, 1) := by decide +kernel
theorem dX11_layAnchors_66 : decode cX11_layAnchors 66 = .ok (.if_icmp .ge 63, 3) := by decide +kernel
theorem dX11_layAnchors_69 : decode cX11_layAnchors 69 = .ok (.iload_n 3, 1) := by decide +kernel
theorem dX11_layAnchors_70 : decode cX11_layAnchors 70 = .ok (.aload_n 0, 1) := by decide +kernel
theorem dX11_layAnchors_71 : decode cX11_layAnchors 71 = .ok (.getfield 7, 3) := by decide +kernel
theorem dX11_layAnchors_74 : decode cX11_layAnchors 74 = .ok (.irem, 1) := by decide +kernel
theorem dX11_layAnchors_75 : decode cX11_layAnchors 75 = .ok (.iconst 1, 1) := by decide +kernel
theorem dX11_layAnchors_76 : decode cX11_layAnchors 76 = .ok (.iadd, 1) := by decide +kernel
theorem dX11_layAnchors_77 : decode cX11_layAnchors 77 = .ok (.aload_n 0, 1) := by decide +kernel
theorem dX11_layAnchors_78 : decode cX11_layAnchors 78 = .ok (.getfield 7, 3) := by decide +kernel
theorem dX11_layAnchors_81 : decode cX11_layAnchors 81 = .ok (.if_icmp .ge 16, 3) := by decide +kernel
theorem dX11_layAnchors_84 : decode cX11_layAnchors 84 = .ok (.aload_n 0, 1) := by decide +kernel
theorem dX11_layAnchors_85 : decode cX11_layAnchors 85 = .ok (.iload_n 3, 1) := by decide +kernel
theorem dX11_layAnchors_86 : decode cX11_layAnchors 86 = .ok (.iload_n 3, 1) := by decide +kernel
theorem dX11_layAnchors_87 : decode cX11_layAnchors 87 = .ok (.iconst 1, 1) := by decide +kernel
theorem dX11_layAnchors_88 : decode cX11_layAnchors 88 = .ok (.iadd, 1) := by decide +kernel
theorem dX11_layAnchors_89 : decode cX11_layAnchors 89 = .ok (.invokevirtual 174, 3) := by decide +kernel
theorem dX11_layAnchors_92 : decode cX11_layAnchors 92 = .ok (.ifCond .eq 5, 3) := by decide +kernel
theorem dX11_layAnchors_95 : decode cX11_layAnchors 95 = .ok (.iconst 1, 1) := by decide +kernel
theorem dX11_layAnchors_96 : decode cX11_layAnchors 96 = .ok (.istore_n 2, 1) := by decide +kernel
theorem dX11_layAnchors_97 : decode cX11_layAnchors 97 = .ok (.iload_n 3, 1) := by decide +kernel
theorem dX11_layAnchors_98 : decode cX11_layAnchors 98 = .ok (.aload_n 0, 1) := by decide +kernel
theorem dX11_layAnchors_99 : decode cX11_layAnchors 99 = .ok (.getfield 7, 3) := by decide +kernel
theorem dX11_layAnchors_102 : decode cX11_layAnchors 102 = .ok (.iadd, 1) := by decide +kernel
theorem dX11_layAnchors_103 : decode cX11_layAnchors 103 = .ok (.iload_n 1, 1) := by decide +kernel
theorem dX11_layAnchors_104 : decode cX11_layAnchors 104 = .ok (.if_icmp .ge 19, 3) := by decide +kernel
theorem dX11_layAnchors_107 : decode cX11_layAnchors 107 = .ok (.aload_n 0, 1) := by decide +kernel
theorem dX11_layAnchors_108 : decode cX11_layAnchors 108 = .ok (.iload_n 3, 1) := by decide +kernel
theorem dX11_layAnchors_109 : decode cX11_layAnchors 109 = .ok (.iload_n 3, 1) := by decide +kernel
theorem dX11_layAnchors_110 : decode cX11_layAnchors 110 = .ok (.aload_n 0, 1) := by decide +kernel
theorem dX11_layAnchors_111 : decode cX11_layAnchors 111 = .ok (.getfield 7, 3) := by decide +kernel
theorem dX11_layAnchors_114 : decode cX11_layAnchors 114 = .ok (.iadd, 1) := by decide +kernel
theorem dX11_layAnchors_115 : decode cX11_layAnchors 115 = .ok (.invokevirtual 174, 3) := by decide +kernel
theorem dX11_layAnchors_118 : decode cX11_layAnchors 118 = .ok (.ifCond .eq 5, 3) := by decide +kernel
theorem dX11_layAnchors_121 : decode cX11_layAnchors 121 = .ok (.iconst 1, 1) := by decide +kernel
theorem dX11_layAnchors_122 : decode cX11_layAnchors 122 = .ok (.istore_n 2, 1) := by decide +kernel
theorem dX11_layAnchors_123 : decode cX11_layAnchors 123 = .ok (.iinc 3 1, 3) := by decide +kernel
theorem dX11_layAnchors_126 : decode cX11_layAnchors 126 = .ok (.goto (-62), 3) := by decide +kernel
theorem dX11_layAnchors_129 : decode cX11_layAnchors 129 = .ok (.goto (-73), 3) := by decide +kernel
theorem dX11_layAnchors_132 : decode cX11_layAnchors 132 = .ok (.return_, 1) := by decide +kernel
theorem dX11_segment_0 : decode cX11_segment 0 = .ok (.aload_n 0, 1) := by decide +kernel
theorem dX11_segment_1 : decode cX11_segment 1 = .ok (.iload_n 1, 1) := by decide +kernel
theorem dX11_segment_2 : decode cX11_segment 2 = .ok (.iload_n 2, 1) := by decide +kernel
theorem dX11_segment_3 : decode cX11_segment 3 = .ok (.invokevirtual 95, 3) := by decide +kernel
theorem dX11_segment_6 : decode cX11_segment 6 = .ok (.ifCond .ne 5, 3) := by decide +kernel
theorem dX11_segment_9 : decode cX11_segment 9 = .ok (.iconst (-1), 1) := by decide +kernel
theorem dX11_segment_10 : decode cX11_segment 10 = .ok (.ireturn, 1) := by decide +kernel
theorem dX11_segment_11 : decode cX11_segment 11 = .ok (.aload_n 0, 1) := by decide +kernel
theorem dX11_segment_12 : decode cX11_segment 12 = .ok (.invokevirtual 105, 3) := by decide +kernel
theorem dX11_segment_15 : decode cX11_segment 15 = .ok (.aload_n 0, 1) := by decide +kernel
theorem dX11_segment_16 : decode cX11_segment 16 = .ok (.getfield 63, 3) := by decide +kernel
theorem dX11_segment_19 : decode cX11_segment 19 = .ok (.aload_n 0, 1) := by decide +kernel
theorem dX11_segment_20 : decode cX11_segment 20 = .ok (.getfield 7, 3) := by decide +kernel
theorem dX11_segment_23 : decode cX11_segment 23 = .ok (.iload_n 2, 1) := by decide +kernel
theorem dX11_segment_24 : decode cX11_segment 24 = .ok (.imul, 1) := by decide +kernel
theorem dX11_segment_25 : decode cX11_segment 25 = .ok (.iload_n 1, 1) := by decide +kernel
theorem dX11_segment_26 : decode cX11_segment 26 = .ok (.iadd, 1) := by decide +kernel
theorem dX11_segment_27 : decode cX11_segment 27 = .ok (.iaload, 1) := by decide +kernel
theorem dX11_segment_28 : decode cX11_segment 28 = .ok (.istore_n 3, 1) := by decide +kernel
theorem dX11_segment_29 : decode cX11_segment 29 = .ok (.iload_n 3, 1) := by decide +kernel
theorem dX11_segment_30 : decode cX11_segment 30 = .ok (.ifCond .ge 8, 3) := by decide +kernel
theorem dX11_segment_33 : decode cX11_segment 33 = .ok (.bipush (-5), 2) := by decide +kernel
theorem dX11_segment_35 : decode cX11_segment 35 = .ok (.goto 4, 3) := by decide +kernel
theorem dX11_segment_38 : decode cX11_segment 38 = .ok (.iload_n 3, 1) := by decide +kernel
theorem dX11_segment_39 : decode cX11_segment 39 = .ok (.ireturn, 1) := by decide +kernel
theorem dX11_extent_0 : decode cX11_extent 0 = .ok (.aload_n 0, 1) := by decide +kernel
theorem dX11_extent_1 : decode cX11_extent 1 = .ok (.iload_n 1, 1) := by decide +kernel
theorem dX11_extent_2 : decode cX11_extent 2 = .ok (.iload_n 2, 1) := by decide +kernel
theorem dX11_extent_3 : decode cX11_extent 3 = .ok (.invokevirtual 177, 3) := by decide +kernel
theorem dX11_extent_6 : decode cX11_extent 6 = .ok (.istore_n 3, 1) := by decide +kernel
theorem dX11_extent_7 : decode cX11_extent 7 = .ok (.iload_n 3, 1) := by decide +kernel
theorem dX11_extent_8 : decode cX11_extent 8 = .ok (.ifCond .ge 5, 3) := by decide +kernel
theorem dX11_extent_11 : decode cX11_extent 11 = .ok (.iload_n 3, 1) := by decide +kernel
theorem dX11_extent_12 : decode cX11_extent 12 = .ok (.ireturn, 1) := by decide +kernel
theorem dX11_extent_13 : decode cX11_extent 13 = .ok (.iconst 0, 1) := by decide +kernel
theorem dX11_extent_14 : decode cX11_extent 14 = .ok (.istore 4, 2) := by decide +kernel
theorem dX11_extent_16 : decode cX11_extent 16 = .ok (.iconst 0, 1) := by decide +kernel
theorem dX11_extent_17 : decode cX11_extent 17 = .ok (.istore 5, 2) := by decide +kernel
theorem dX11_extent_19 : decode cX11_extent 19 = .ok (.iload 5, 2) := by decide +kernel
theorem dX11_extent_21 : decode cX11_extent 21 = .ok (.aload_n 0, 1) := by decide +kernel
theorem dX11_extent_22 : decode cX11_extent 22 = .ok (.getfield 7, 3) := by decide +kernel
theorem dX11_extent_25 : decode cX11_extent 25 = .ok (.aload_n 0, 1) := by decide +kernel
theorem dX11_extent_26 : decode cX11_extent 26 = .ok (.getfield 13, 3) := by decide +kernel
theorem dX11_extent_29 : decode cX11_extent 29 = .ok (.imul, 1) := by decide +kernel
theorem dX11_extent_30 : decode cX11_extent 30 = .ok (.if_icmp .ge 30, 3) := by decide +kernel
theorem dX11_extent_33 : decode cX11_extent 33 = .ok (.iload 4, 2) := by decide +kernel
theorem dX11_extent_35 : decode cX11_extent 35 = .ok (.aload_n 0, 1) := by decide +kernel
theorem dX11_extent_36 : decode cX11_extent 36 = .ok (.getfield 63, 3) := by decide +kernel
theorem dX11_extent_39 : decode cX11_extent 39 = .ok (.iload 5, 2) := by decide +kernel
theorem dX11_extent_41 : decode cX11_extent 41 = .ok (.iaload, 1) := by decide +kernel
theorem dX11_extent_42 : decode cX11_extent 42 = .ok (.iload_n 3, 1) := by decide +kernel
theorem dX11_extent_43 : decode cX11_extent 43 = .ok (.if_icmp .ne 7, 3) := by decide +kernel
theorem dX11_extent_46 : decode cX11_extent 46 = .ok (.iconst 1, 1) := by decide +kernel
theorem dX11_extent_47 : decode cX11_extent 47 = .ok (.goto 4, 3) := by decide +kernel
theorem dX11_extent_50 : decode cX11_extent 50 = .ok (.iconst 0, 1) := by decide +kernel
theorem dX11_extent_51 : decode cX11_extent 51 = .ok (.iadd, 1) := by decide +kernel
theorem dX11_extent_52 : decode cX11_extent 52 = .ok (.istore 4, 2) := by decide +kernel
theorem dX11_extent_54 : decode cX11_extent 54 = .ok (.iinc 5 1, 3) := by decide +kernel
theorem dX11_extent_57 : decode cX11_extent 57 = .ok (.goto (-38), 3) := by decide +kernel
theorem dX11_extent_60 : decode cX11_extent 60 = .ok (.iload 4, 2) := by decide +kernel
theorem dX11_extent_62 : decode cX11_extent 62 = .ok (.ireturn, 1) := by decide +kernel
theorem dX11_half_0 : decode cX11_half 0 = .ok (.iload_n 0, 1) := by decide +kernel
theorem dX11_half_1 : decode cX11_half 1 = .ok (.iconst 1, 1) := by decide +kernel
theorem dX11_half_2 : decode cX11_half 2 = .ok (.ishr, 1) := by decide +kernel
theorem dX11_half_3 : decode cX11_half 3 = .ok (.ireturn, 1) := by decide +kernel
theorem dX11_planeDepth_0 : decode cX11_planeDepth 0 = .ok (.iload_n 3, 1) := by decide +kernel
theorem dX11_planeDepth_1 : decode cX11_planeDepth 1 = .ok (.iload 4, 2) := by decide +kernel
theorem dX11_planeDepth_3 : decode cX11_planeDepth 3 = .ok (.iload_n 2, 1) := by decide +kernel
theorem dX11_planeDepth_4 : decode cX11_planeDepth 4 = .ok (.aload_n 0, 1) := by decide +kernel
theorem dX11_planeDepth_5 : decode cX11_planeDepth 5 = .ok (.getfield 7, 3) := by decide +kernel
theorem dX11_planeDepth_8 : decode cX11_planeDepth 8 = .ok (.irem, 1) := by decide +kernel
theorem dX11_planeDepth_9 : decode cX11_planeDepth 9 = .ok (.iload_n 1, 1) := by decide +kernel
theorem dX11_planeDepth_10 : decode cX11_planeDepth 10 = .ok (.aload_n 0, 1) := by decide +kernel
theorem dX11_planeDepth_11 : decode cX11_planeDepth 11 = .ok (.getfield 7, 3) := by decide +kernel
theorem dX11_planeDepth_14 : decode cX11_planeDepth 14 = .ok (.irem, 1) := by decide +kernel
theorem dX11_planeDepth_15 : decode cX11_planeDepth 15 = .ok (.isub, 1) := by decide +kernel
theorem dX11_planeDepth_16 : decode cX11_planeDepth 16 = .ok (.imul, 1) := by decide +kernel
theorem dX11_planeDepth_17 : decode cX11_planeDepth 17 = .ok (.iload 5, 2) := by decide +kernel
theorem dX11_planeDepth_19 : decode cX11_planeDepth 19 = .ok (.iload_n 2, 1) := by decide +kernel
theorem dX11_planeDepth_20 : decode cX11_planeDepth 20 = .ok (.aload_n 0, 1) := by decide +kernel
theorem dX11_planeDepth_21 : decode cX11_planeDepth 21 = .ok (.getfield 7, 3) := by decide +kernel
theorem dX11_planeDepth_24 : decode cX11_planeDepth 24 = .ok (.idiv, 1) := by decide +kernel
theorem dX11_planeDepth_25 : decode cX11_planeDepth 25 = .ok (.iload_n 1, 1) := by decide +kernel
theorem dX11_planeDepth_26 : decode cX11_planeDepth 26 = .ok (.aload_n 0, 1) := by decide +kernel
theorem dX11_planeDepth_27 : decode cX11_planeDepth 27 = .ok (.getfield 7, 3) := by decide +kernel
theorem dX11_planeDepth_30 : decode cX11_planeDepth 30 = .ok (.idiv, 1) := by decide +kernel
theorem dX11_planeDepth_31 : decode cX11_planeDepth 31 = .ok (.isub, 1) := by decide +kernel
theorem dX11_planeDepth_32 : decode cX11_planeDepth 32 = .ok (.imul, 1) := by decide +kernel
theorem dX11_planeDepth_33 : decode cX11_planeDepth 33 = .ok (.iadd, 1) := by decide +kernel
theorem dX11_planeDepth_34 : decode cX11_planeDepth 34 = .ok (.invokestatic 180, 3) := by decide +kernel
theorem dX11_planeDepth_37 : decode cX11_planeDepth 37 = .ok (.iadd, 1) := by decide +kernel
theorem dX11_planeDepth_38 : decode cX11_planeDepth 38 = .ok (.ireturn, 1) := by decide +kernel
theorem dX11_planeCost_0 : decode cX11_planeCost 0 = .ok (.iconst 0, 1) := by decide +kernel
theorem dX11_planeCost_1 : decode cX11_planeCost 1 = .ok (.istore 5, 2) := by decide +kernel
theorem dX11_planeCost_3 : decode cX11_planeCost 3 = .ok (.iconst 0, 1) := by decide +kernel
theorem dX11_planeCost_4 : decode cX11_planeCost 4 = .ok (.istore 6, 2) := by decide +kernel
theorem dX11_planeCost_6 : decode cX11_planeCost 6 = .ok (.iload 6, 2) := by decide +kernel
theorem dX11_planeCost_8 : decode cX11_planeCost 8 = .ok (.aload_n 0, 1) := by decide +kernel
theorem dX11_planeCost_9 : decode cX11_planeCost 9 = .ok (.getfield 7, 3) := by decide +kernel
theorem dX11_planeCost_12 : decode cX11_planeCost 12 = .ok (.aload_n 0, 1) := by decide +kernel
theorem dX11_planeCost_13 : decode cX11_planeCost 13 = .ok (.getfield 13, 3) := by decide +kernel
theorem dX11_planeCost_16 : decode cX11_planeCost 16 = .ok (.imul, 1) := by decide +kernel
theorem dX11_planeCost_17 : decode cX11_planeCost 17 = .ok (.if_icmp .ge 85, 3) := by decide +kernel
theorem dX11_planeCost_20 : decode cX11_planeCost 20 = .ok (.aload_n 0, 1) := by decide +kernel
theorem dX11_planeCost_21 : decode cX11_planeCost 21 = .ok (.getfield 63, 3) := by decide +kernel
theorem dX11_planeCost_24 : decode cX11_planeCost 24 = .ok (.iload 6, 2) := by decide +kernel
theorem dX11_planeCost_26 : decode cX11_planeCost 26 = .ok (.iaload, 1) := by decide +kernel
theorem dX11_planeCost_27 : decode cX11_planeCost 27 = .ok (.iload_n 1, 1) := by decide +kernel
theorem dX11_planeCost_28 : decode cX11_planeCost 28 = .ok (.if_icmp .ne 68, 3) := by decide +kernel
theorem dX11_planeCost_31 : decode cX11_planeCost 31 = .ok (.aload_n 0, 1) := by decide +kernel
theorem dX11_planeCost_32 : decode cX11_planeCost 32 = .ok (.iload_n 1, 1) := by decide +kernel
theorem dX11_planeCost_33 : decode cX11_planeCost 33 = .ok (.iload 6, 2) := by decide +kernel
theorem dX11_planeCost_35 : decode cX11_planeCost 35 = .ok (.iload_n 2, 1) := by decide +kernel
theorem dX11_planeCost_36 : decode cX11_planeCost 36 = .ok (.iload_n 3, 1) := by decide +kernel
theorem dX11_planeCost_37 : decode cX11_planeCost 37 = .ok (.iload 4, 2) := by decide +kernel
theorem dX11_planeCost_39 : decode cX11_planeCost 39 = .ok (.invokevirtual 183, 3) := by decide +kernel
theorem dX11_planeCost_42 : decode cX11_planeCost 42 = .ok (.istore 7, 2) := by decide +kernel
theorem dX11_planeCost_44 : decode cX11_planeCost 44 = .ok (.iload 7, 2) := by decide +kernel
theorem dX11_planeCost_46 : decode cX11_planeCost 46 = .ok (.iconst 0, 1) := by decide +kernel
theorem dX11_planeCost_47 : decode cX11_planeCost 47 = .ok (.aload_n 0, 1) := by decide +kernel
theorem dX11_planeCost_48 : decode cX11_planeCost 48 = .ok (.getfield 30, 3) := by decide +kernel
theorem dX11_planeCost_51 : decode cX11_planeCost 51 = .ok (.iconst 0, 1) := by decide +kernel
theorem dX11_planeCost_52 : decode cX11_planeCost 52 = .ok (.iaload, 1) := by decide +kernel
theorem dX11_planeCost_53 : decode cX11_planeCost 53 = .ok (.invokestatic 80, 3) := by decide +kernel
theorem dX11_planeCost_56 : decode cX11_planeCost 56 = .ok (.ifCond .eq 19, 3) := by decide +kernel
theorem dX11_planeCost_59 : decode cX11_planeCost 59 = .ok (.aload_n 0, 1) := by decide +kernel
theorem dX11_planeCost_60 : decode cX11_planeCost 60 = .ok (.getfield 48, 3) := by decide +kernel
theorem dX11_planeCost_63 : decode cX11_planeCost 63 = .ok (.bipush 9, 2) := by decide +kernel
theorem dX11_planeCost_65 : decode cX11_planeCost 65 = .ok (.iload 6, 2) := by decide +kernel
theorem dX11_planeCost_67 : decode cX11_planeCost 67 = .ok (.imul, 1) := by decide +kernel
theorem dX11_planeCost_68 : decode cX11_planeCost 68 = .ok (.iload 7, 2) := by decide +kernel
theorem dX11_planeCost_70 : decode cX11_planeCost 70 = .ok (.iadd, 1) := by decide +kernel
theorem dX11_planeCost_71 : decode cX11_planeCost 71 = .ok (.iaload, 1) := by decide +kernel
theorem dX11_planeCost_72 : decode cX11_planeCost 72 = .ok (.goto 4, 3) := by decide +kernel
theorem dX11_planeCost_75 : decode cX11_planeCost 75 = .ok (.iconst (-1), 1) := by decide +kernel
theorem dX11_planeCost_76 : decode cX11_planeCost 76 = .ok (.istore 8, 2) := by decide +kernel
theorem dX11_planeCost_78 : decode cX11_planeCost 78 = .ok (.iload 5, 2) := by decide +kernel
theorem dX11_planeCost_80 : decode cX11_planeCost 80 = .ok (.iload 8, 2) := by decide +kernel
theorem dX11_planeCost_82 : decode cX11_planeCost 82 = .ok (.iconst (-1), 1) := by decide +kernel
theorem dX11_planeCost_83 : decode cX11_planeCost 83 = .ok (.if_icmp .ne 8, 3) := by decide +kernel
theorem dX11_planeCost_86 : decode cX11_planeCost 86 = .ok (.bipush 9, 2) := by decide +kernel
theorem dX11_planeCost_88 : decode cX11_planeCost 88 = .ok (.goto 5, 3) := by decide +kernel
theorem dX11_planeCost_91 : decode cX11_planeCost 91 = .ok (.iload 8, 2) := by decide +kernel
theorem dX11_planeCost_93 : decode cX11_planeCost 93 = .ok (.iadd, 1) := by decide +kernel
theorem dX11_planeCost_94 : decode cX11_planeCost 94 = .ok (.istore 5, 2) := by decide +kernel
theorem dX11_planeCost_96 : decode cX11_planeCost 96 = .ok (.iinc 6 1, 3) := by decide +kernel
theorem dX11_planeCost_99 : decode cX11_planeCost 99 = .ok (.goto (-93), 3) := by decide +kernel
theorem dX11_planeCost_102 : decode cX11_planeCost 102 = .ok (.iload 5, 2) := by decide +kernel
theorem dX11_planeCost_104 : decode cX11_planeCost 104 = .ok (.ireturn, 1) := by decide +kernel
theorem dX11_plane_0 : decode cX11_plane 0 = .ok (.aload_n 0, 1) := by decide +kernel
theorem dX11_plane_1 : decode cX11_plane 1 = .ok (.iload_n 1, 1) := by decide +kernel
theorem dX11_plane_2 : decode cX11_plane 2 = .ok (.iload_n 2, 1) := by decide +kernel
theorem dX11_plane_3 : decode cX11_plane 3 = .ok (.invokevirtual 95, 3) := by decide +kernel
theorem dX11_plane_6 : decode cX11_plane 6 = .ok (.ifCond .eq 12, 3) := by decide +kernel
theorem dX11_plane_9 : decode cX11_plane 9 = .ok (.iload_n 3, 1) := by decide +kernel
theorem dX11_plane_10 : decode cX11_plane 10 = .ok (.iconst 0, 1) := by decide +kernel
theorem dX11_plane_11 : decode cX11_plane 11 = .ok (.iconst 4, 1) := by decide +kernel
theorem dX11_plane_12 : decode cX11_plane 12 = .ok (.invokestatic 80, 3) := by decide +kernel
theorem dX11_plane_15 : decode cX11_plane 15 = .ok (.ifCond .ne 7, 3) := by decide +kernel
theorem dX11_plane_18 : decode cX11_plane 18 = .ok (.sipush (-1000), 3) := by decide +kernel
theorem dX11_plane_21 : decode cX11_plane 21 = .ok (.ireturn, 1) := by decide +kernel
theorem dX11_plane_22 : decode cX11_plane 22 = .ok (.aload_n 0, 1) := by decide +kernel
theorem dX11_plane_23 : decode cX11_plane 23 = .ok (.iload_n 1, 1) := by decide +kernel
theorem dX11_plane_24 : decode cX11_plane 24 = .ok (.iload_n 2, 1) := by decide +kernel
theorem dX11_plane_25 : decode cX11_plane 25 = .ok (.invokevirtual 177, 3) := by decide +kernel
theorem dX11_plane_28 : decode cX11_plane 28 = .ok (.istore 4, 2) := by decide +kernel
theorem dX11_plane_30 : decode cX11_plane 30 = .ok (.iload 4, 2) := by decide +kernel
theorem dX11_plane_32 : decode cX11_plane 32 = .ok (.ifCond .ge 7, 3) := by decide +kernel
theorem dX11_plane_35 : decode cX11_plane 35 = .ok (.sipush (-1001), 3) := by decide +kernel
theorem dX11_plane_38 : decode cX11_plane 38 = .ok (.ireturn, 1) := by decide +kernel
theorem dX11_plane_39 : decode cX11_plane 39 = .ok (.iconst (-1), 1) := by decide +kernel
theorem dX11_plane_40 : decode cX11_plane 40 = .ok (.istore 5, 2) := by decide +kernel
theorem dX11_plane_42 : decode cX11_plane 42 = .ok (.iconst 0, 1) := by decide +kernel
theorem dX11_plane_43 : decode cX11_plane 43 = .ok (.istore 6, 2) := by decide +kernel
theorem dX11_plane_45 : decode cX11_plane 45 = .ok (.iconst 0, 1) := by decide +kernel
theorem dX11_plane_46 : decode cX11_plane 46 = .ok (.istore 7, 2) := by decide +kernel
theorem dX11_plane_48 : decode cX11_plane 48 = .ok (.iconst 0, 1) := by decide +kernel
theorem dX11_plane_49 : decode cX11_plane 49 = .ok (.istore 8, 2) := by decide +kernel
theorem dX11_plane_51 : decode cX11_plane 51 = .ok (.iconst 0, 1) := by decide +kernel
theorem dX11_plane_52 : decode cX11_plane 52 = .ok (.istore 9, 2) := by decide +kernel
theorem dX11_plane_54 : decode cX11_plane 54 = .ok (.iload 9, 2) := by decide +kernel
theorem dX11_plane_56 : decode cX11_plane 56 = .ok (.aload_n 0, 1) := by decide +kernel
theorem dX11_plane_57 : decode cX11_plane 57 = .ok (.getfield 30, 3) := by decide +kernel
theorem dX11_plane_60 : decode cX11_plane 60 = .ok (.iconst 0, 1) := by decide +kernel
theorem dX11_plane_61 : decode cX11_plane 61 = .ok (.iaload, 1) := by decide +kernel
theorem dX11_plane_62 : decode cX11_plane 62 = .ok (.if_icmp .gt 83, 3) := by decide +kernel
theorem dX11_plane_65 : decode cX11_plane 65 = .ok (.bipush (-2), 2) := by decide +kernel
theorem dX11_plane_67 : decode cX11_plane 67 = .ok (.istore 10, 2) := by decide +kernel
theorem dX11_plane_69 : decode cX11_plane 69 = .ok (.iload 10, 2) := by decide +kernel
theorem dX11_plane_71 : decode cX11_plane 71 = .ok (.iconst 2, 1) := by decide +kernel
theorem dX11_plane_72 : decode cX11_plane 72 = .ok (.if_icmp .gt 67, 3) := by decide +kernel
theorem dX11_plane_75 : decode cX11_plane 75 = .ok (.bipush (-2), 2) := by decide +kernel
theorem dX11_plane_77 : decode cX11_plane 77 = .ok (.istore 11, 2) := by decide +kernel
theorem dX11_plane_79 : decode cX11_plane 79 = .ok (.iload 11, 2) := by decide +kernel
theorem dX11_plane_81 : decode cX11_plane 81 = .ok (.iconst 2, 1) := by decide +kernel
theorem dX11_plane_82 : decode cX11_plane 82 = .ok (.if_icmp .gt 51, 3) := by decide +kernel
theorem dX11_plane_85 : decode cX11_plane 85 = .ok (.aload_n 0, 1) := by decide +kernel
theorem dX11_plane_86 : decode cX11_plane 86 = .ok (.iload 4, 2) := by decide +kernel
theorem dX11_plane_88 : decode cX11_plane 88 = .ok (.iload 9, 2) := by decide +kernel
theorem dX11_plane_90 : decode cX11_plane 90 = .ok (.iload 10, 2) := by decide +kernel
theorem dX11_plane_92 : decode cX11_plane 92 = .ok (.iload 11, 2) := by decide +kernel
theorem dX11_plane_94 : decode cX11_plane 94 = .ok (.invokevirtual 187, 3) := by decide +kernel
theorem dX11_plane_97 : decode cX11_plane 97 = .ok (.istore 12, 2) := by decide +kernel
theorem dX11_plane_99 : decode cX11_plane 99 = .ok (.iload 5, 2) := by decide +kernel
theorem dX11_plane_101 : decode cX11_plane 101 = .ok (.ifCond .lt 10, 3) := by decide +kernel
theorem dX11_plane_104 : decode cX11_plane 104 = .ok (.iload 12, 2) := by decide +kernel
theorem dX11_plane_106 : decode cX11_plane 106 = .ok (.iload 5, 2) := by decide +kernel
theorem dX11_plane_108 : decode cX11_plane 108 = .ok (.if_icmp .ge 19, 3) := by decide +kernel
theorem dX11_plane_111 : decode cX11_plane 111 = .ok (.iload 12, 2) := by decide +kernel
theorem dX11_plane_113 : decode cX11_plane 113 = .ok (.istore 5, 2) := by decide +kernel
theorem dX11_plane_115 : decode cX11_plane 115 = .ok (.iload 9, 2) := by decide +kernel
theorem dX11_plane_117 : decode cX11_plane 117 = .ok (.istore 6, 2) := by decide +kernel
theorem dX11_plane_119 : decode cX11_plane 119 = .ok (.iload 10, 2) := by decide +kernel
theorem dX11_plane_121 : decode cX11_plane 121 = .ok (.istore 7, 2) := by decide +kernel
theorem dX11_plane_123 : decode cX11_plane 123 = .ok (.iload 11, 2) := by decide +kernel
theorem dX11_plane_125 : decode cX11_plane 125 = .ok (.istore 8, 2) := by decide +kernel
theorem dX11_plane_127 : decode cX11_plane 127 = .ok (.iinc 11 1, 3) := by decide +kernel
theorem dX11_plane_130 : decode cX11_plane 130 = .ok (.goto (-51), 3) := by decide +kernel
theorem dX11_plane_133 : decode cX11_plane 133 = .ok (.iinc 10 1, 3) := by decide +kernel
theorem dX11_plane_136 : decode cX11_plane 136 = .ok (.goto (-67), 3) := by decide +kernel
theorem dX11_plane_139 : decode cX11_plane 139 = .ok (.iinc 9 1, 3) := by decide +kernel
theorem dX11_plane_142 : decode cX11_plane 142 = .ok (.goto (-88), 3) := by decide +kernel
theorem dX11_plane_145 : decode cX11_plane 145 = .ok (.aload_n 0, 1) := by decide +kernel
theorem dX11_plane_146 : decode cX11_plane 146 = .ok (.iload 4, 2) := by decide +kernel
theorem dX11_plane_148 : decode cX11_plane 148 = .ok (.aload_n 0, 1) := by decide +kernel
theorem dX11_plane_149 : decode cX11_plane 149 = .ok (.getfield 7, 3) := by decide +kernel
theorem dX11_plane_152 : decode cX11_plane 152 = .ok (.iload_n 2, 1) := by decide +kernel
theorem dX11_plane_153 : decode cX11_plane 153 = .ok (.imul, 1) := by decide +kernel
theorem dX11_plane_154 : decode cX11_plane 154 = .ok (.iload_n 1, 1) := by decide +kernel
theorem dX11_plane_155 : decode cX11_plane 155 = .ok (.iadd, 1) := by decide +kernel
theorem dX11_plane_156 : decode cX11_plane 156 = .ok (.iload 6, 2) := by decide +kernel
theorem dX11_plane_158 : decode cX11_plane 158 = .ok (.iload 7, 2) := by decide +kernel
theorem dX11_plane_160 : decode cX11_plane 160 = .ok (.iload 8, 2) := by decide +kernel
theorem dX11_plane_162 : decode cX11_plane 162 = .ok (.invokevirtual 183, 3) := by decide +kernel
theorem dX11_plane_165 : decode cX11_plane 165 = .ok (.istore 9, 2) := by decide +kernel
theorem dX11_plane_167 : decode cX11_plane 167 = .ok (.iload_n 3, 1) := by decide +kernel
theorem dX11_plane_168 : decode cX11_plane 168 = .ok (.tableswitch 48 0 3 #[32, 35, 40, 45], 32) := by decide +kernel
theorem dX11_plane_200 : decode cX11_plane 200 = .ok (.iload 6, 2) := by decide +kernel
theorem dX11_plane_202 : decode cX11_plane 202 = .ok (.ireturn, 1) := by decide +kernel
theorem dX11_plane_203 : decode cX11_plane 203 = .ok (.iload 7, 2) := by decide +kernel
theorem dX11_plane_205 : decode cX11_plane 205 = .ok (.iconst 2, 1) := by decide +kernel
theorem dX11_plane_206 : decode cX11_plane 206 = .ok (.iadd, 1) := by decide +kernel
theorem dX11_plane_207 : decode cX11_plane 207 = .ok (.ireturn, 1) := by decide +kernel
theorem dX11_plane_208 : decode cX11_plane 208 = .ok (.iload 8, 2) := by decide +kernel
theorem dX11_plane_210 : decode cX11_plane 210 = .ok (.iconst 2, 1) := by decide +kernel
theorem dX11_plane_211 : decode cX11_plane 211 = .ok (.iadd, 1) := by decide +kernel
theorem dX11_plane_212 : decode cX11_plane 212 = .ok (.ireturn, 1) := by decide +kernel
theorem dX11_plane_213 : decode cX11_plane 213 = .ok (.iload 5, 2) := by decide +kernel
theorem dX11_plane_215 : decode cX11_plane 215 = .ok (.ireturn, 1) := by decide +kernel
theorem dX11_plane_216 : decode cX11_plane 216 = .ok (.iload 9, 2) := by decide +kernel
theorem dX11_plane_218 : decode cX11_plane 218 = .ok (.iconst 0, 1) := by decide +kernel
theorem dX11_plane_219 : decode cX11_plane 219 = .ok (.aload_n 0, 1) := by decide +kernel
theorem dX11_plane_220 : decode cX11_plane 220 = .ok (.getfield 30, 3) := by decide +kernel
theorem dX11_plane_223 : decode cX11_plane 223 = .ok (.iconst 0, 1) := by decide +kernel
theorem dX11_plane_224 : decode cX11_plane 224 = .ok (.iaload, 1) := by decide +kernel
theorem dX11_plane_225 : decode cX11_plane 225 = .ok (.invokestatic 80, 3) := by decide +kernel
theorem dX11_plane_228 : decode cX11_plane 228 = .ok (.ifCond .eq 8, 3) := by decide +kernel
theorem dX11_plane_231 : decode cX11_plane 231 = .ok (.iload 9, 2) := by decide +kernel
theorem dX11_plane_233 : decode cX11_plane 233 = .ok (.goto 8, 3) := by decide +kernel
theorem dX11_plane_236 : decode cX11_plane 236 = .ok (.iload 9, 2) := by decide +kernel
theorem dX11_plane_238 : decode cX11_plane 238 = .ok (.bipush 100, 2) := by decide +kernel
theorem dX11_plane_240 : decode cX11_plane 240 = .ok (.isub, 1) := by decide +kernel
theorem dX11_plane_241 : decode cX11_plane 241 = .ok (.ireturn, 1) := by decide +kernel
theorem dX11_seen_0 : decode cX11_seen 0 = .ok (.iconst (-1), 1) := by decide +kernel
theorem dX11_seen_1 : decode cX11_seen 1 = .ok (.istore 4, 2) := by decide +kernel
theorem dX11_seen_3 : decode cX11_seen 3 = .ok (.bipush (-4), 2) := by decide +kernel
theorem dX11_seen_5 : decode cX11_seen 5 = .ok (.istore 5, 2) := by decide +kernel
theorem dX11_seen_7 : decode cX11_seen 7 = .ok (.iload_n 2, 1) := by decide +kernel
theorem dX11_seen_8 : decode cX11_seen 8 = .ok (.istore 6, 2) := by decide +kernel
theorem dX11_seen_10 : decode cX11_seen 10 = .ok (.iload 6, 2) := by decide +kernel
theorem dX11_seen_12 : decode cX11_seen 12 = .ok (.aload_n 0, 1) := by decide +kernel
theorem dX11_seen_13 : decode cX11_seen 13 = .ok (.getfield 7, 3) := by decide +kernel
theorem dX11_seen_16 : decode cX11_seen 16 = .ok (.if_icmp .ge 57, 3) := by decide +kernel
theorem dX11_seen_19 : decode cX11_seen 19 = .ok (.aload_n 0, 1) := by decide +kernel
theorem dX11_seen_20 : decode cX11_seen 20 = .ok (.iload 6, 2) := by decide +kernel
theorem dX11_seen_22 : decode cX11_seen 22 = .ok (.iload_n 3, 1) := by decide +kernel
theorem dX11_seen_23 : decode cX11_seen 23 = .ok (.invokevirtual 101, 3) := by decide +kernel
theorem dX11_seen_26 : decode cX11_seen 26 = .ok (.istore 7, 2) := by decide +kernel
theorem dX11_seen_28 : decode cX11_seen 28 = .ok (.iload 7, 2) := by decide +kernel
theorem dX11_seen_30 : decode cX11_seen 30 = .ok (.iload 4, 2) := by decide +kernel
theorem dX11_seen_32 : decode cX11_seen 32 = .ok (.if_icmp .le 35, 3) := by decide +kernel
theorem dX11_seen_35 : decode cX11_seen 35 = .ok (.iload 6, 2) := by decide +kernel
theorem dX11_seen_37 : decode cX11_seen 37 = .ok (.iload 7, 2) := by decide +kernel
theorem dX11_seen_39 : decode cX11_seen 39 = .ok (.iload_n 1, 1) := by decide +kernel
theorem dX11_seen_40 : decode cX11_seen 40 = .ok (.imul, 1) := by decide +kernel
theorem dX11_seen_41 : decode cX11_seen 41 = .ok (.iconst 4, 1) := by decide +kernel
theorem dX11_seen_42 : decode cX11_seen 42 = .ok (.idiv, 1) := by decide +kernel
theorem dX11_seen_43 : decode cX11_seen 43 = .ok (.isub, 1) := by decide +kernel
theorem dX11_seen_44 : decode cX11_seen 44 = .ok (.iload_n 2, 1) := by decide +kernel
theorem dX11_seen_45 : decode cX11_seen 45 = .ok (.if_icmp .ne 22, 3) := by decide +kernel
theorem dX11_seen_48 : decode cX11_seen 48 = .ok (.iload 7, 2) := by decide +kernel
theorem dX11_seen_50 : decode cX11_seen 50 = .ok (.istore 4, 2) := by decide +kernel
theorem dX11_seen_52 : decode cX11_seen 52 = .ok (.aload_n 0, 1) := by decide +kernel
theorem dX11_seen_53 : decode cX11_seen 53 = .ok (.getfield 16, 3) := by decide +kernel
theorem dX11_seen_56 : decode cX11_seen 56 = .ok (.aload_n 0, 1) := by decide +kernel
theorem dX11_seen_57 : decode cX11_seen 57 = .ok (.iconst 0, 1) := by decide +kernel
theorem dX11_seen_58 : decode cX11_seen 58 = .ok (.iload 6, 2) := by decide +kernel
theorem dX11_seen_60 : decode cX11_seen 60 = .ok (.iload_n 3, 1) := by decide +kernel
theorem dX11_seen_61 : decode cX11_seen 61 = .ok (.invokevirtual 84, 3) := by decide +kernel
theorem dX11_seen_64 : decode cX11_seen 64 = .ok (.iaload, 1) := by decide +kernel
theorem dX11_seen_65 : decode cX11_seen 65 = .ok (.istore 5, 2) := by decide +kernel
theorem dX11_seen_67 : decode cX11_seen 67 = .ok (.iinc 6 1, 3) := by decide +kernel
theorem dX11_seen_70 : decode cX11_seen 70 = .ok (.goto (-60), 3) := by decide +kernel
theorem dX11_seen_73 : decode cX11_seen 73 = .ok (.iload 5, 2) := by decide +kernel
theorem dX11_seen_75 : decode cX11_seen 75 = .ok (.ireturn, 1) := by decide +kernel
theorem dX11_view_0 : decode cX11_view 0 = .ok (.iload_n 1, 1) := by decide +kernel
theorem dX11_view_1 : decode cX11_view 1 = .ok (.iconst 0, 1) := by decide +kernel
theorem dX11_view_2 : decode cX11_view 2 = .ok (.iconst 4, 1) := by decide +kernel
theorem dX11_view_3 : decode cX11_view 3 = .ok (.invokestatic 80, 3) := by decide +kernel
theorem dX11_view_6 : decode cX11_view 6 = .ok (.ifCond .eq 12, 3) := by decide +kernel
theorem dX11_view_9 : decode cX11_view 9 = .ok (.aload_n 0, 1) := by decide +kernel
theorem dX11_view_10 : decode cX11_view 10 = .ok (.iload_n 2, 1) := by decide +kernel
theorem dX11_view_11 : decode cX11_view 11 = .ok (.iload_n 3, 1) := by decide +kernel
theorem dX11_view_12 : decode cX11_view 12 = .ok (.invokevirtual 95, 3) := by decide +kernel
theorem dX11_view_15 : decode cX11_view 15 = .ok (.ifCond .ne 5, 3) := by decide +kernel
theorem dX11_view_18 : decode cX11_view 18 = .ok (.iconst (-1), 1) := by decide +kernel
theorem dX11_view_19 : decode cX11_view 19 = .ok (.ireturn, 1) := by decide +kernel
theorem dX11_view_20 : decode cX11_view 20 = .ok (.aload_n 0, 1) := by decide +kernel
theorem dX11_view_21 : decode cX11_view 21 = .ok (.invokevirtual 105, 3) := by decide +kernel
theorem dX11_view_24 : decode cX11_view 24 = .ok (.aload_n 0, 1) := by decide +kernel
theorem dX11_view_25 : decode cX11_view 25 = .ok (.iload_n 1, 1) := by decide +kernel
theorem dX11_view_26 : decode cX11_view 26 = .ok (.iload_n 2, 1) := by decide +kernel
theorem dX11_view_27 : decode cX11_view 27 = .ok (.iload_n 3, 1) := by decide +kernel
theorem dX11_view_28 : decode cX11_view 28 = .ok (.invokevirtual 191, 3) := by decide +kernel
theorem dX11_view_31 : decode cX11_view 31 = .ok (.ireturn, 1) := by decide +kernel
theorem dX11_holes_0 : decode cX11_holes 0 = .ok (.iload_n 1, 1) := by decide +kernel
theorem dX11_holes_1 : decode cX11_holes 1 = .ok (.iconst 0, 1) := by decide +kernel
theorem dX11_holes_2 : decode cX11_holes 2 = .ok (.iconst 4, 1) := by decide +kernel
theorem dX11_holes_3 : decode cX11_holes 3 = .ok (.invokestatic 80, 3) := by decide +kernel
theorem dX11_holes_6 : decode cX11_holes 6 = .ok (.ifCond .ne 5, 3) := by decide +kernel
theorem dX11_holes_9 : decode cX11_holes 9 = .ok (.iconst (-1), 1) := by decide +kernel
theorem dX11_holes_10 : decode cX11_holes 10 = .ok (.ireturn, 1) := by decide +kernel
theorem dX11_holes_11 : decode cX11_holes 11 = .ok (.aload_n 0, 1) := by decide +kernel
theorem dX11_holes_12 : decode cX11_holes 12 = .ok (.invokevirtual 105, 3) := by decide +kernel
theorem dX11_holes_15 : decode cX11_holes 15 = .ok (.iconst 0, 1) := by decide +kernel
theorem dX11_holes_16 : decode cX11_holes 16 = .ok (.istore_n 2, 1) := by decide +kernel
theorem dX11_holes_17 : decode cX11_holes 17 = .ok (.iconst 0, 1) := by decide +kernel
theorem dX11_holes_18 : decode cX11_holes 18 = .ok (.istore_n 3, 1) := by decide +kernel
theorem dX11_holes_19 : decode cX11_holes 19 = .ok (.iload_n 3, 1) := by decide +kernel
theorem dX11_holes_20 : decode cX11_holes 20 = .ok (.aload_n 0, 1) := by decide +kernel
theorem dX11_holes_21 : decode cX11_holes 21 = .ok (.getfield 7, 3) := by decide +kernel
theorem dX11_holes_24 : decode cX11_holes 24 = .ok (.aload_n 0, 1) := by decide +kernel
theorem dX11_holes_25 : decode cX11_holes 25 = .ok (.getfield 13, 3) := by decide +kernel
theorem dX11_holes_28 : decode cX11_holes 28 = .ok (.imul, 1) := by decide +kernel
theorem dX11_holes_29 : decode cX11_holes 29 = .ok (.if_icmp .ge 39, 3) := by decide +kernel
theorem dX11_holes_32 : decode cX11_holes 32 = .ok (.iload_n 2, 1) := by decide +kernel
theorem dX11_holes_33 : decode cX11_holes 33 = .ok (.aload_n 0, 1) := by decide +kernel
theorem dX11_holes_34 : decode cX11_holes 34 = .ok (.iload_n 1, 1) := by decide +kernel
theorem dX11_holes_35 : decode cX11_holes 35 = .ok (.iload_n 3, 1) := by decide +kernel
theorem dX11_holes_36 : decode cX11_holes 36 = .ok (.aload_n 0, 1) := by decide +kernel
theorem dX11_holes_37 : decode cX11_holes 37 = .ok (.getfield 7, 3) := by decide +kernel
theorem dX11_holes_40 : decode cX11_holes 40 = .ok (.irem, 1) := by decide +kernel
theorem dX11_holes_41 : decode cX11_holes 41 = .ok (.iload_n 3, 1) := by decide +kernel
theorem dX11_holes_42 : decode cX11_holes 42 = .ok (.aload_n 0, 1) := by decide +kernel
theorem dX11_holes_43 : decode cX11_holes 43 = .ok (.getfield 7, 3) := by decide +kernel
theorem dX11_holes_46 : decode cX11_holes 46 = .ok (.idiv, 1) := by decide +kernel
theorem dX11_holes_47 : decode cX11_holes 47 = .ok (.invokevirtual 191, 3) := by decide +kernel
theorem dX11_holes_50 : decode cX11_holes 50 = .ok (.bipush (-4), 2) := by decide +kernel
theorem dX11_holes_52 : decode cX11_holes 52 = .ok (.if_icmp .ne 7, 3) := by decide +kernel
theorem dX11_holes_55 : decode cX11_holes 55 = .ok (.iconst 1, 1) := by decide +kernel
theorem dX11_holes_56 : decode cX11_holes 56 = .ok (.goto 4, 3) := by decide +kernel
theorem dX11_holes_59 : decode cX11_holes 59 = .ok (.iconst 0, 1) := by decide +kernel
theorem dX11_holes_60 : decode cX11_holes 60 = .ok (.iadd, 1) := by decide +kernel
theorem dX11_holes_61 : decode cX11_holes 61 = .ok (.istore_n 2, 1) := by decide +kernel
theorem dX11_holes_62 : decode cX11_holes 62 = .ok (.iinc 3 1, 3) := by decide +kernel
theorem dX11_holes_65 : decode cX11_holes 65 = .ok (.goto (-46), 3) := by decide +kernel
theorem dX11_holes_68 : decode cX11_holes 68 = .ok (.iload_n 2, 1) := by decide +kernel
theorem dX11_holes_69 : decode cX11_holes 69 = .ok (.ireturn, 1) := by decide +kernel
theorem dX11_draw_0 : decode cX11_draw 0 = .ok (.iload_n 1, 1) := by decide +kernel
theorem dX11_draw_1 : decode cX11_draw 1 = .ok (.iconst 0, 1) := by decide +kernel
theorem dX11_draw_2 : decode cX11_draw 2 = .ok (.aload_n 0, 1) := by decide +kernel
theorem dX11_draw_3 : decode cX11_draw 3 = .ok (.getfield 7, 3) := by decide +kernel
theorem dX11_draw_6 : decode cX11_draw 6 = .ok (.iconst 1, 1) := by decide +kernel
theorem dX11_draw_7 : decode cX11_draw 7 = .ok (.isub, 1) := by decide +kernel
theorem dX11_draw_8 : decode cX11_draw 8 = .ok (.invokestatic 80, 3) := by decide +kernel
theorem dX11_draw_11 : decode cX11_draw 11 = .ok (.ifCond .eq 43, 3) := by decide +kernel
theorem dX11_draw_14 : decode cX11_draw 14 = .ok (.iload_n 2, 1) := by decide +kernel
theorem dX11_draw_15 : decode cX11_draw 15 = .ok (.iconst 0, 1) := by decide +kernel
theorem dX11_draw_16 : decode cX11_draw 16 = .ok (.aload_n 0, 1) := by decide +kernel
theorem dX11_draw_17 : decode cX11_draw 17 = .ok (.getfield 13, 3) := by decide +kernel
theorem dX11_draw_20 : decode cX11_draw 20 = .ok (.iconst 1, 1) := by decide +kernel
theorem dX11_draw_21 : decode cX11_draw 21 = .ok (.isub, 1) := by decide +kernel
theorem dX11_draw_22 : decode cX11_draw 22 = .ok (.invokestatic 80, 3) := by decide +kernel
theorem dX11_draw_25 : decode cX11_draw 25 = .ok (.ifCond .eq 29, 3) := by decide +kernel
theorem dX11_draw_28 : decode cX11_draw 28 = .ok (.iload_n 3, 1) := by decide +kernel
theorem dX11_draw_29 : decode cX11_draw 29 = .ok (.iconst 1, 1) := by decide +kernel
theorem dX11_draw_30 : decode cX11_draw 30 = .ok (.if_icmp .lt 24, 3) := by decide +kernel
theorem dX11_draw_33 : decode cX11_draw 33 = .ok (.iload 4, 2) := by decide +kernel
theorem dX11_draw_35 : decode cX11_draw 35 = .ok (.iconst 1, 1) := by decide +kernel
theorem dX11_draw_36 : decode cX11_draw 36 = .ok (.if_icmp .lt 18, 3) := by decide +kernel
theorem dX11_draw_39 : decode cX11_draw 39 = .ok (.iload 5, 2) := by decide +kernel
theorem dX11_draw_41 : decode cX11_draw 41 = .ok (.iconst 0, 1) := by decide +kernel
theorem dX11_draw_42 : decode cX11_draw 42 = .ok (.bipush 8, 2) := by decide +kernel
theorem dX11_draw_44 : decode cX11_draw 44 = .ok (.invokestatic 80, 3) := by decide +kernel
theorem dX11_draw_47 : decode cX11_draw 47 = .ok (.ifCond .eq 7, 3) := by decide +kernel
theorem dX11_draw_50 : decode cX11_draw 50 = .ok (.iconst 1, 1) := by decide +kernel
theorem dX11_draw_51 : decode cX11_draw 51 = .ok (.goto 4, 3) := by decide +kernel
theorem dX11_draw_54 : decode cX11_draw 54 = .ok (.iconst 0, 1) := by decide +kernel
theorem dX11_draw_55 : decode cX11_draw 55 = .ok (.istore 7, 2) := by decide +kernel
theorem dX11_draw_57 : decode cX11_draw 57 = .ok (.iload 7, 2) := by decide +kernel
theorem dX11_draw_59 : decode cX11_draw 59 = .ok (.ifCond .eq 24, 3) := by decide +kernel
theorem dX11_draw_62 : decode cX11_draw 62 = .ok (.iload_n 3, 1) := by decide +kernel
theorem dX11_draw_63 : decode cX11_draw 63 = .ok (.aload_n 0, 1) := by decide +kernel
theorem dX11_draw_64 : decode cX11_draw 64 = .ok (.getfield 7, 3) := by decide +kernel
theorem dX11_draw_67 : decode cX11_draw 67 = .ok (.iload_n 1, 1) := by decide +kernel
theorem dX11_draw_68 : decode cX11_draw 68 = .ok (.isub, 1) := by decide +kernel
theorem dX11_draw_69 : decode cX11_draw 69 = .ok (.if_icmp .gt 14, 3) := by decide +kernel
theorem dX11_draw_72 : decode cX11_draw 72 = .ok (.iload 4, 2) := by decide +kernel
theorem dX11_draw_74 : decode cX11_draw 74 = .ok (.aload_n 0, 1) := by decide +kernel
theorem dX11_draw_75 : decode cX11_draw 75 = .ok (.getfield 13, 3) := by decide +kernel
theorem dX11_draw_78 : decode cX11_draw 78 = .ok (.iload_n 2, 1) := by decide +kernel
theorem dX11_draw_79 : decode cX11_draw 79 = .ok (.isub, 1) := by decide +kernel
theorem dX11_draw_80 : decode cX11_draw 80 = .ok (.if_icmp .le 5, 3) := by decide +kernel
theorem dX11_draw_83 : decode cX11_draw 83 = .ok (.iconst (-1), 1) := by decide +kernel
theorem dX11_draw_84 : decode cX11_draw 84 = .ok (.ireturn, 1) := by decide +kernel
theorem dX11_draw_85 : decode cX11_draw 85 = .ok (.iload_n 2, 1) := by decide +kernel
theorem dX11_draw_86 : decode cX11_draw 86 = .ok (.istore 8, 2) := by decide +kernel
theorem dX11_draw_88 : decode cX11_draw 88 = .ok (.iload 8, 2) := by decide +kernel
theorem dX11_draw_90 : decode cX11_draw 90 = .ok (.iload_n 2, 1) := by decide +kernel
theorem dX11_draw_91 : decode cX11_draw 91 = .ok (.iload 4, 2) := by decide +kernel
theorem dX11_draw_93 : decode cX11_draw 93 = .ok (.iadd, 1) := by decide +kernel
theorem dX11_draw_94 : decode cX11_draw 94 = .ok (.if_icmp .ge 35, 3) := by decide +kernel
theorem dX11_draw_97 : decode cX11_draw 97 = .ok (.aload_n 0, 1) := by decide +kernel
theorem dX11_draw_98 : decode cX11_draw 98 = .ok (.getfield 24, 3) := by decide +kernel
theorem dX11_draw_101 : decode cX11_draw 101 = .ok (.iload 8, 2) := by decide +kernel
theorem dX11_draw_103 : decode cX11_draw 103 = .ok (.baload, 1) := by decide +kernel
theorem dX11_draw_104 : decode cX11_draw 104 = .ok (.ifCond .ne 16, 3) := by decide +kernel
theorem dX11_draw_107 : decode cX11_draw 107 = .ok (.aload_n 0, 1) := by decide +kernel
theorem dX11_draw_108 : decode cX11_draw 108 = .ok (.getfield 24, 3) := by decide +kernel
theorem dX11_draw_111 : decode cX11_draw 111 = .ok (.bipush 10, 2) := by decide +kernel
theorem dX11_draw_113 : decode cX11_draw 113 = .ok (.iload 8, 2) := by decide +kernel
theorem dX11_draw_115 : decode cX11_draw 115 = .ok (.iadd, 1) := by decide +kernel
theorem dX11_draw_116 : decode cX11_draw 116 = .ok (.baload, 1) := by decide +kernel
theorem dX11_draw_117 : decode cX11_draw 117 = .ok (.ifCond .eq 6, 3) := by decide +kernel
theorem dX11_draw_120 : decode cX11_draw 120 = .ok (.bipush (-2), 2) := by decide +kernel
theorem dX11_draw_122 : decode cX11_draw 122 = .ok (.ireturn, 1) := by decide +kernel
theorem dX11_draw_123 : decode cX11_draw 123 = .ok (.iinc 8 1, 3) := by decide +kernel
theorem dX11_draw_126 : decode cX11_draw 126 = .ok (.goto (-38), 3) := by decide +kernel
theorem dX11_draw_129 : decode cX11_draw 129 = .ok (.iload 6, 2) := by decide +kernel
theorem dX11_draw_131 : decode cX11_draw 131 = .ok (.istore 8, 2) := by decide +kernel
theorem dX11_draw_133 : decode cX11_draw 133 = .ok (.iload_n 2, 1) := by decide +kernel
theorem dX11_draw_134 : decode cX11_draw 134 = .ok (.istore 9, 2) := by decide +kernel
theorem dX11_draw_136 : decode cX11_draw 136 = .ok (.iload 9, 2) := by decide +kernel
theorem dX11_draw_138 : decode cX11_draw 138 = .ok (.iload_n 2, 1) := by decide +kernel
theorem dX11_draw_139 : decode cX11_draw 139 = .ok (.iload 4, 2) := by decide +kernel
theorem dX11_draw_141 : decode cX11_draw 141 = .ok (.iadd, 1) := by decide +kernel
theorem dX11_draw_142 : decode cX11_draw 142 = .ok (.if_icmp .ge 140, 3) := by decide +kernel
theorem dX11_draw_145 : decode cX11_draw 145 = .ok (.iload_n 1, 1) := by decide +kernel
theorem dX11_draw_146 : decode cX11_draw 146 = .ok (.istore 10, 2) := by decide +kernel
theorem dX11_draw_148 : decode cX11_draw 148 = .ok (.iload 10, 2) := by decide +kernel
theorem dX11_draw_150 : decode cX11_draw 150 = .ok (.iload_n 1, 1) := by decide +kernel
theorem dX11_draw_151 : decode cX11_draw 151 = .ok (.iload_n 3, 1) := by decide +kernel
theorem dX11_draw_152 : decode cX11_draw 152 = .ok (.iadd, 1) := by decide +kernel
theorem dX11_draw_153 : decode cX11_draw 153 = .ok (.if_icmp .ge 123, 3) := by decide +kernel
theorem dX11_draw_156 : decode cX11_draw 156 = .ok (.ldc 194, 2) := by decide +kernel
theorem dX11_draw_158 : decode cX11_draw 158 = .ok (.iload 8, 2) := by decide +kernel
theorem dX11_draw_160 : decode cX11_draw 160 = .ok (.imul, 1) := by decide +kernel
theorem dX11_draw_161 : decode cX11_draw 161 = .ok (.sipush 12345, 3) := by decide +kernel
theorem dX11_draw_164 : decode cX11_draw 164 = .ok (.iadd, 1) := by decide +kernel
theorem dX11_draw_165 : decode cX11_draw 165 = .ok (.istore 8, 2) := by decide +kernel
theorem dX11_draw_167 : decode cX11_draw 167 = .ok (.iload 8, 2) := by decide +kernel
theorem dX11_draw_169 : decode cX11_draw 169 = .ok (.bipush 16, 2) := by decide +kernel
theorem dX11_draw_171 : decode cX11_draw 171 = .ok (.iushr, 1) := by decide +kernel
theorem dX11_draw_172 : decode cX11_draw 172 = .ok (.sipush 256, 3) := by decide +kernel
theorem dX11_draw_175 : decode cX11_draw 175 = .ok (.irem, 1) := by decide +kernel
theorem dX11_draw_176 : decode cX11_draw 176 = .ok (.istore 11, 2) := by decide +kernel
theorem dX11_draw_178 : decode cX11_draw 178 = .ok (.aload_n 0, 1) := by decide +kernel
theorem dX11_draw_179 : decode cX11_draw 179 = .ok (.getfield 16, 3) := by decide +kernel
theorem dX11_draw_182 : decode cX11_draw 182 = .ok (.aload_n 0, 1) := by decide +kernel
theorem dX11_draw_183 : decode cX11_draw 183 = .ok (.iconst 0, 1) := by decide +kernel
theorem dX11_draw_184 : decode cX11_draw 184 = .ok (.iload 10, 2) := by decide +kernel
theorem dX11_draw_186 : decode cX11_draw 186 = .ok (.iload 9, 2) := by decide +kernel
theorem dX11_draw_188 : decode cX11_draw 188 = .ok (.invokevirtual 84, 3) := by decide +kernel
theorem dX11_draw_191 : decode cX11_draw 191 = .ok (.iload 11, 2) := by decide +kernel
theorem dX11_draw_193 : decode cX11_draw 193 = .ok (.iastore, 1) := by decide +kernel
theorem dX11_draw_194 : decode cX11_draw 194 = .ok (.aload_n 0, 1) := by decide +kernel
theorem dX11_draw_195 : decode cX11_draw 195 = .ok (.getfield 20, 3) := by decide +kernel
theorem dX11_draw_198 : decode cX11_draw 198 = .ok (.aload_n 0, 1) := by decide +kernel
theorem dX11_draw_199 : decode cX11_draw 199 = .ok (.iconst 0, 1) := by decide +kernel
theorem dX11_draw_200 : decode cX11_draw 200 = .ok (.iload 10, 2) := by decide +kernel
theorem dX11_draw_202 : decode cX11_draw 202 = .ok (.iload 9, 2) := by decide +kernel
theorem dX11_draw_204 : decode cX11_draw 204 = .ok (.invokevirtual 84, 3) := by decide +kernel
theorem dX11_draw_207 : decode cX11_draw 207 = .ok (.iconst 0, 1) := by decide +kernel
theorem dX11_draw_208 : decode cX11_draw 208 = .ok (.bastore, 1) := by decide +kernel
theorem dX11_draw_209 : decode cX11_draw 209 = .ok (.aload_n 0, 1) := by decide +kernel
theorem dX11_draw_210 : decode cX11_draw 210 = .ok (.getfield 27, 3) := by decide +kernel
theorem dX11_draw_213 : decode cX11_draw 213 = .ok (.aload_n 0, 1) := by decide +kernel
theorem dX11_draw_214 : decode cX11_draw 214 = .ok (.getfield 7, 3) := by decide +kernel
theorem dX11_draw_217 : decode cX11_draw 217 = .ok (.iload 9, 2) := by decide +kernel
theorem dX11_draw_219 : decode cX11_draw 219 = .ok (.imul, 1) := by decide +kernel
theorem dX11_draw_220 : decode cX11_draw 220 = .ok (.iload 10, 2) := by decide +kernel
theorem dX11_draw_222 : decode cX11_draw 222 = .ok (.iadd, 1) := by decide +kernel
theorem dX11_draw_223 : decode cX11_draw 223 = .ok (.iload 5, 2) := by decide +kernel
theorem dX11_draw_225 : decode cX11_draw 225 = .ok (.iastore, 1) := by decide +kernel
theorem dX11_draw_226 : decode cX11_draw 226 = .ok (.iload 10, 2) := by decide +kernel
theorem dX11_draw_228 : decode cX11_draw 228 = .ok (.iload 5, 2) := by decide +kernel
theorem dX11_draw_230 : decode cX11_draw 230 = .ok (.if_icmp .lt 40, 3) := by decide +kernel
theorem dX11_draw_233 : decode cX11_draw 233 = .ok (.aload_n 0, 1) := by decide +kernel
theorem dX11_draw_234 : decode cX11_draw 234 = .ok (.getfield 16, 3) := by decide +kernel
theorem dX11_draw_237 : decode cX11_draw 237 = .ok (.aload_n 0, 1) := by decide +kernel
theorem dX11_draw_238 : decode cX11_draw 238 = .ok (.iconst 1, 1) := by decide +kernel
theorem dX11_draw_239 : decode cX11_draw 239 = .ok (.iload 10, 2) := by decide +kernel
theorem dX11_draw_241 : decode cX11_draw 241 = .ok (.iload 5, 2) := by decide +kernel
theorem dX11_draw_243 : decode cX11_draw 243 = .ok (.isub, 1) := by decide +kernel
theorem dX11_draw_244 : decode cX11_draw 244 = .ok (.iload 9, 2) := by decide +kernel
theorem dX11_draw_246 : decode cX11_draw 246 = .ok (.invokevirtual 84, 3) := by decide +kernel
theorem dX11_draw_249 : decode cX11_draw 249 = .ok (.iload 11, 2) := by decide +kernel
theorem dX11_draw_251 : decode cX11_draw 251 = .ok (.iastore, 1) := by decide +kernel
theorem dX11_draw_252 : decode cX11_draw 252 = .ok (.aload_n 0, 1) := by decide +kernel
theorem dX11_draw_253 : decode cX11_draw 253 = .ok (.getfield 20, 3) := by decide +kernel
theorem dX11_draw_256 : decode cX11_draw 256 = .ok (.aload_n 0, 1) := by decide +kernel
theorem dX11_draw_257 : decode cX11_draw 257 = .ok (.iconst 1, 1) := by decide +kernel
theorem dX11_draw_258 : decode cX11_draw 258 = .ok (.iload 10, 2) := by decide +kernel
theorem dX11_draw_260 : decode cX11_draw 260 = .ok (.iload 5, 2) := by decide +kernel
theorem dX11_draw_262 : decode cX11_draw 262 = .ok (.isub, 1) := by decide +kernel
theorem dX11_draw_263 : decode cX11_draw 263 = .ok (.iload 9, 2) := by decide +kernel
theorem dX11_draw_265 : decode cX11_draw 265 = .ok (.invokevirtual 84, 3) := by decide +kernel
theorem dX11_draw_268 : decode cX11_draw 268 = .ok (.iconst 0, 1) := by decide +kernel
theorem dX11_draw_269 : decode cX11_draw 269 = .ok (.bastore, 1) := by decide +kernel
theorem dX11_draw_270 : decode cX11_draw 270 = .ok (.iinc 10 1, 3) := by decide +kernel
theorem dX11_draw_273 : decode cX11_draw 273 = .ok (.goto (-125), 3) := by decide +kernel
theorem dX11_draw_276 : decode cX11_draw 276 = .ok (.iinc 9 1, 3) := by decide +kernel
theorem dX11_draw_279 : decode cX11_draw 279 = .ok (.goto (-143), 3) := by decide +kernel
theorem dX11_draw_282 : decode cX11_draw 282 = .ok (.aload_n 0, 1) := by decide +kernel
theorem dX11_draw_283 : decode cX11_draw 283 = .ok (.iconst 0, 1) := by decide +kernel
theorem dX11_draw_284 : decode cX11_draw 284 = .ok (.putfield 76, 3) := by decide +kernel
theorem dX11_draw_287 : decode cX11_draw 287 = .ok (.iload_n 3, 1) := by decide +kernel
theorem dX11_draw_288 : decode cX11_draw 288 = .ok (.iload 4, 2) := by decide +kernel
theorem dX11_draw_290 : decode cX11_draw 290 = .ok (.imul, 1) := by decide +kernel
theorem dX11_draw_291 : decode cX11_draw 291 = .ok (.ireturn, 1) := by decide +kernel
theorem dX11_truth_0 : decode cX11_truth 0 = .ok (.aload_n 0, 1) := by decide +kernel
theorem dX11_truth_1 : decode cX11_truth 1 = .ok (.iload_n 1, 1) := by decide +kernel
theorem dX11_truth_2 : decode cX11_truth 2 = .ok (.iload_n 2, 1) := by decide +kernel
theorem dX11_truth_3 : decode cX11_truth 3 = .ok (.invokevirtual 95, 3) := by decide +kernel
theorem dX11_truth_6 : decode cX11_truth 6 = .ok (.ifCond .eq 19, 3) := by decide +kernel
theorem dX11_truth_9 : decode cX11_truth 9 = .ok (.aload_n 0, 1) := by decide +kernel
theorem dX11_truth_10 : decode cX11_truth 10 = .ok (.getfield 27, 3) := by decide +kernel
theorem dX11_truth_13 : decode cX11_truth 13 = .ok (.aload_n 0, 1) := by decide +kernel
theorem dX11_truth_14 : decode cX11_truth 14 = .ok (.getfield 7, 3) := by decide +kernel
theorem dX11_truth_17 : decode cX11_truth 17 = .ok (.iload_n 2, 1) := by decide +kernel
theorem dX11_truth_18 : decode cX11_truth 18 = .ok (.imul, 1) := by decide +kernel
theorem dX11_truth_19 : decode cX11_truth 19 = .ok (.iload_n 1, 1) := by decide +kernel
theorem dX11_truth_20 : decode cX11_truth 20 = .ok (.iadd, 1) := by decide +kernel
theorem dX11_truth_21 : decode cX11_truth 21 = .ok (.iaload, 1) := by decide +kernel
theorem dX11_truth_22 : decode cX11_truth 22 = .ok (.goto 4, 3) := by decide +kernel
theorem dX11_truth_25 : decode cX11_truth 25 = .ok (.iconst (-1), 1) := by decide +kernel
theorem dX11_truth_26 : decode cX11_truth 26 = .ok (.ireturn, 1) := by decide +kernel
theorem dX11_scoreOf_0 : decode cX11_scoreOf 0 = .ok (.aload_n 0, 1) := by decide +kernel
theorem dX11_scoreOf_1 : decode cX11_scoreOf 1 = .ok (.getfield 27, 3) := by decide +kernel
theorem dX11_scoreOf_4 : decode cX11_scoreOf 4 = .ok (.aload_n 0, 1) := by decide +kernel
theorem dX11_scoreOf_5 : decode cX11_scoreOf 5 = .ok (.getfield 7, 3) := by decide +kernel
theorem dX11_scoreOf_8 : decode cX11_scoreOf 8 = .ok (.iload_n 2, 1) := by decide +kernel
theorem dX11_scoreOf_9 : decode cX11_scoreOf 9 = .ok (.imul, 1) := by decide +kernel
theorem dX11_scoreOf_10 : decode cX11_scoreOf 10 = .ok (.iload_n 1, 1) := by decide +kernel
theorem dX11_scoreOf_11 : decode cX11_scoreOf 11 = .ok (.iadd, 1) := by decide +kernel
theorem dX11_scoreOf_12 : decode cX11_scoreOf 12 = .ok (.iaload, 1) := by decide +kernel
theorem dX11_scoreOf_13 : decode cX11_scoreOf 13 = .ok (.istore 4, 2) := by decide +kernel
theorem dX11_scoreOf_15 : decode cX11_scoreOf 15 = .ok (.iload 4, 2) := by decide +kernel
theorem dX11_scoreOf_17 : decode cX11_scoreOf 17 = .ok (.bipush (-4), 2) := by decide +kernel
theorem dX11_scoreOf_19 : decode cX11_scoreOf 19 = .ok (.if_icmp .ne 5, 3) := by decide +kernel
theorem dX11_scoreOf_22 : decode cX11_scoreOf 22 = .ok (.iconst 0, 1) := by decide +kernel
theorem dX11_scoreOf_23 : decode cX11_scoreOf 23 = .ok (.ireturn, 1) := by decide +kernel
theorem dX11_scoreOf_24 : decode cX11_scoreOf 24 = .ok (.iload_n 3, 1) := by decide +kernel
theorem dX11_scoreOf_25 : decode cX11_scoreOf 25 = .ok (.iconst 3, 1) := by decide +kernel
theorem dX11_scoreOf_26 : decode cX11_scoreOf 26 = .ok (.if_icmp .ne 20, 3) := by decide +kernel
theorem dX11_scoreOf_29 : decode cX11_scoreOf 29 = .ok (.aload_n 0, 1) := by decide +kernel
theorem dX11_scoreOf_30 : decode cX11_scoreOf 30 = .ok (.getfield 69, 3) := by decide +kernel
theorem dX11_scoreOf_33 : decode cX11_scoreOf 33 = .ok (.iload_n 1, 1) := by decide +kernel
theorem dX11_scoreOf_34 : decode cX11_scoreOf 34 = .ok (.iaload, 1) := by decide +kernel
theorem dX11_scoreOf_35 : decode cX11_scoreOf 35 = .ok (.iload 4, 2) := by decide +kernel
theorem dX11_scoreOf_37 : decode cX11_scoreOf 37 = .ok (.if_icmp .ne 7, 3) := by decide +kernel
theorem dX11_scoreOf_40 : decode cX11_scoreOf 40 = .ok (.iconst 1, 1) := by decide +kernel
theorem dX11_scoreOf_41 : decode cX11_scoreOf 41 = .ok (.goto 4, 3) := by decide +kernel
theorem dX11_scoreOf_44 : decode cX11_scoreOf 44 = .ok (.iconst 0, 1) := by decide +kernel
theorem dX11_scoreOf_45 : decode cX11_scoreOf 45 = .ok (.ireturn, 1) := by decide +kernel
theorem dX11_scoreOf_46 : decode cX11_scoreOf 46 = .ok (.aload_n 0, 1) := by decide +kernel
theorem dX11_scoreOf_47 : decode cX11_scoreOf 47 = .ok (.iload_n 1, 1) := by decide +kernel
theorem dX11_scoreOf_48 : decode cX11_scoreOf 48 = .ok (.iload_n 2, 1) := by decide +kernel
theorem dX11_scoreOf_49 : decode cX11_scoreOf 49 = .ok (.invokevirtual 101, 3) := by decide +kernel
theorem dX11_scoreOf_52 : decode cX11_scoreOf 52 = .ok (.istore 5, 2) := by decide +kernel
theorem dX11_scoreOf_54 : decode cX11_scoreOf 54 = .ok (.iload 5, 2) := by decide +kernel
theorem dX11_scoreOf_56 : decode cX11_scoreOf 56 = .ok (.ifCond .ge 7, 3) := by decide +kernel
theorem dX11_scoreOf_59 : decode cX11_scoreOf 59 = .ok (.iconst 2, 1) := by decide +kernel
theorem dX11_scoreOf_60 : decode cX11_scoreOf 60 = .ok (.goto 15, 3) := by decide +kernel
theorem dX11_scoreOf_63 : decode cX11_scoreOf 63 = .ok (.iload 5, 2) := by decide +kernel
theorem dX11_scoreOf_65 : decode cX11_scoreOf 65 = .ok (.iload 4, 2) := by decide +kernel
theorem dX11_scoreOf_67 : decode cX11_scoreOf 67 = .ok (.if_icmp .ne 7, 3) := by decide +kernel
theorem dX11_scoreOf_70 : decode cX11_scoreOf 70 = .ok (.iconst 0, 1) := by decide +kernel
theorem dX11_scoreOf_71 : decode cX11_scoreOf 71 = .ok (.goto 4, 3) := by decide +kernel
theorem dX11_scoreOf_74 : decode cX11_scoreOf 74 = .ok (.iconst 1, 1) := by decide +kernel
theorem dX11_scoreOf_75 : decode cX11_scoreOf 75 = .ok (.istore 6, 2) := by decide +kernel
theorem dX11_scoreOf_77 : decode cX11_scoreOf 77 = .ok (.iload 6, 2) := by decide +kernel
theorem dX11_scoreOf_79 : decode cX11_scoreOf 79 = .ok (.iload_n 3, 1) := by decide +kernel
theorem dX11_scoreOf_80 : decode cX11_scoreOf 80 = .ok (.if_icmp .ne 7, 3) := by decide +kernel
theorem dX11_scoreOf_83 : decode cX11_scoreOf 83 = .ok (.iconst 1, 1) := by decide +kernel
theorem dX11_scoreOf_84 : decode cX11_scoreOf 84 = .ok (.goto 4, 3) := by decide +kernel
theorem dX11_scoreOf_87 : decode cX11_scoreOf 87 = .ok (.iconst 0, 1) := by decide +kernel
theorem dX11_scoreOf_88 : decode cX11_scoreOf 88 = .ok (.ireturn, 1) := by decide +kernel
theorem dX11_score_0 : decode cX11_score 0 = .ok (.iload_n 1, 1) := by decide +kernel
theorem dX11_score_1 : decode cX11_score 1 = .ok (.iconst 0, 1) := by decide +kernel
theorem dX11_score_2 : decode cX11_score 2 = .ok (.iconst 3, 1) := by decide +kernel
theorem dX11_score_3 : decode cX11_score 3 = .ok (.invokestatic 80, 3) := by decide +kernel
theorem dX11_score_6 : decode cX11_score 6 = .ok (.ifCond .ne 5, 3) := by decide +kernel
theorem dX11_score_9 : decode cX11_score 9 = .ok (.iconst (-1), 1) := by decide +kernel
theorem dX11_score_10 : decode cX11_score 10 = .ok (.ireturn, 1) := by decide +kernel
theorem dX11_score_11 : decode cX11_score 11 = .ok (.aload_n 0, 1) := by decide +kernel
theorem dX11_score_12 : decode cX11_score 12 = .ok (.invokevirtual 105, 3) := by decide +kernel
theorem dX11_score_15 : decode cX11_score 15 = .ok (.iconst 0, 1) := by decide +kernel
theorem dX11_score_16 : decode cX11_score 16 = .ok (.istore_n 2, 1) := by decide +kernel
theorem dX11_score_17 : decode cX11_score 17 = .ok (.iconst 0, 1) := by decide +kernel
theorem dX11_score_18 : decode cX11_score 18 = .ok (.istore_n 3, 1) := by decide +kernel
theorem dX11_score_19 : decode cX11_score 19 = .ok (.iload_n 3, 1) := by decide +kernel
theorem dX11_score_20 : decode cX11_score 20 = .ok (.aload_n 0, 1) := by decide +kernel
theorem dX11_score_21 : decode cX11_score 21 = .ok (.getfield 13, 3) := by decide +kernel
theorem dX11_score_24 : decode cX11_score 24 = .ok (.if_icmp .ge 43, 3) := by decide +kernel
theorem dX11_score_27 : decode cX11_score 27 = .ok (.aload_n 0, 1) := by decide +kernel
theorem dX11_score_28 : decode cX11_score 28 = .ok (.iload_n 3, 1) := by decide +kernel
theorem dX11_score_29 : decode cX11_score 29 = .ok (.invokevirtual 168, 3) := by decide +kernel
theorem dX11_score_32 : decode cX11_score 32 = .ok (.iconst 0, 1) := by decide +kernel
theorem dX11_score_33 : decode cX11_score 33 = .ok (.istore 4, 2) := by decide +kernel
theorem dX11_score_35 : decode cX11_score 35 = .ok (.iload 4, 2) := by decide +kernel
theorem dX11_score_37 : decode cX11_score 37 = .ok (.aload_n 0, 1) := by decide +kernel
theorem dX11_score_38 : decode cX11_score 38 = .ok (.getfield 7, 3) := by decide +kernel
theorem dX11_score_41 : decode cX11_score 41 = .ok (.if_icmp .ge 20, 3) := by decide +kernel
theorem dX11_score_44 : decode cX11_score 44 = .ok (.iload_n 2, 1) := by decide +kernel
theorem dX11_score_45 : decode cX11_score 45 = .ok (.aload_n 0, 1) := by decide +kernel
theorem dX11_score_46 : decode cX11_score 46 = .ok (.iload 4, 2) := by decide +kernel
theorem dX11_score_48 : decode cX11_score 48 = .ok (.iload_n 3, 1) := by decide +kernel
theorem dX11_score_49 : decode cX11_score 49 = .ok (.iload_n 1, 1) := by decide +kernel
theorem dX11_score_50 : decode cX11_score 50 = .ok (.invokevirtual 195, 3) := by decide +kernel
theorem dX11_score_53 : decode cX11_score 53 = .ok (.iadd, 1) := by decide +kernel
theorem dX11_score_54 : decode cX11_score 54 = .ok (.istore_n 2, 1) := by decide +kernel
theorem dX11_score_55 : decode cX11_score 55 = .ok (.iinc 4 1, 3) := by decide +kernel
theorem dX11_score_58 : decode cX11_score 58 = .ok (.goto (-23), 3) := by decide +kernel
theorem dX11_score_61 : decode cX11_score 61 = .ok (.iinc 3 1, 3) := by decide +kernel
theorem dX11_score_64 : decode cX11_score 64 = .ok (.goto (-45), 3) := by decide +kernel
theorem dX11_score_67 : decode cX11_score 67 = .ok (.iload_n 2, 1) := by decide +kernel
theorem dX11_score_68 : decode cX11_score 68 = .ok (.ireturn, 1) := by decide +kernel
theorem dX11_isCube_0 : decode cX11_isCube 0 = .ok (.aload_n 0, 1) := by decide +kernel
theorem dX11_isCube_1 : decode cX11_isCube 1 = .ok (.getfield 33, 3) := by decide +kernel
theorem dX11_isCube_4 : decode cX11_isCube 4 = .ok (.iload_n 3, 1) := by decide +kernel
theorem dX11_isCube_5 : decode cX11_isCube 5 = .ok (.iaload, 1) := by decide +kernel
theorem dX11_isCube_6 : decode cX11_isCube 6 = .ok (.iload_n 2, 1) := by decide +kernel
theorem dX11_isCube_7 : decode cX11_isCube 7 = .ok (.ishr, 1) := by decide +kernel
theorem dX11_isCube_8 : decode cX11_isCube 8 = .ok (.iconst 1, 1) := by decide +kernel
theorem dX11_isCube_9 : decode cX11_isCube 9 = .ok (.iand, 1) := by decide +kernel
theorem dX11_isCube_10 : decode cX11_isCube 10 = .ok (.iconst 1, 1) := by decide +kernel
theorem dX11_isCube_11 : decode cX11_isCube 11 = .ok (.if_icmp .ne 41, 3) := by decide +kernel
theorem dX11_isCube_14 : decode cX11_isCube 14 = .ok (.aload_n 0, 1) := by decide +kernel
theorem dX11_isCube_15 : decode cX11_isCube 15 = .ok (.getfield 33, 3) := by decide +kernel
theorem dX11_isCube_18 : decode cX11_isCube 18 = .ok (.bipush 8, 2) := by decide +kernel
theorem dX11_isCube_20 : decode cX11_isCube 20 = .ok (.iload_n 3, 1) := by decide +kernel
theorem dX11_isCube_21 : decode cX11_isCube 21 = .ok (.iadd, 1) := by decide +kernel
theorem dX11_isCube_22 : decode cX11_isCube 22 = .ok (.iaload, 1) := by decide +kernel
theorem dX11_isCube_23 : decode cX11_isCube 23 = .ok (.iload_n 1, 1) := by decide +kernel
theorem dX11_isCube_24 : decode cX11_isCube 24 = .ok (.ishr, 1) := by decide +kernel
theorem dX11_isCube_25 : decode cX11_isCube 25 = .ok (.iconst 1, 1) := by decide +kernel
theorem dX11_isCube_26 : decode cX11_isCube 26 = .ok (.iand, 1) := by decide +kernel
theorem dX11_isCube_27 : decode cX11_isCube 27 = .ok (.iconst 1, 1) := by decide +kernel
theorem dX11_isCube_28 : decode cX11_isCube 28 = .ok (.if_icmp .ne 24, 3) := by decide +kernel
theorem dX11_isCube_31 : decode cX11_isCube 31 = .ok (.aload_n 0, 1) := by decide +kernel
theorem dX11_isCube_32 : decode cX11_isCube 32 = .ok (.getfield 33, 3) := by decide +kernel
theorem dX11_isCube_35 : decode cX11_isCube 35 = .ok (.bipush 16, 2) := by decide +kernel
theorem dX11_isCube_37 : decode cX11_isCube 37 = .ok (.iload_n 2, 1) := by decide +kernel
theorem dX11_isCube_38 : decode cX11_isCube 38 = .ok (.iadd, 1) := by decide +kernel
theorem dX11_isCube_39 : decode cX11_isCube 39 = .ok (.iaload, 1) := by decide +kernel
theorem dX11_isCube_40 : decode cX11_isCube 40 = .ok (.iload_n 1, 1) := by decide +kernel
theorem dX11_isCube_41 : decode cX11_isCube 41 = .ok (.ishr, 1) := by decide +kernel
theorem dX11_isCube_42 : decode cX11_isCube 42 = .ok (.iconst 1, 1) := by decide +kernel
theorem dX11_isCube_43 : decode cX11_isCube 43 = .ok (.iand, 1) := by decide +kernel
theorem dX11_isCube_44 : decode cX11_isCube 44 = .ok (.iconst 1, 1) := by decide +kernel
theorem dX11_isCube_45 : decode cX11_isCube 45 = .ok (.if_icmp .ne 7, 3) := by decide +kernel
theorem dX11_isCube_48 : decode cX11_isCube 48 = .ok (.iconst 1, 1) := by decide +kernel
theorem dX11_isCube_49 : decode cX11_isCube 49 = .ok (.goto 4, 3) := by decide +kernel
theorem dX11_isCube_52 : decode cX11_isCube 52 = .ok (.iconst 0, 1) := by decide +kernel
theorem dX11_isCube_53 : decode cX11_isCube 53 = .ok (.ireturn, 1) := by decide +kernel
theorem dX11_cubes_0 : decode cX11_cubes 0 = .ok (.iconst 0, 1) := by decide +kernel
theorem dX11_cubes_1 : decode cX11_cubes 1 = .ok (.istore_n 1, 1) := by decide +kernel
theorem dX11_cubes_2 : decode cX11_cubes 2 = .ok (.iconst 0, 1) := by decide +kernel
theorem dX11_cubes_3 : decode cX11_cubes 3 = .ok (.istore_n 2, 1) := by decide +kernel
theorem dX11_cubes_4 : decode cX11_cubes 4 = .ok (.iload_n 2, 1) := by decide +kernel
theorem dX11_cubes_5 : decode cX11_cubes 5 = .ok (.sipush 512, 3) := by decide +kernel
theorem dX11_cubes_8 : decode cX11_cubes 8 = .ok (.if_icmp .ge 39, 3) := by decide +kernel
theorem dX11_cubes_11 : decode cX11_cubes 11 = .ok (.iload_n 1, 1) := by decide +kernel
theorem dX11_cubes_12 : decode cX11_cubes 12 = .ok (.aload_n 0, 1) := by decide +kernel
theorem dX11_cubes_13 : decode cX11_cubes 13 = .ok (.iload_n 2, 1) := by decide +kernel
theorem dX11_cubes_14 : decode cX11_cubes 14 = .ok (.bipush 64, 2) := by decide +kernel
theorem dX11_cubes_16 : decode cX11_cubes 16 = .ok (.idiv, 1) := by decide +kernel
theorem dX11_cubes_17 : decode cX11_cubes 17 = .ok (.iload_n 2, 1) := by decide +kernel
theorem dX11_cubes_18 : decode cX11_cubes 18 = .ok (.bipush 8, 2) := by decide +kernel
theorem dX11_cubes_20 : decode cX11_cubes 20 = .ok (.idiv, 1) := by decide +kernel
theorem dX11_cubes_21 : decode cX11_cubes 21 = .ok (.bipush 8, 2) := by decide +kernel
theorem dX11_cubes_23 : decode cX11_cubes 23 = .ok (.irem, 1) := by decide +kernel
theorem dX11_cubes_24 : decode cX11_cubes 24 = .ok (.iload_n 2, 1) := by decide +kernel
theorem dX11_cubes_25 : decode cX11_cubes 25 = .ok (.bipush 8, 2) := by decide +kernel
theorem dX11_cubes_27 : decode cX11_cubes 27 = .ok (.irem, 1) := by decide +kernel
theorem dX11_cubes_28 : decode cX11_cubes 28 = .ok (.invokevirtual 198, 3) := by decide +kernel
theorem dX11_cubes_31 : decode cX11_cubes 31 = .ok (.ifCond .eq 7, 3) := by decide +kernel
theorem dX11_cubes_34 : decode cX11_cubes 34 = .ok (.iconst 1, 1) := by decide +kernel
theorem dX11_cubes_35 : decode cX11_cubes 35 = .ok (.goto 4, 3) := by decide +kernel
theorem dX11_cubes_38 : decode cX11_cubes 38 = .ok (.iconst 0, 1) := by decide +kernel
theorem dX11_cubes_39 : decode cX11_cubes 39 = .ok (.iadd, 1) := by decide +kernel
theorem dX11_cubes_40 : decode cX11_cubes 40 = .ok (.istore_n 1, 1) := by decide +kernel
theorem dX11_cubes_41 : decode cX11_cubes 41 = .ok (.iinc 2 1, 3) := by decide +kernel
theorem dX11_cubes_44 : decode cX11_cubes 44 = .ok (.goto (-40), 3) := by decide +kernel
theorem dX11_cubes_47 : decode cX11_cubes 47 = .ok (.iload_n 1, 1) := by decide +kernel
theorem dX11_cubes_48 : decode cX11_cubes 48 = .ok (.ireturn, 1) := by decide +kernel
theorem dX11_outline_0 : decode cX11_outline 0 = .ok (.iload_n 1, 1) := by decide +kernel
theorem dX11_outline_1 : decode cX11_outline 1 = .ok (.iconst 0, 1) := by decide +kernel
theorem dX11_outline_2 : decode cX11_outline 2 = .ok (.iconst 2, 1) := by decide +kernel
theorem dX11_outline_3 : decode cX11_outline 3 = .ok (.invokestatic 80, 3) := by decide +kernel
theorem dX11_outline_6 : decode cX11_outline 6 = .ok (.ifCond .eq 13, 3) := by decide +kernel
theorem dX11_outline_9 : decode cX11_outline 9 = .ok (.iload_n 2, 1) := by decide +kernel
theorem dX11_outline_10 : decode cX11_outline 10 = .ok (.iconst 0, 1) := by decide +kernel
theorem dX11_outline_11 : decode cX11_outline 11 = .ok (.bipush 7, 2) := by decide +kernel
theorem dX11_outline_13 : decode cX11_outline 13 = .ok (.invokestatic 80, 3) := by decide +kernel
theorem dX11_outline_16 : decode cX11_outline 16 = .ok (.ifCond .ne 5, 3) := by decide +kernel
theorem dX11_outline_19 : decode cX11_outline 19 = .ok (.iconst (-1), 1) := by decide +kernel
theorem dX11_outline_20 : decode cX11_outline 20 = .ok (.ireturn, 1) := by decide +kernel
theorem dX11_outline_21 : decode cX11_outline 21 = .ok (.aload_n 0, 1) := by decide +kernel
theorem dX11_outline_22 : decode cX11_outline 22 = .ok (.getfield 33, 3) := by decide +kernel
theorem dX11_outline_25 : decode cX11_outline 25 = .ok (.bipush 8, 2) := by decide +kernel
theorem dX11_outline_27 : decode cX11_outline 27 = .ok (.iload_n 1, 1) := by decide +kernel
theorem dX11_outline_28 : decode cX11_outline 28 = .ok (.imul, 1) := by decide +kernel
theorem dX11_outline_29 : decode cX11_outline 29 = .ok (.iload_n 2, 1) := by decide +kernel
theorem dX11_outline_30 : decode cX11_outline 30 = .ok (.iadd, 1) := by decide +kernel
theorem dX11_outline_31 : decode cX11_outline 31 = .ok (.iload_n 3, 1) := by decide +kernel
theorem dX11_outline_32 : decode cX11_outline 32 = .ok (.sipush 255, 3) := by decide +kernel
theorem dX11_outline_35 : decode cX11_outline 35 = .ok (.iand, 1) := by decide +kernel
theorem dX11_outline_36 : decode cX11_outline 36 = .ok (.iastore, 1) := by decide +kernel
theorem dX11_outline_37 : decode cX11_outline 37 = .ok (.aload_n 0, 1) := by decide +kernel
theorem dX11_outline_38 : decode cX11_outline 38 = .ok (.invokevirtual 119, 3) := by decide +kernel
theorem dX11_outline_41 : decode cX11_outline 41 = .ok (.ireturn, 1) := by decide +kernel
theorem dX11_cube_0 : decode cX11_cube 0 = .ok (.iload_n 1, 1) := by decide +kernel
theorem dX11_cube_1 : decode cX11_cube 1 = .ok (.iconst 0, 1) := by decide +kernel
theorem dX11_cube_2 : decode cX11_cube 2 = .ok (.bipush 7, 2) := by decide +kernel
theorem dX11_cube_4 : decode cX11_cube 4 = .ok (.invokestatic 80, 3) := by decide +kernel
theorem dX11_cube_7 : decode cX11_cube 7 = .ok (.ifCond .eq 37, 3) := by decide +kernel
theorem dX11_cube_10 : decode cX11_cube 10 = .ok (.iload_n 2, 1) := by decide +kernel
theorem dX11_cube_11 : decode cX11_cube 11 = .ok (.iconst 0, 1) := by decide +kernel
theorem dX11_cube_12 : decode cX11_cube 12 = .ok (.bipush 7, 2) := by decide +kernel
theorem dX11_cube_14 : decode cX11_cube 14 = .ok (.invokestatic 80, 3) := by decide +kernel
theorem dX11_cube_17 : decode cX11_cube 17 = .ok (.ifCond .eq 27, 3) := by decide +kernel
theorem dX11_cube_20 : decode cX11_cube 20 = .ok (.iload_n 3, 1) := by decide +kernel
theorem dX11_cube_21 : decode cX11_cube 21 = .ok (.iconst 0, 1) := by decide +kernel
theorem dX11_cube_22 : decode cX11_cube 22 = .ok (.bipush 7, 2) := by decide +kernel
theorem dX11_cube_24 : decode cX11_cube 24 = .ok (.invokestatic 80, 3) := by decide +kernel
theorem dX11_cube_27 : decode cX11_cube 27 = .ok (.ifCond .eq 17, 3) := by decide +kernel
theorem dX11_cube_30 : decode cX11_cube 30 = .ok (.aload_n 0, 1) := by decide +kernel
theorem dX11_cube_31 : decode cX11_cube 31 = .ok (.iload_n 1, 1) := by decide +kernel
theorem dX11_cube_32 : decode cX11_cube 32 = .ok (.iload_n 2, 1) := by decide +kernel
theorem dX11_cube_33 : decode cX11_cube 33 = .ok (.iload_n 3, 1) := by decide +kernel
theorem dX11_cube_34 : decode cX11_cube 34 = .ok (.invokevirtual 198, 3) := by decide +kernel
theorem dX11_cube_37 : decode cX11_cube 37 = .ok (.ifCond .eq 7, 3) := by decide +kernel
theorem dX11_cube_40 : decode cX11_cube 40 = .ok (.iconst 1, 1) := by decide +kernel
theorem dX11_cube_41 : decode cX11_cube 41 = .ok (.goto 4, 3) := by decide +kernel
theorem dX11_cube_44 : decode cX11_cube 44 = .ok (.iconst 0, 1) := by decide +kernel
theorem dX11_cube_45 : decode cX11_cube 45 = .ok (.ireturn, 1) := by decide +kernel
theorem dX11_hasCube_0 : decode cX11_hasCube 0 = .ok (.iconst 0, 1) := by decide +kernel
theorem dX11_hasCube_1 : decode cX11_hasCube 1 = .ok (.istore 4, 2) := by decide +kernel
theorem dX11_hasCube_3 : decode cX11_hasCube 3 = .ok (.iconst 0, 1) := by decide +kernel
theorem dX11_hasCube_4 : decode cX11_hasCube 4 = .ok (.istore 5, 2) := by decide +kernel
theorem dX11_hasCube_6 : decode cX11_hasCube 6 = .ok (.iload 5, 2) := by decide +kernel
theorem dX11_hasCube_8 : decode cX11_hasCube 8 = .ok (.bipush 8, 2) := by decide +kernel
theorem dX11_hasCube_10 : decode cX11_hasCube 10 = .ok (.if_icmp .ge 67, 3) := by decide +kernel
theorem dX11_hasCube_13 : decode cX11_hasCube 13 = .ok (.iload_n 1, 1) := by decide +kernel
theorem dX11_hasCube_14 : decode cX11_hasCube 14 = .ok (.ifCond .ne 14, 3) := by decide +kernel
theorem dX11_hasCube_17 : decode cX11_hasCube 17 = .ok (.aload_n 0, 1) := by decide +kernel
theorem dX11_hasCube_18 : decode cX11_hasCube 18 = .ok (.iload 5, 2) := by decide +kernel
theorem dX11_hasCube_20 : decode cX11_hasCube 20 = .ok (.iload_n 3, 1) := by decide +kernel
theorem dX11_hasCube_21 : decode cX11_hasCube 21 = .ok (.iload_n 2, 1) := by decide +kernel
theorem dX11_hasCube_22 : decode cX11_hasCube 22 = .ok (.invokevirtual 198, 3) := by decide +kernel
theorem dX11_hasCube_25 : decode cX11_hasCube 25 = .ok (.goto 27, 3) := by decide +kernel
theorem dX11_hasCube_28 : decode cX11_hasCube 28 = .ok (.iload_n 1, 1) := by decide +kernel
theorem dX11_hasCube_29 : decode cX11_hasCube 29 = .ok (.iconst 1, 1) := by decide +kernel
theorem dX11_hasCube_30 : decode cX11_hasCube 30 = .ok (.if_icmp .ne 14, 3) := by decide +kernel
theorem dX11_hasCube_33 : decode cX11_hasCube 33 = .ok (.aload_n 0, 1) := by decide +kernel
theorem dX11_hasCube_34 : decode cX11_hasCube 34 = .ok (.iload_n 3, 1) := by decide +kernel
theorem dX11_hasCube_35 : decode cX11_hasCube 35 = .ok (.iload 5, 2) := by decide +kernel
theorem dX11_hasCube_37 : decode cX11_hasCube 37 = .ok (.iload_n 2, 1) := by decide +kernel
theorem dX11_hasCube_38 : decode cX11_hasCube 38 = .ok (.invokevirtual 198, 3) := by decide +kernel
theorem dX11_hasCube_41 : decode cX11_hasCube 41 = .ok (.goto 11, 3) := by decide +kernel
theorem dX11_hasCube_44 : decode cX11_hasCube 44 = .ok (.aload_n 0, 1) := by decide +kernel
theorem dX11_hasCube_45 : decode cX11_hasCube 45 = .ok (.iload_n 3, 1) := by decide +kernel
theorem dX11_hasCube_46 : decode cX11_hasCube 46 = .ok (.iload_n 2, 1) := by decide +kernel
theorem dX11_hasCube_47 : decode cX11_hasCube 47 = .ok (.iload 5, 2) := by decide +kernel
theorem dX11_hasCube_49 : decode cX11_hasCube 49 = .ok (.invokevirtual 198, 3) := by decide +kernel
theorem dX11_hasCube_52 : decode cX11_hasCube 52 = .ok (.istore 6, 2) := by decide +kernel
theorem dX11_hasCube_54 : decode cX11_hasCube 54 = .ok (.iload 4, 2) := by decide +kernel
theorem dX11_hasCube_56 : decode cX11_hasCube 56 = .ok (.ifCond .ne 8, 3) := by decide +kernel
theorem dX11_hasCube_59 : decode cX11_hasCube 59 = .ok (.iload 6, 2) := by decide +kernel
theorem dX11_hasCube_61 : decode cX11_hasCube 61 = .ok (.ifCond .eq 7, 3) := by decide +kernel
theorem dX11_hasCube_64 : decode cX11_hasCube 64 = .ok (.iconst 1, 1) := by decide +kernel
theorem dX11_hasCube_65 : decode cX11_hasCube 65 = .ok (.goto 4, 3) := by decide +kernel
theorem dX11_hasCube_68 : decode cX11_hasCube 68 = .ok (.iconst 0, 1) := by decide +kernel
theorem dX11_hasCube_69 : decode cX11_hasCube 69 = .ok (.istore 4, 2) := by decide +kernel
theorem dX11_hasCube_71 : decode cX11_hasCube 71 = .ok (.iinc 5 1, 3) := by decide +kernel
theorem dX11_hasCube_74 : decode cX11_hasCube 74 = .ok (.goto (-68), 3) := by decide +kernel
theorem dX11_hasCube_77 : decode cX11_hasCube 77 = .ok (.iload 4, 2) := by decide +kernel
theorem dX11_hasCube_79 : decode cX11_hasCube 79 = .ok (.ireturn, 1) := by decide +kernel
theorem dX11_empty_0 : decode cX11_empty 0 = .ok (.iload_n 1, 1) := by decide +kernel
theorem dX11_empty_1 : decode cX11_empty 1 = .ok (.iconst 0, 1) := by decide +kernel
theorem dX11_empty_2 : decode cX11_empty 2 = .ok (.iconst 2, 1) := by decide +kernel
theorem dX11_empty_3 : decode cX11_empty 3 = .ok (.invokestatic 80, 3) := by decide +kernel
theorem dX11_empty_6 : decode cX11_empty 6 = .ok (.ifCond .ne 5, 3) := by decide +kernel
theorem dX11_empty_9 : decode cX11_empty 9 = .ok (.iconst (-1), 1) := by decide +kernel
theorem dX11_empty_10 : decode cX11_empty 10 = .ok (.ireturn, 1) := by decide +kernel
theorem dX11_empty_11 : decode cX11_empty 11 = .ok (.iconst 0, 1) := by decide +kernel
theorem dX11_empty_12 : decode cX11_empty 12 = .ok (.istore_n 2, 1) := by decide +kernel
theorem dX11_empty_13 : decode cX11_empty 13 = .ok (.iconst 0, 1) := by decide +kernel
theorem dX11_empty_14 : decode cX11_empty 14 = .ok (.istore_n 3, 1) := by decide +kernel
theorem dX11_empty_15 : decode cX11_empty 15 = .ok (.iload_n 3, 1) := by decide +kernel
theorem dX11_empty_16 : decode cX11_empty 16 = .ok (.bipush 8, 2) := by decide +kernel
theorem dX11_empty_18 : decode cX11_empty 18 = .ok (.if_icmp .ge 64, 3) := by decide +kernel
theorem dX11_empty_21 : decode cX11_empty 21 = .ok (.iconst 0, 1) := by decide +kernel
theorem dX11_empty_22 : decode cX11_empty 22 = .ok (.istore 4, 2) := by decide +kernel
theorem dX11_empty_24 : decode cX11_empty 24 = .ok (.iload 4, 2) := by decide +kernel
theorem dX11_empty_26 : decode cX11_empty 26 = .ok (.bipush 8, 2) := by decide +kernel
theorem dX11_empty_28 : decode cX11_empty 28 = .ok (.if_icmp .ge 48, 3) := by decide +kernel
theorem dX11_empty_31 : decode cX11_empty 31 = .ok (.iload_n 2, 1) := by decide +kernel
theorem dX11_empty_32 : decode cX11_empty 32 = .ok (.aload_n 0, 1) := by decide +kernel
theorem dX11_empty_33 : decode cX11_empty 33 = .ok (.getfield 33, 3) := by decide +kernel
theorem dX11_empty_36 : decode cX11_empty 36 = .ok (.bipush 8, 2) := by decide +kernel
theorem dX11_empty_38 : decode cX11_empty 38 = .ok (.iload_n 1, 1) := by decide +kernel
theorem dX11_empty_39 : decode cX11_empty 39 = .ok (.imul, 1) := by decide +kernel
theorem dX11_empty_40 : decode cX11_empty 40 = .ok (.iload_n 3, 1) := by decide +kernel
theorem dX11_empty_41 : decode cX11_empty 41 = .ok (.iadd, 1) := by decide +kernel
theorem dX11_empty_42 : decode cX11_empty 42 = .ok (.iaload, 1) := by decide +kernel
theorem dX11_empty_43 : decode cX11_empty 43 = .ok (.iload 4, 2) := by decide +kernel
theorem dX11_empty_45 : decode cX11_empty 45 = .ok (.ishr, 1) := by decide +kernel
theorem dX11_empty_46 : decode cX11_empty 46 = .ok (.iconst 1, 1) := by decide +kernel
theorem dX11_empty_47 : decode cX11_empty 47 = .ok (.iand, 1) := by decide +kernel
theorem dX11_empty_48 : decode cX11_empty 48 = .ok (.iconst 1, 1) := by decide +kernel
theorem dX11_empty_49 : decode cX11_empty 49 = .ok (.if_icmp .ne 18, 3) := by decide +kernel
theorem dX11_empty_52 : decode cX11_empty 52 = .ok (.aload_n 0, 1) := by decide +kernel
theorem dX11_empty_53 : decode cX11_empty 53 = .ok (.iload_n 1, 1) := by decide +kernel
theorem dX11_empty_54 : decode cX11_empty 54 = .ok (.iload_n 3, 1) := by decide +kernel
theorem dX11_empty_55 : decode cX11_empty 55 = .ok (.iload 4, 2) := by decide +kernel
theorem dX11_empty_57 : decode cX11_empty 57 = .ok (.invokevirtual 201, 3) := by decide +kernel
theorem dX11_empty_60 : decode cX11_empty 60 = .ok (.ifCond .ne 7, 3) := by decide +kernel
theorem dX11_empty_63 : decode cX11_empty 63 = .ok (.iconst 1, 1) := by decide +kernel
theorem dX11_empty_64 : decode cX11_empty 64 = .ok (.goto 4, 3) := by decide +kernel
theorem dX11_empty_67 : decode cX11_empty 67 = .ok (.iconst 0, 1) := by decide +kernel
theorem dX11_empty_68 : decode cX11_empty 68 = .ok (.iadd, 1) := by decide +kernel
theorem dX11_empty_69 : decode cX11_empty 69 = .ok (.istore_n 2, 1) := by decide +kernel
theorem dX11_empty_70 : decode cX11_empty 70 = .ok (.iinc 4 1, 3) := by decide +kernel
theorem dX11_empty_73 : decode cX11_empty 73 = .ok (.goto (-49), 3) := by decide +kernel
theorem dX11_empty_76 : decode cX11_empty 76 = .ok (.iinc 3 1, 3) := by decide +kernel
theorem dX11_empty_79 : decode cX11_empty 79 = .ok (.goto (-64), 3) := by decide +kernel
theorem dX11_empty_82 : decode cX11_empty 82 = .ok (.iload_n 2, 1) := by decide +kernel
theorem dX11_empty_83 : decode cX11_empty 83 = .ok (.ireturn, 1) := by decide +kernel
theorem dX11_keep_0 : decode cX11_keep 0 = .ok (.aload_n 0, 1) := by decide +kernel
theorem dX11_keep_1 : decode cX11_keep 1 = .ok (.iconst 1, 1) := by decide +kernel
theorem dX11_keep_2 : decode cX11_keep 2 = .ok (.putfield 204, 3) := by decide +kernel
theorem dX11_keep_5 : decode cX11_keep 5 = .ok (.aload_n 0, 1) := by decide +kernel
theorem dX11_keep_6 : decode cX11_keep 6 = .ok (.aload_n 0, 1) := by decide +kernel
theorem dX11_keep_7 : decode cX11_keep 7 = .ok (.getfield 7, 3) := by decide +kernel
theorem dX11_keep_10 : decode cX11_keep 10 = .ok (.putfield 207, 3) := by decide +kernel
theorem dX11_keep_13 : decode cX11_keep 13 = .ok (.aload_n 0, 1) := by decide +kernel
theorem dX11_keep_14 : decode cX11_keep 14 = .ok (.aload_n 0, 1) := by decide +kernel
theorem dX11_keep_15 : decode cX11_keep 15 = .ok (.getfield 13, 3) := by decide +kernel
theorem dX11_keep_18 : decode cX11_keep 18 = .ok (.putfield 210, 3) := by decide +kernel
theorem dX11_keep_21 : decode cX11_keep 21 = .ok (.iconst 0, 1) := by decide +kernel
theorem dX11_keep_22 : decode cX11_keep 22 = .ok (.istore_n 1, 1) := by decide +kernel
theorem dX11_keep_23 : decode cX11_keep 23 = .ok (.iload_n 1, 1) := by decide +kernel
theorem dX11_keep_24 : decode cX11_keep 24 = .ok (.sipush 400, 3) := by decide +kernel
theorem dX11_keep_27 : decode cX11_keep 27 = .ok (.if_icmp .ge 33, 3) := by decide +kernel
theorem dX11_keep_30 : decode cX11_keep 30 = .ok (.aload_n 0, 1) := by decide +kernel
theorem dX11_keep_31 : decode cX11_keep 31 = .ok (.getfield 36, 3) := by decide +kernel
theorem dX11_keep_34 : decode cX11_keep 34 = .ok (.iload_n 1, 1) := by decide +kernel
theorem dX11_keep_35 : decode cX11_keep 35 = .ok (.aload_n 0, 1) := by decide +kernel
theorem dX11_keep_36 : decode cX11_keep 36 = .ok (.getfield 16, 3) := by decide +kernel
theorem dX11_keep_39 : decode cX11_keep 39 = .ok (.iload_n 1, 1) := by decide +kernel
theorem dX11_keep_40 : decode cX11_keep 40 = .ok (.iaload, 1) := by decide +kernel
theorem dX11_keep_41 : decode cX11_keep 41 = .ok (.iastore, 1) := by decide +kernel
theorem dX11_keep_42 : decode cX11_keep 42 = .ok (.aload_n 0, 1) := by decide +kernel
theorem dX11_keep_43 : decode cX11_keep 43 = .ok (.getfield 39, 3) := by decide +kernel
theorem dX11_keep_46 : decode cX11_keep 46 = .ok (.iload_n 1, 1) := by decide +kernel
theorem dX11_keep_47 : decode cX11_keep 47 = .ok (.aload_n 0, 1) := by decide +kernel
theorem dX11_keep_48 : decode cX11_keep 48 = .ok (.getfield 20, 3) := by decide +kernel
theorem dX11_keep_51 : decode cX11_keep 51 = .ok (.iload_n 1, 1) := by decide +kernel
theorem dX11_keep_52 : decode cX11_keep 52 = .ok (.baload, 1) := by decide +kernel
theorem dX11_keep_53 : decode cX11_keep 53 = .ok (.bastore, 1) := by decide +kernel
theorem dX11_keep_54 : decode cX11_keep 54 = .ok (.iinc 1 1, 3) := by decide +kernel
theorem dX11_keep_57 : decode cX11_keep 57 = .ok (.goto (-34), 3) := by decide +kernel
theorem dX11_keep_60 : decode cX11_keep 60 = .ok (.iconst 0, 1) := by decide +kernel
theorem dX11_keep_61 : decode cX11_keep 61 = .ok (.istore_n 1, 1) := by decide +kernel
theorem dX11_keep_62 : decode cX11_keep 62 = .ok (.iload_n 1, 1) := by decide +kernel
theorem dX11_keep_63 : decode cX11_keep 63 = .ok (.bipush 20, 2) := by decide +kernel
theorem dX11_keep_65 : decode cX11_keep 65 = .ok (.if_icmp .ge 21, 3) := by decide +kernel
theorem dX11_keep_68 : decode cX11_keep 68 = .ok (.aload_n 0, 1) := by decide +kernel
theorem dX11_keep_69 : decode cX11_keep 69 = .ok (.getfield 42, 3) := by decide +kernel
theorem dX11_keep_72 : decode cX11_keep 72 = .ok (.iload_n 1, 1) := by decide +kernel
theorem dX11_keep_73 : decode cX11_keep 73 = .ok (.aload_n 0, 1) := by decide +kernel
theorem dX11_keep_74 : decode cX11_keep 74 = .ok (.getfield 24, 3) := by decide +kernel
theorem dX11_keep_77 : decode cX11_keep 77 = .ok (.iload_n 1, 1) := by decide +kernel
theorem dX11_keep_78 : decode cX11_keep 78 = .ok (.baload, 1) := by decide +kernel
theorem dX11_keep_79 : decode cX11_keep 79 = .ok (.bastore, 1) := by decide +kernel
theorem dX11_keep_80 : decode cX11_keep 80 = .ok (.iinc 1 1, 3) := by decide +kernel
theorem dX11_keep_83 : decode cX11_keep 83 = .ok (.goto (-21), 3) := by decide +kernel
theorem dX11_keep_86 : decode cX11_keep 86 = .ok (.iconst 0, 1) := by decide +kernel
theorem dX11_keep_87 : decode cX11_keep 87 = .ok (.istore_n 1, 1) := by decide +kernel
theorem dX11_keep_88 : decode cX11_keep 88 = .ok (.iload_n 1, 1) := by decide +kernel
theorem dX11_keep_89 : decode cX11_keep 89 = .ok (.sipush 200, 3) := by decide +kernel
theorem dX11_keep_92 : decode cX11_keep 92 = .ok (.if_icmp .ge 21, 3) := by decide +kernel
theorem dX11_keep_95 : decode cX11_keep 95 = .ok (.aload_n 0, 1) := by decide +kernel
theorem dX11_keep_96 : decode cX11_keep 96 = .ok (.getfield 45, 3) := by decide +kernel
theorem dX11_keep_99 : decode cX11_keep 99 = .ok (.iload_n 1, 1) := by decide +kernel
theorem dX11_keep_100 : decode cX11_keep 100 = .ok (.aload_n 0, 1) := by decide +kernel
theorem dX11_keep_101 : decode cX11_keep 101 = .ok (.getfield 27, 3) := by decide +kernel
theorem dX11_keep_104 : decode cX11_keep 104 = .ok (.iload_n 1, 1) := by decide +kernel
theorem dX11_keep_105 : decode cX11_keep 105 = .ok (.iaload, 1) := by decide +kernel
theorem dX11_keep_106 : decode cX11_keep 106 = .ok (.iastore, 1) := by decide +kernel
theorem dX11_keep_107 : decode cX11_keep 107 = .ok (.iinc 1 1, 3) := by decide +kernel
theorem dX11_keep_110 : decode cX11_keep 110 = .ok (.goto (-22), 3) := by decide +kernel
theorem dX11_keep_113 : decode cX11_keep 113 = .ok (.iconst 1, 1) := by decide +kernel
theorem dX11_keep_114 : decode cX11_keep 114 = .ok (.ireturn, 1) := by decide +kernel
theorem dX11_back_0 : decode cX11_back 0 = .ok (.aload_n 0, 1) := by decide +kernel
theorem dX11_back_1 : decode cX11_back 1 = .ok (.getfield 204, 3) := by decide +kernel
theorem dX11_back_4 : decode cX11_back 4 = .ok (.ifCond .ne 6, 3) := by decide +kernel
theorem dX11_back_7 : decode cX11_back 7 = .ok (.bipush (-4), 2) := by decide +kernel
theorem dX11_back_9 : decode cX11_back 9 = .ok (.ireturn, 1) := by decide +kernel
theorem dX11_back_10 : decode cX11_back 10 = .ok (.aload_n 0, 1) := by decide +kernel
theorem dX11_back_11 : decode cX11_back 11 = .ok (.aload_n 0, 1) := by decide +kernel
theorem dX11_back_12 : decode cX11_back 12 = .ok (.getfield 207, 3) := by decide +kernel
theorem dX11_back_15 : decode cX11_back 15 = .ok (.aload_n 0, 1) := by decide +kernel
theorem dX11_back_16 : decode cX11_back 16 = .ok (.getfield 210, 3) := by decide +kernel
theorem dX11_back_19 : decode cX11_back 19 = .ok (.invokevirtual 72, 3) := by decide +kernel
theorem dX11_back_22 : decode cX11_back 22 = .ok (.iconst 0, 1) := by decide +kernel
theorem dX11_back_23 : decode cX11_back 23 = .ok (.istore_n 1, 1) := by decide +kernel
theorem dX11_back_24 : decode cX11_back 24 = .ok (.iload_n 1, 1) := by decide +kernel
theorem dX11_back_25 : decode cX11_back 25 = .ok (.sipush 400, 3) := by decide +kernel
theorem dX11_back_28 : decode cX11_back 28 = .ok (.if_icmp .ge 33, 3) := by decide +kernel
theorem dX11_back_31 : decode cX11_back 31 = .ok (.aload_n 0, 1) := by decide +kernel
theorem dX11_back_32 : decode cX11_back 32 = .ok (.getfield 16, 3) := by decide +kernel
theorem dX11_back_35 : decode cX11_back 35 = .ok (.iload_n 1, 1) := by decide +kernel
theorem dX11_back_36 : decode cX11_back 36 = .ok (.aload_n 0, 1) := by decide +kernel
theorem dX11_back_37 : decode cX11_back 37 = .ok (.getfield 36, 3) := by decide +kernel
theorem dX11_back_40 : decode cX11_back 40 = .ok (.iload_n 1, 1) := by decide +kernel
theorem dX11_back_41 : decode cX11_back 41 = .ok (.iaload, 1) := by decide +kernel
theorem dX11_back_42 : decode cX11_back 42 = .ok (.iastore, 1) := by decide +kernel
theorem dX11_back_43 : decode cX11_back 43 = .ok (.aload_n 0, 1) := by decide +kernel
theorem dX11_back_44 : decode cX11_back 44 = .ok (.getfield 20, 3) := by decide +kernel
theorem dX11_back_47 : decode cX11_back 47 = .ok (.iload_n 1, 1) := by decide +kernel
theorem dX11_back_48 : decode cX11_back 48 = .ok (.aload_n 0, 1) := by decide +kernel
theorem dX11_back_49 : decode cX11_back 49 = .ok (.getfield 39, 3) := by decide +kernel
theorem dX11_back_52 : decode cX11_back 52 = .ok (.iload_n 1, 1) := by decide +kernel
theorem dX11_back_53 : decode cX11_back 53 = .ok (.baload, 1) := by decide +kernel
theorem dX11_back_54 : decode cX11_back 54 = .ok (.bastore, 1) := by decide +kernel
theorem dX11_back_55 : decode cX11_back 55 = .ok (.iinc 1 1, 3) := by decide +kernel
theorem dX11_back_58 : decode cX11_back 58 = .ok (.goto (-34), 3) := by decide +kernel
theorem dX11_back_61 : decode cX11_back 61 = .ok (.iconst 0, 1) := by decide +kernel
theorem dX11_back_62 : decode cX11_back 62 = .ok (.istore_n 1, 1) := by decide +kernel
theorem dX11_back_63 : decode cX11_back 63 = .ok (.iload_n 1, 1) := by decide +kernel
theorem dX11_back_64 : decode cX11_back 64 = .ok (.bipush 20, 2) := by decide +kernel
theorem dX11_back_66 : decode cX11_back 66 = .ok (.if_icmp .ge 21, 3) := by decide +kernel
theorem dX11_back_69 : decode cX11_back 69 = .ok (.aload_n 0, 1) := by decide +kernel
theorem dX11_back_70 : decode cX11_back 70 = .ok (.getfield 24, 3) := by decide +kernel
theorem dX11_back_73 : decode cX11_back 73 = .ok (.iload_n 1, 1) := by decide +kernel
theorem dX11_back_74 : decode cX11_back 74 = .ok (.aload_n 0, 1) := by decide +kernel
theorem dX11_back_75 : decode cX11_back 75 = .ok (.getfield 42, 3) := by decide +kernel
theorem dX11_back_78 : decode cX11_back 78 = .ok (.iload_n 1, 1) := by decide +kernel
theorem dX11_back_79 : decode cX11_back 79 = .ok (.baload, 1) := by decide +kernel
theorem dX11_back_80 : decode cX11_back 80 = .ok (.bastore, 1) := by decide +kernel
theorem dX11_back_81 : decode cX11_back 81 = .ok (.iinc 1 1, 3) := by decide +kernel
theorem dX11_back_84 : decode cX11_back 84 = .ok (.goto (-21), 3) := by decide +kernel
theorem dX11_back_87 : decode cX11_back 87 = .ok (.iconst 0, 1) := by decide +kernel
theorem dX11_back_88 : decode cX11_back 88 = .ok (.istore_n 1, 1) := by decide +kernel
theorem dX11_back_89 : decode cX11_back 89 = .ok (.iload_n 1, 1) := by decide +kernel
theorem dX11_back_90 : decode cX11_back 90 = .ok (.sipush 200, 3) := by decide +kernel
theorem dX11_back_93 : decode cX11_back 93 = .ok (.if_icmp .ge 21, 3) := by decide +kernel
theorem dX11_back_96 : decode cX11_back 96 = .ok (.aload_n 0, 1) := by decide +kernel
theorem dX11_back_97 : decode cX11_back 97 = .ok (.getfield 27, 3) := by decide +kernel
theorem dX11_back_100 : decode cX11_back 100 = .ok (.iload_n 1, 1) := by decide +kernel
theorem dX11_back_101 : decode cX11_back 101 = .ok (.aload_n 0, 1) := by decide +kernel
theorem dX11_back_102 : decode cX11_back 102 = .ok (.getfield 45, 3) := by decide +kernel
theorem dX11_back_105 : decode cX11_back 105 = .ok (.iload_n 1, 1) := by decide +kernel
theorem dX11_back_106 : decode cX11_back 106 = .ok (.iaload, 1) := by decide +kernel
theorem dX11_back_107 : decode cX11_back 107 = .ok (.iastore, 1) := by decide +kernel
theorem dX11_back_108 : decode cX11_back 108 = .ok (.iinc 1 1, 3) := by decide +kernel
theorem dX11_back_111 : decode cX11_back 111 = .ok (.goto (-22), 3) := by decide +kernel
theorem dX11_back_114 : decode cX11_back 114 = .ok (.iconst 1, 1) := by decide +kernel
theorem dX11_back_115 : decode cX11_back 115 = .ok (.ireturn, 1) := by decide +kernel
