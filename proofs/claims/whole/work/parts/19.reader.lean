theorem dX7_append_0 : decode cX7_append 0 = .ok (.bipush 24, 2) := by decide +kernel
theorem dX7_append_2 : decode cX7_append 2 = .ok (.istore_n 2, 1) := by decide +kernel
theorem dX7_append_3 : decode cX7_append 3 = .ok (.iload_n 2, 1) := by decide +kernel
theorem dX7_append_4 : decode cX7_append 4 = .ok (.ifCond .lt 45, 3) := by decide +kernel
theorem dX7_append_7 : decode cX7_append 7 = .ok (.aload_n 0, 1) := by decide +kernel
theorem dX7_append_8 : decode cX7_append 8 = .ok (.getfield 26, 3) := by decide +kernel
theorem dX7_append_11 : decode cX7_append 11 = .ok (.sipush 800, 3) := by decide +kernel
theorem dX7_append_14 : decode cX7_append 14 = .ok (.if_icmp .ge 29, 3) := by decide +kernel
theorem dX7_append_17 : decode cX7_append 17 = .ok (.aload_n 0, 1) := by decide +kernel
theorem dX7_append_18 : decode cX7_append 18 = .ok (.getfield 9, 3) := by decide +kernel
theorem dX7_append_21 : decode cX7_append 21 = .ok (.aload_n 0, 1) := by decide +kernel
theorem dX7_append_22 : decode cX7_append 22 = .ok (.getfield 26, 3) := by decide +kernel
theorem dX7_append_25 : decode cX7_append 25 = .ok (.iload_n 1, 1) := by decide +kernel
theorem dX7_append_26 : decode cX7_append 26 = .ok (.iload_n 2, 1) := by decide +kernel
theorem dX7_append_27 : decode cX7_append 27 = .ok (.iushr, 1) := by decide +kernel
theorem dX7_append_28 : decode cX7_append 28 = .ok (.sipush 255, 3) := by decide +kernel
theorem dX7_append_31 : decode cX7_append 31 = .ok (.iand, 1) := by decide +kernel
theorem dX7_append_32 : decode cX7_append 32 = .ok (.iastore, 1) := by decide +kernel
theorem dX7_append_33 : decode cX7_append 33 = .ok (.aload_n 0, 1) := by decide +kernel
theorem dX7_append_34 : decode cX7_append 34 = .ok (.dup, 1) := by decide +kernel
theorem dX7_append_35 : decode cX7_append 35 = .ok (.getfield 26, 3) := by decide +kernel
theorem dX7_append_38 : decode cX7_append 38 = .ok (.iconst 1, 1) := by decide +kernel
theorem dX7_append_39 : decode cX7_append 39 = .ok (.iadd, 1) := by decide +kernel
theorem dX7_append_40 : decode cX7_append 40 = .ok (.putfield 26, 3) := by decide +kernel
theorem dX7_append_43 : decode cX7_append 43 = .ok (.iinc 2 (-8), 3) := by decide +kernel
theorem dX7_append_46 : decode cX7_append 46 = .ok (.goto (-43), 3) := by decide +kernel
theorem dX7_append_49 : decode cX7_append 49 = .ok (.return_, 1) := by decide +kernel
theorem dX7_begin_0 : decode cX7_begin 0 = .ok (.aload_n 0, 1) := by decide +kernel
theorem dX7_begin_1 : decode cX7_begin 1 = .ok (.getfield 22, 3) := by decide +kernel
theorem dX7_begin_4 : decode cX7_begin 4 = .ok (.invokevirtual 42, 3) := by decide +kernel
theorem dX7_begin_7 : decode cX7_begin 7 = .ok (.aload_n 0, 1) := by decide +kernel
theorem dX7_begin_8 : decode cX7_begin 8 = .ok (.iconst 0, 1) := by decide +kernel
theorem dX7_begin_9 : decode cX7_begin 9 = .ok (.putfield 45, 3) := by decide +kernel
theorem dX7_begin_12 : decode cX7_begin 12 = .ok (.aload_n 0, 1) := by decide +kernel
theorem dX7_begin_13 : decode cX7_begin 13 = .ok (.iconst (-1), 1) := by decide +kernel
theorem dX7_begin_14 : decode cX7_begin 14 = .ok (.putfield 15, 3) := by decide +kernel
theorem dX7_begin_17 : decode cX7_begin 17 = .ok (.aload_n 0, 1) := by decide +kernel
theorem dX7_begin_18 : decode cX7_begin 18 = .ok (.iconst 0, 1) := by decide +kernel
theorem dX7_begin_19 : decode cX7_begin 19 = .ok (.putfield 48, 3) := by decide +kernel
theorem dX7_begin_22 : decode cX7_begin 22 = .ok (.aload_n 0, 1) := by decide +kernel
theorem dX7_begin_23 : decode cX7_begin 23 = .ok (.iconst 0, 1) := by decide +kernel
theorem dX7_begin_24 : decode cX7_begin 24 = .ok (.putfield 51, 3) := by decide +kernel
theorem dX7_begin_27 : decode cX7_begin 27 = .ok (.aload_n 0, 1) := by decide +kernel
theorem dX7_begin_28 : decode cX7_begin 28 = .ok (.iconst 0, 1) := by decide +kernel
theorem dX7_begin_29 : decode cX7_begin 29 = .ok (.putfield 55, 3) := by decide +kernel
theorem dX7_begin_32 : decode cX7_begin 32 = .ok (.aload_n 0, 1) := by decide +kernel
theorem dX7_begin_33 : decode cX7_begin 33 = .ok (.iconst 0, 1) := by decide +kernel
theorem dX7_begin_34 : decode cX7_begin 34 = .ok (.putfield 58, 3) := by decide +kernel
theorem dX7_begin_37 : decode cX7_begin 37 = .ok (.aload_n 0, 1) := by decide +kernel
theorem dX7_begin_38 : decode cX7_begin 38 = .ok (.iconst 0, 1) := by decide +kernel
theorem dX7_begin_39 : decode cX7_begin 39 = .ok (.putfield 61, 3) := by decide +kernel
theorem dX7_begin_42 : decode cX7_begin 42 = .ok (.aload_n 0, 1) := by decide +kernel
theorem dX7_begin_43 : decode cX7_begin 43 = .ok (.iconst 0, 1) := by decide +kernel
theorem dX7_begin_44 : decode cX7_begin 44 = .ok (.putfield 64, 3) := by decide +kernel
theorem dX7_begin_47 : decode cX7_begin 47 = .ok (.return_, 1) := by decide +kernel
theorem dX7_failed_0 : decode cX7_failed 0 = .ok (.aload_n 0, 1) := by decide +kernel
theorem dX7_failed_1 : decode cX7_failed 1 = .ok (.iload_n 1, 1) := by decide +kernel
theorem dX7_failed_2 : decode cX7_failed 2 = .ok (.putfield 45, 3) := by decide +kernel
theorem dX7_failed_5 : decode cX7_failed 5 = .ok (.aload_n 0, 1) := by decide +kernel
theorem dX7_failed_6 : decode cX7_failed 6 = .ok (.aload_n 0, 1) := by decide +kernel
theorem dX7_failed_7 : decode cX7_failed 7 = .ok (.getfield 183, 3) := by decide +kernel
theorem dX7_failed_10 : decode cX7_failed 10 = .ok (.putfield 15, 3) := by decide +kernel
theorem dX7_failed_13 : decode cX7_failed 13 = .ok (.iconst 0, 1) := by decide +kernel
theorem dX7_failed_14 : decode cX7_failed 14 = .ok (.ireturn, 1) := by decide +kernel
theorem dX7_isLetter_0 : decode cX7_isLetter 0 = .ok (.iload_n 0, 1) := by decide +kernel
theorem dX7_isLetter_1 : decode cX7_isLetter 1 = .ok (.bipush 97, 2) := by decide +kernel
theorem dX7_isLetter_3 : decode cX7_isLetter 3 = .ok (.if_icmp .lt 13, 3) := by decide +kernel
theorem dX7_isLetter_6 : decode cX7_isLetter 6 = .ok (.iload_n 0, 1) := by decide +kernel
theorem dX7_isLetter_7 : decode cX7_isLetter 7 = .ok (.bipush 122, 2) := by decide +kernel
theorem dX7_isLetter_9 : decode cX7_isLetter 9 = .ok (.if_icmp .gt 7, 3) := by decide +kernel
theorem dX7_isLetter_12 : decode cX7_isLetter 12 = .ok (.iconst 1, 1) := by decide +kernel
theorem dX7_isLetter_13 : decode cX7_isLetter 13 = .ok (.goto 4, 3) := by decide +kernel
theorem dX7_isLetter_16 : decode cX7_isLetter 16 = .ok (.iconst 0, 1) := by decide +kernel
theorem dX7_isLetter_17 : decode cX7_isLetter 17 = .ok (.ireturn, 1) := by decide +kernel
theorem dX7_isDigit_0 : decode cX7_isDigit 0 = .ok (.iload_n 0, 1) := by decide +kernel
theorem dX7_isDigit_1 : decode cX7_isDigit 1 = .ok (.bipush 48, 2) := by decide +kernel
theorem dX7_isDigit_3 : decode cX7_isDigit 3 = .ok (.if_icmp .lt 13, 3) := by decide +kernel
theorem dX7_isDigit_6 : decode cX7_isDigit 6 = .ok (.iload_n 0, 1) := by decide +kernel
theorem dX7_isDigit_7 : decode cX7_isDigit 7 = .ok (.bipush 57, 2) := by decide +kernel
theorem dX7_isDigit_9 : decode cX7_isDigit 9 = .ok (.if_icmp .gt 7, 3) := by decide +kernel
theorem dX7_isDigit_12 : decode cX7_isDigit 12 = .ok (.iconst 1, 1) := by decide +kernel
theorem dX7_isDigit_13 : decode cX7_isDigit 13 = .ok (.goto 4, 3) := by decide +kernel
theorem dX7_isDigit_16 : decode cX7_isDigit 16 = .ok (.iconst 0, 1) := by decide +kernel
theorem dX7_isDigit_17 : decode cX7_isDigit 17 = .ok (.ireturn, 1) := by decide +kernel
theorem dX7_next_0 : decode cX7_next 0 = .ok (.aload_n 0, 1) := by decide +kernel
theorem dX7_next_1 : decode cX7_next 1 = .ok (.getfield 48, 3) := by decide +kernel
theorem dX7_next_4 : decode cX7_next 4 = .ok (.aload_n 0, 1) := by decide +kernel
theorem dX7_next_5 : decode cX7_next 5 = .ok (.getfield 26, 3) := by decide +kernel
theorem dX7_next_8 : decode cX7_next 8 = .ok (.if_icmp .ge 44, 3) := by decide +kernel
theorem dX7_next_11 : decode cX7_next 11 = .ok (.aload_n 0, 1) := by decide +kernel
theorem dX7_next_12 : decode cX7_next 12 = .ok (.getfield 9, 3) := by decide +kernel
theorem dX7_next_15 : decode cX7_next 15 = .ok (.aload_n 0, 1) := by decide +kernel
theorem dX7_next_16 : decode cX7_next 16 = .ok (.getfield 48, 3) := by decide +kernel
theorem dX7_next_19 : decode cX7_next 19 = .ok (.iaload, 1) := by decide +kernel
theorem dX7_next_20 : decode cX7_next 20 = .ok (.bipush 32, 2) := by decide +kernel
theorem dX7_next_22 : decode cX7_next 22 = .ok (.if_icmp .eq 17, 3) := by decide +kernel
theorem dX7_next_25 : decode cX7_next 25 = .ok (.aload_n 0, 1) := by decide +kernel
theorem dX7_next_26 : decode cX7_next 26 = .ok (.getfield 9, 3) := by decide +kernel
theorem dX7_next_29 : decode cX7_next 29 = .ok (.aload_n 0, 1) := by decide +kernel
theorem dX7_next_30 : decode cX7_next 30 = .ok (.getfield 48, 3) := by decide +kernel
theorem dX7_next_33 : decode cX7_next 33 = .ok (.iaload, 1) := by decide +kernel
theorem dX7_next_34 : decode cX7_next 34 = .ok (.bipush 10, 2) := by decide +kernel
theorem dX7_next_36 : decode cX7_next 36 = .ok (.if_icmp .ne 16, 3) := by decide +kernel
theorem dX7_next_39 : decode cX7_next 39 = .ok (.aload_n 0, 1) := by decide +kernel
theorem dX7_next_40 : decode cX7_next 40 = .ok (.dup, 1) := by decide +kernel
theorem dX7_next_41 : decode cX7_next 41 = .ok (.getfield 48, 3) := by decide +kernel
theorem dX7_next_44 : decode cX7_next 44 = .ok (.iconst 1, 1) := by decide +kernel
theorem dX7_next_45 : decode cX7_next 45 = .ok (.iadd, 1) := by decide +kernel
theorem dX7_next_46 : decode cX7_next 46 = .ok (.putfield 48, 3) := by decide +kernel
theorem dX7_next_49 : decode cX7_next 49 = .ok (.goto (-49), 3) := by decide +kernel
theorem dX7_next_52 : decode cX7_next 52 = .ok (.aload_n 0, 1) := by decide +kernel
theorem dX7_next_53 : decode cX7_next 53 = .ok (.aload_n 0, 1) := by decide +kernel
theorem dX7_next_54 : decode cX7_next 54 = .ok (.getfield 48, 3) := by decide +kernel
theorem dX7_next_57 : decode cX7_next 57 = .ok (.putfield 183, 3) := by decide +kernel
theorem dX7_next_60 : decode cX7_next 60 = .ok (.aload_n 0, 1) := by decide +kernel
theorem dX7_next_61 : decode cX7_next 61 = .ok (.iconst 0, 1) := by decide +kernel
theorem dX7_next_62 : decode cX7_next 62 = .ok (.putfield 114, 3) := by decide +kernel
theorem dX7_next_65 : decode cX7_next 65 = .ok (.aload_n 0, 1) := by decide +kernel
theorem dX7_next_66 : decode cX7_next 66 = .ok (.getfield 48, 3) := by decide +kernel
theorem dX7_next_69 : decode cX7_next 69 = .ok (.aload_n 0, 1) := by decide +kernel
theorem dX7_next_70 : decode cX7_next 70 = .ok (.getfield 26, 3) := by decide +kernel
theorem dX7_next_73 : decode cX7_next 73 = .ok (.if_icmp .lt 11, 3) := by decide +kernel
theorem dX7_next_76 : decode cX7_next 76 = .ok (.aload_n 0, 1) := by decide +kernel
theorem dX7_next_77 : decode cX7_next 77 = .ok (.iconst 4, 1) := by decide +kernel
theorem dX7_next_78 : decode cX7_next 78 = .ok (.putfield 35, 3) := by decide +kernel
theorem dX7_next_81 : decode cX7_next 81 = .ok (.goto 183, 3) := by decide +kernel
theorem dX7_next_84 : decode cX7_next 84 = .ok (.aload_n 0, 1) := by decide +kernel
theorem dX7_next_85 : decode cX7_next 85 = .ok (.getfield 9, 3) := by decide +kernel
theorem dX7_next_88 : decode cX7_next 88 = .ok (.aload_n 0, 1) := by decide +kernel
theorem dX7_next_89 : decode cX7_next 89 = .ok (.getfield 48, 3) := by decide +kernel
theorem dX7_next_92 : decode cX7_next 92 = .ok (.iaload, 1) := by decide +kernel
theorem dX7_next_93 : decode cX7_next 93 = .ok (.invokestatic 186, 3) := by decide +kernel
theorem dX7_next_96 : decode cX7_next 96 = .ok (.ifCond .eq 47, 3) := by decide +kernel
theorem dX7_next_99 : decode cX7_next 99 = .ok (.aload_n 0, 1) := by decide +kernel
theorem dX7_next_100 : decode cX7_next 100 = .ok (.iconst 0, 1) := by decide +kernel
theorem dX7_next_101 : decode cX7_next 101 = .ok (.putfield 35, 3) := by decide +kernel
theorem dX7_next_104 : decode cX7_next 104 = .ok (.aload_n 0, 1) := by decide +kernel
theorem dX7_next_105 : decode cX7_next 105 = .ok (.getfield 48, 3) := by decide +kernel
theorem dX7_next_108 : decode cX7_next 108 = .ok (.aload_n 0, 1) := by decide +kernel
theorem dX7_next_109 : decode cX7_next 109 = .ok (.getfield 26, 3) := by decide +kernel
theorem dX7_next_112 : decode cX7_next 112 = .ok (.if_icmp .ge 152, 3) := by decide +kernel
theorem dX7_next_115 : decode cX7_next 115 = .ok (.aload_n 0, 1) := by decide +kernel
theorem dX7_next_116 : decode cX7_next 116 = .ok (.getfield 9, 3) := by decide +kernel
theorem dX7_next_119 : decode cX7_next 119 = .ok (.aload_n 0, 1) := by decide +kernel
theorem dX7_next_120 : decode cX7_next 120 = .ok (.getfield 48, 3) := by decide +kernel
theorem dX7_next_123 : decode cX7_next 123 = .ok (.iaload, 1) := by decide +kernel
theorem dX7_next_124 : decode cX7_next 124 = .ok (.invokestatic 186, 3) := by decide +kernel
theorem dX7_next_127 : decode cX7_next 127 = .ok (.ifCond .eq 137, 3) := by decide +kernel
theorem dX7_next_130 : decode cX7_next 130 = .ok (.aload_n 0, 1) := by decide +kernel
theorem dX7_next_131 : decode cX7_next 131 = .ok (.dup, 1) := by decide +kernel
theorem dX7_next_132 : decode cX7_next 132 = .ok (.getfield 48, 3) := by decide +kernel
theorem dX7_next_135 : decode cX7_next 135 = .ok (.iconst 1, 1) := by decide +kernel
theorem dX7_next_136 : decode cX7_next 136 = .ok (.iadd, 1) := by decide +kernel
theorem dX7_next_137 : decode cX7_next 137 = .ok (.putfield 48, 3) := by decide +kernel
theorem dX7_next_140 : decode cX7_next 140 = .ok (.goto (-36), 3) := by decide +kernel
theorem dX7_next_143 : decode cX7_next 143 = .ok (.aload_n 0, 1) := by decide +kernel
theorem dX7_next_144 : decode cX7_next 144 = .ok (.getfield 9, 3) := by decide +kernel
theorem dX7_next_147 : decode cX7_next 147 = .ok (.aload_n 0, 1) := by decide +kernel
theorem dX7_next_148 : decode cX7_next 148 = .ok (.getfield 48, 3) := by decide +kernel
theorem dX7_next_151 : decode cX7_next 151 = .ok (.iaload, 1) := by decide +kernel
theorem dX7_next_152 : decode cX7_next 152 = .ok (.invokestatic 189, 3) := by decide +kernel
theorem dX7_next_155 : decode cX7_next 155 = .ok (.ifCond .eq 76, 3) := by decide +kernel
theorem dX7_next_158 : decode cX7_next 158 = .ok (.aload_n 0, 1) := by decide +kernel
theorem dX7_next_159 : decode cX7_next 159 = .ok (.iconst 1, 1) := by decide +kernel
theorem dX7_next_160 : decode cX7_next 160 = .ok (.putfield 35, 3) := by decide +kernel
theorem dX7_next_163 : decode cX7_next 163 = .ok (.aload_n 0, 1) := by decide +kernel
theorem dX7_next_164 : decode cX7_next 164 = .ok (.getfield 48, 3) := by decide +kernel
theorem dX7_next_167 : decode cX7_next 167 = .ok (.aload_n 0, 1) := by decide +kernel
theorem dX7_next_168 : decode cX7_next 168 = .ok (.getfield 26, 3) := by decide +kernel
theorem dX7_next_171 : decode cX7_next 171 = .ok (.if_icmp .ge 93, 3) := by decide +kernel
theorem dX7_next_174 : decode cX7_next 174 = .ok (.aload_n 0, 1) := by decide +kernel
theorem dX7_next_175 : decode cX7_next 175 = .ok (.getfield 9, 3) := by decide +kernel
theorem dX7_next_178 : decode cX7_next 178 = .ok (.aload_n 0, 1) := by decide +kernel
theorem dX7_next_179 : decode cX7_next 179 = .ok (.getfield 48, 3) := by decide +kernel
theorem dX7_next_182 : decode cX7_next 182 = .ok (.iaload, 1) := by decide +kernel
theorem dX7_next_183 : decode cX7_next 183 = .ok (.invokestatic 189, 3) := by decide +kernel
theorem dX7_next_186 : decode cX7_next 186 = .ok (.ifCond .eq 78, 3) := by decide +kernel
theorem dX7_next_189 : decode cX7_next 189 = .ok (.aload_n 0, 1) := by decide +kernel
theorem dX7_next_190 : decode cX7_next 190 = .ok (.ldc 192, 2) := by decide +kernel
theorem dX7_next_192 : decode cX7_next 192 = .ok (.aload_n 0, 1) := by decide +kernel
theorem dX7_next_193 : decode cX7_next 193 = .ok (.getfield 114, 3) := by decide +kernel
theorem dX7_next_196 : decode cX7_next 196 = .ok (.bipush 10, 2) := by decide +kernel
theorem dX7_next_198 : decode cX7_next 198 = .ok (.imul, 1) := by decide +kernel
theorem dX7_next_199 : decode cX7_next 199 = .ok (.aload_n 0, 1) := by decide +kernel
theorem dX7_next_200 : decode cX7_next 200 = .ok (.getfield 9, 3) := by decide +kernel
theorem dX7_next_203 : decode cX7_next 203 = .ok (.aload_n 0, 1) := by decide +kernel
theorem dX7_next_204 : decode cX7_next 204 = .ok (.getfield 48, 3) := by decide +kernel
theorem dX7_next_207 : decode cX7_next 207 = .ok (.iaload, 1) := by decide +kernel
theorem dX7_next_208 : decode cX7_next 208 = .ok (.iadd, 1) := by decide +kernel
theorem dX7_next_209 : decode cX7_next 209 = .ok (.bipush 48, 2) := by decide +kernel
theorem dX7_next_211 : decode cX7_next 211 = .ok (.isub, 1) := by decide +kernel
theorem dX7_next_212 : decode cX7_next 212 = .ok (.invokestatic 193, 3) := by decide +kernel
theorem dX7_next_215 : decode cX7_next 215 = .ok (.putfield 114, 3) := by decide +kernel
theorem dX7_next_218 : decode cX7_next 218 = .ok (.aload_n 0, 1) := by decide +kernel
theorem dX7_next_219 : decode cX7_next 219 = .ok (.dup, 1) := by decide +kernel
theorem dX7_next_220 : decode cX7_next 220 = .ok (.getfield 48, 3) := by decide +kernel
theorem dX7_next_223 : decode cX7_next 223 = .ok (.iconst 1, 1) := by decide +kernel
theorem dX7_next_224 : decode cX7_next 224 = .ok (.iadd, 1) := by decide +kernel
theorem dX7_next_225 : decode cX7_next 225 = .ok (.putfield 48, 3) := by decide +kernel
theorem dX7_next_228 : decode cX7_next 228 = .ok (.goto (-65), 3) := by decide +kernel
theorem dX7_next_231 : decode cX7_next 231 = .ok (.aload_n 0, 1) := by decide +kernel
theorem dX7_next_232 : decode cX7_next 232 = .ok (.aload_n 0, 1) := by decide +kernel
theorem dX7_next_233 : decode cX7_next 233 = .ok (.getfield 9, 3) := by decide +kernel
theorem dX7_next_236 : decode cX7_next 236 = .ok (.aload_n 0, 1) := by decide +kernel
theorem dX7_next_237 : decode cX7_next 237 = .ok (.getfield 48, 3) := by decide +kernel
theorem dX7_next_240 : decode cX7_next 240 = .ok (.iaload, 1) := by decide +kernel
theorem dX7_next_241 : decode cX7_next 241 = .ok (.bipush 59, 2) := by decide +kernel
theorem dX7_next_243 : decode cX7_next 243 = .ok (.if_icmp .ne 7, 3) := by decide +kernel
theorem dX7_next_246 : decode cX7_next 246 = .ok (.iconst 2, 1) := by decide +kernel
theorem dX7_next_247 : decode cX7_next 247 = .ok (.goto 4, 3) := by decide +kernel
theorem dX7_next_250 : decode cX7_next 250 = .ok (.iconst 3, 1) := by decide +kernel
theorem dX7_next_251 : decode cX7_next 251 = .ok (.putfield 35, 3) := by decide +kernel
theorem dX7_next_254 : decode cX7_next 254 = .ok (.aload_n 0, 1) := by decide +kernel
theorem dX7_next_255 : decode cX7_next 255 = .ok (.dup, 1) := by decide +kernel
theorem dX7_next_256 : decode cX7_next 256 = .ok (.getfield 48, 3) := by decide +kernel
theorem dX7_next_259 : decode cX7_next 259 = .ok (.iconst 1, 1) := by decide +kernel
theorem dX7_next_260 : decode cX7_next 260 = .ok (.iadd, 1) := by decide +kernel
theorem dX7_next_261 : decode cX7_next 261 = .ok (.putfield 48, 3) := by decide +kernel
theorem dX7_next_264 : decode cX7_next 264 = .ok (.return_, 1) := by decide +kernel
theorem dX7_readNumber_0 : decode cX7_readNumber 0 = .ok (.aload_n 0, 1) := by decide +kernel
theorem dX7_readNumber_1 : decode cX7_readNumber 1 = .ok (.invokevirtual 32, 3) := by decide +kernel
theorem dX7_readNumber_4 : decode cX7_readNumber 4 = .ok (.aload_n 0, 1) := by decide +kernel
theorem dX7_readNumber_5 : decode cX7_readNumber 5 = .ok (.getfield 35, 3) := by decide +kernel
theorem dX7_readNumber_8 : decode cX7_readNumber 8 = .ok (.iconst 1, 1) := by decide +kernel
theorem dX7_readNumber_9 : decode cX7_readNumber 9 = .ok (.if_icmp .eq 9, 3) := by decide +kernel
theorem dX7_readNumber_12 : decode cX7_readNumber 12 = .ok (.aload_n 0, 1) := by decide +kernel
theorem dX7_readNumber_13 : decode cX7_readNumber 13 = .ok (.iconst 1, 1) := by decide +kernel
theorem dX7_readNumber_14 : decode cX7_readNumber 14 = .ok (.invokevirtual 106, 3) := by decide +kernel
theorem dX7_readNumber_17 : decode cX7_readNumber 17 = .ok (.ireturn, 1) := by decide +kernel
theorem dX7_readNumber_18 : decode cX7_readNumber 18 = .ok (.aload_n 0, 1) := by decide +kernel
theorem dX7_readNumber_19 : decode cX7_readNumber 19 = .ok (.getfield 114, 3) := by decide +kernel
theorem dX7_readNumber_22 : decode cX7_readNumber 22 = .ok (.iload_n 1, 1) := by decide +kernel
theorem dX7_readNumber_23 : decode cX7_readNumber 23 = .ok (.if_icmp .lt 11, 3) := by decide +kernel
theorem dX7_readNumber_26 : decode cX7_readNumber 26 = .ok (.aload_n 0, 1) := by decide +kernel
theorem dX7_readNumber_27 : decode cX7_readNumber 27 = .ok (.getfield 114, 3) := by decide +kernel
theorem dX7_readNumber_30 : decode cX7_readNumber 30 = .ok (.iload_n 2, 1) := by decide +kernel
theorem dX7_readNumber_31 : decode cX7_readNumber 31 = .ok (.if_icmp .le 11, 3) := by decide +kernel
theorem dX7_readNumber_34 : decode cX7_readNumber 34 = .ok (.aload_n 0, 1) := by decide +kernel
theorem dX7_readNumber_35 : decode cX7_readNumber 35 = .ok (.iconst 2, 1) := by decide +kernel
theorem dX7_readNumber_36 : decode cX7_readNumber 36 = .ok (.invokevirtual 106, 3) := by decide +kernel
theorem dX7_readNumber_39 : decode cX7_readNumber 39 = .ok (.ifCond .eq 7, 3) := by decide +kernel
theorem dX7_readNumber_42 : decode cX7_readNumber 42 = .ok (.iconst 1, 1) := by decide +kernel
theorem dX7_readNumber_43 : decode cX7_readNumber 43 = .ok (.goto 4, 3) := by decide +kernel
theorem dX7_readNumber_46 : decode cX7_readNumber 46 = .ok (.iconst 0, 1) := by decide +kernel
theorem dX7_readNumber_47 : decode cX7_readNumber 47 = .ok (.ireturn, 1) := by decide +kernel
theorem dX7_readStop_0 : decode cX7_readStop 0 = .ok (.aload_n 0, 1) := by decide +kernel
theorem dX7_readStop_1 : decode cX7_readStop 1 = .ok (.invokevirtual 32, 3) := by decide +kernel
theorem dX7_readStop_4 : decode cX7_readStop 4 = .ok (.aload_n 0, 1) := by decide +kernel
theorem dX7_readStop_5 : decode cX7_readStop 5 = .ok (.getfield 35, 3) := by decide +kernel
theorem dX7_readStop_8 : decode cX7_readStop 8 = .ok (.iconst 2, 1) := by decide +kernel
theorem dX7_readStop_9 : decode cX7_readStop 9 = .ok (.if_icmp .eq 11, 3) := by decide +kernel
theorem dX7_readStop_12 : decode cX7_readStop 12 = .ok (.aload_n 0, 1) := by decide +kernel
theorem dX7_readStop_13 : decode cX7_readStop 13 = .ok (.iconst 1, 1) := by decide +kernel
theorem dX7_readStop_14 : decode cX7_readStop 14 = .ok (.invokevirtual 106, 3) := by decide +kernel
theorem dX7_readStop_17 : decode cX7_readStop 17 = .ok (.ifCond .eq 7, 3) := by decide +kernel
theorem dX7_readStop_20 : decode cX7_readStop 20 = .ok (.iconst 1, 1) := by decide +kernel
theorem dX7_readStop_21 : decode cX7_readStop 21 = .ok (.goto 4, 3) := by decide +kernel
theorem dX7_readStop_24 : decode cX7_readStop 24 = .ok (.iconst 0, 1) := by decide +kernel
theorem dX7_readStop_25 : decode cX7_readStop 25 = .ok (.ireturn, 1) := by decide +kernel
theorem dX7_readSpace_0 : decode cX7_readSpace 0 = .ok (.aload_n 0, 1) := by decide +kernel
theorem dX7_readSpace_1 : decode cX7_readSpace 1 = .ok (.getfield 51, 3) := by decide +kernel
theorem dX7_readSpace_4 : decode cX7_readSpace 4 = .ok (.ifCond .ne 10, 3) := by decide +kernel
theorem dX7_readSpace_7 : decode cX7_readSpace 7 = .ok (.aload_n 0, 1) := by decide +kernel
theorem dX7_readSpace_8 : decode cX7_readSpace 8 = .ok (.getfield 64, 3) := by decide +kernel
theorem dX7_readSpace_11 : decode cX7_readSpace 11 = .ok (.ifCond .eq 9, 3) := by decide +kernel
theorem dX7_readSpace_14 : decode cX7_readSpace 14 = .ok (.aload_n 0, 1) := by decide +kernel
theorem dX7_readSpace_15 : decode cX7_readSpace 15 = .ok (.iconst 3, 1) := by decide +kernel
theorem dX7_readSpace_16 : decode cX7_readSpace 16 = .ok (.invokevirtual 106, 3) := by decide +kernel
theorem dX7_readSpace_19 : decode cX7_readSpace 19 = .ok (.ireturn, 1) := by decide +kernel
theorem dX7_readSpace_20 : decode cX7_readSpace 20 = .ok (.aload_n 0, 1) := by decide +kernel
theorem dX7_readSpace_21 : decode cX7_readSpace 21 = .ok (.iconst 1, 1) := by decide +kernel
theorem dX7_readSpace_22 : decode cX7_readSpace 22 = .ok (.putfield 51, 3) := by decide +kernel
theorem dX7_readSpace_25 : decode cX7_readSpace 25 = .ok (.aload_n 0, 1) := by decide +kernel
theorem dX7_readSpace_26 : decode cX7_readSpace 26 = .ok (.iconst 4, 1) := by decide +kernel
theorem dX7_readSpace_27 : decode cX7_readSpace 27 = .ok (.bipush 10, 2) := by decide +kernel
theorem dX7_readSpace_29 : decode cX7_readSpace 29 = .ok (.invokevirtual 110, 3) := by decide +kernel
theorem dX7_readSpace_32 : decode cX7_readSpace 32 = .ok (.ifCond .ne 5, 3) := by decide +kernel
theorem dX7_readSpace_35 : decode cX7_readSpace 35 = .ok (.iconst 0, 1) := by decide +kernel
theorem dX7_readSpace_36 : decode cX7_readSpace 36 = .ok (.ireturn, 1) := by decide +kernel
theorem dX7_readSpace_37 : decode cX7_readSpace 37 = .ok (.aload_n 0, 1) := by decide +kernel
theorem dX7_readSpace_38 : decode cX7_readSpace 38 = .ok (.getfield 22, 3) := by decide +kernel
theorem dX7_readSpace_41 : decode cX7_readSpace 41 = .ok (.iconst 1, 1) := by decide +kernel
theorem dX7_readSpace_42 : decode cX7_readSpace 42 = .ok (.aload_n 0, 1) := by decide +kernel
theorem dX7_readSpace_43 : decode cX7_readSpace 43 = .ok (.getfield 114, 3) := by decide +kernel
theorem dX7_readSpace_46 : decode cX7_readSpace 46 = .ok (.ishl, 1) := by decide +kernel
theorem dX7_readSpace_47 : decode cX7_readSpace 47 = .ok (.putfield 117, 3) := by decide +kernel
theorem dX7_readSpace_50 : decode cX7_readSpace 50 = .ok (.aload_n 0, 1) := by decide +kernel
theorem dX7_readSpace_51 : decode cX7_readSpace 51 = .ok (.invokevirtual 120, 3) := by decide +kernel
theorem dX7_readSpace_54 : decode cX7_readSpace 54 = .ok (.ireturn, 1) := by decide +kernel
theorem dX7_readRegisters_0 : decode cX7_readRegisters 0 = .ok (.aload_n 0, 1) := by decide +kernel
theorem dX7_readRegisters_1 : decode cX7_readRegisters 1 = .ok (.getfield 55, 3) := by decide +kernel
theorem dX7_readRegisters_4 : decode cX7_readRegisters 4 = .ok (.ifCond .ne 10, 3) := by decide +kernel
theorem dX7_readRegisters_7 : decode cX7_readRegisters 7 = .ok (.aload_n 0, 1) := by decide +kernel
theorem dX7_readRegisters_8 : decode cX7_readRegisters 8 = .ok (.getfield 64, 3) := by decide +kernel
theorem dX7_readRegisters_11 : decode cX7_readRegisters 11 = .ok (.ifCond .eq 9, 3) := by decide +kernel
theorem dX7_readRegisters_14 : decode cX7_readRegisters 14 = .ok (.aload_n 0, 1) := by decide +kernel
theorem dX7_readRegisters_15 : decode cX7_readRegisters 15 = .ok (.iconst 3, 1) := by decide +kernel
theorem dX7_readRegisters_16 : decode cX7_readRegisters 16 = .ok (.invokevirtual 106, 3) := by decide +kernel
theorem dX7_readRegisters_19 : decode cX7_readRegisters 19 = .ok (.ireturn, 1) := by decide +kernel
theorem dX7_readRegisters_20 : decode cX7_readRegisters 20 = .ok (.aload_n 0, 1) := by decide +kernel
theorem dX7_readRegisters_21 : decode cX7_readRegisters 21 = .ok (.iconst 1, 1) := by decide +kernel
theorem dX7_readRegisters_22 : decode cX7_readRegisters 22 = .ok (.putfield 55, 3) := by decide +kernel
theorem dX7_readRegisters_25 : decode cX7_readRegisters 25 = .ok (.aload_n 0, 1) := by decide +kernel
theorem dX7_readRegisters_26 : decode cX7_readRegisters 26 = .ok (.iconst 1, 1) := by decide +kernel
theorem dX7_readRegisters_27 : decode cX7_readRegisters 27 = .ok (.bipush 10, 2) := by decide +kernel
theorem dX7_readRegisters_29 : decode cX7_readRegisters 29 = .ok (.invokevirtual 110, 3) := by decide +kernel
theorem dX7_readRegisters_32 : decode cX7_readRegisters 32 = .ok (.ifCond .ne 5, 3) := by decide +kernel
theorem dX7_readRegisters_35 : decode cX7_readRegisters 35 = .ok (.iconst 0, 1) := by decide +kernel
theorem dX7_readRegisters_36 : decode cX7_readRegisters 36 = .ok (.ireturn, 1) := by decide +kernel
theorem dX7_readRegisters_37 : decode cX7_readRegisters 37 = .ok (.aload_n 0, 1) := by decide +kernel
theorem dX7_readRegisters_38 : decode cX7_readRegisters 38 = .ok (.getfield 22, 3) := by decide +kernel
theorem dX7_readRegisters_41 : decode cX7_readRegisters 41 = .ok (.aload_n 0, 1) := by decide +kernel
theorem dX7_readRegisters_42 : decode cX7_readRegisters 42 = .ok (.getfield 114, 3) := by decide +kernel
theorem dX7_readRegisters_45 : decode cX7_readRegisters 45 = .ok (.putfield 123, 3) := by decide +kernel
theorem dX7_readRegisters_48 : decode cX7_readRegisters 48 = .ok (.aload_n 0, 1) := by decide +kernel
theorem dX7_readRegisters_49 : decode cX7_readRegisters 49 = .ok (.invokevirtual 120, 3) := by decide +kernel
theorem dX7_readRegisters_52 : decode cX7_readRegisters 52 = .ok (.ireturn, 1) := by decide +kernel
theorem dX7_fixedStops_0 : decode cX7_fixedStops 0 = .ok (.aload_n 0, 1) := by decide +kernel
theorem dX7_fixedStops_1 : decode cX7_fixedStops 1 = .ok (.getfield 35, 3) := by decide +kernel
theorem dX7_fixedStops_4 : decode cX7_fixedStops 4 = .ok (.iconst 2, 1) := by decide +kernel
theorem dX7_fixedStops_5 : decode cX7_fixedStops 5 = .ok (.if_icmp .ne 7, 3) := by decide +kernel
theorem dX7_fixedStops_8 : decode cX7_fixedStops 8 = .ok (.iload_n 1, 1) := by decide +kernel
theorem dX7_fixedStops_9 : decode cX7_fixedStops 9 = .ok (.ifCond .ne 9, 3) := by decide +kernel
theorem dX7_fixedStops_12 : decode cX7_fixedStops 12 = .ok (.aload_n 0, 1) := by decide +kernel
theorem dX7_fixedStops_13 : decode cX7_fixedStops 13 = .ok (.iconst 1, 1) := by decide +kernel
theorem dX7_fixedStops_14 : decode cX7_fixedStops 14 = .ok (.invokevirtual 106, 3) := by decide +kernel
theorem dX7_fixedStops_17 : decode cX7_fixedStops 17 = .ok (.ireturn, 1) := by decide +kernel
theorem dX7_fixedStops_18 : decode cX7_fixedStops 18 = .ok (.iload_n 1, 1) := by decide +kernel
theorem dX7_fixedStops_19 : decode cX7_fixedStops 19 = .ok (.bipush 8, 2) := by decide +kernel
theorem dX7_fixedStops_21 : decode cX7_fixedStops 21 = .ok (.if_icmp .eq 11, 3) := by decide +kernel
theorem dX7_fixedStops_24 : decode cX7_fixedStops 24 = .ok (.aload_n 0, 1) := by decide +kernel
theorem dX7_fixedStops_25 : decode cX7_fixedStops 25 = .ok (.iconst 4, 1) := by decide +kernel
theorem dX7_fixedStops_26 : decode cX7_fixedStops 26 = .ok (.invokevirtual 106, 3) := by decide +kernel
theorem dX7_fixedStops_29 : decode cX7_fixedStops 29 = .ok (.ifCond .eq 7, 3) := by decide +kernel
theorem dX7_fixedStops_32 : decode cX7_fixedStops 32 = .ok (.iconst 1, 1) := by decide +kernel
theorem dX7_fixedStops_33 : decode cX7_fixedStops 33 = .ok (.goto 4, 3) := by decide +kernel
theorem dX7_fixedStops_36 : decode cX7_fixedStops 36 = .ok (.iconst 0, 1) := by decide +kernel
theorem dX7_fixedStops_37 : decode cX7_fixedStops 37 = .ok (.ireturn, 1) := by decide +kernel
section G19_reader_lean_txt
variable {p : Program} {l : Launch} {e : Env} {s : State} {m : MethodId} {args : Array Value} {below : List Frame} {meth : Method} {c : Code} {H : Heap} {locs : List Loc} {ls : Array Slot} {E : Ge} {L : Lay} {fu d : Nat}
def fX7_append_j49 (fu : Nat) (M : Mm) : Option Mm :=
  some M
set_option maxRecDepth 100000 in
set_option maxHeartbeats 4000000 in
theorem wX7_append_j49 {M' : Mm}    {M : Mm} (B : Bx p s m args c cX7_append 3 RX7 E L) (hr : meth.sig.returnType = none) (hlk : meth.locks = false)   (h : fX7_append_j49 fu M = some M') (hR : Rx s E L M H locs) (hl : lv_has ls 3 []) : W p l e (rmD (d + 0)) s m args below meth c H locs 0 0 (MQ below (QcM E L none M') args s 0 0 E.2.2.2) (F0 m 49 ls []) := by
  have hx := B.1
  have hb := B.2.1
  unfold fX7_append_j49 at h
  exact r_vretW B hR hr hlk h dX7_append_49
def fX7_append_j43 (fu : Nat) (k3 : Int32 → Mm → Option Mm) (a0 : Nat) (x1 : Int32) (x2 : Int32) (M : Mm) : Option Mm :=
  lt (x2 + (-8)) fun x2_43 =>
  k3 x2_43 M
set_option maxRecDepth 100000 in
set_option maxHeartbeats 4000000 in
theorem wX7_append_j43 {M' : Mm}  {k3 : Int32 → Mm → Option Mm} {a0 : Nat} {x1 : Int32} {x2 : Int32} {M : Mm} (B : Bx p s m args c cX7_append 3 RX7 E L) (hr : meth.sig.returnType = none) (hlk : meth.locks = false) (ih3 : ∀ (x2 : Int32) (M : Mm), k3 x2 M = some M' → ∀ (H : Heap) (locs : List Loc) (ls : Array Slot), Rx s E L M H locs → lv_has ls 3 [(0, .ref a0), (1, .int x1), (2, .int x2)] → W p l e (rmD (d + 0)) s m args below meth c H locs 0 0 (MQ below (QcM E L none M') args s 0 0 E.2.2.2) (F0 m 3 ls [])) (h0 : At L a0 T7) (h : fX7_append_j43 fu k3 a0 x1 x2 M = some M') (hR : Rx s E L M H locs) (hl : lv_has ls 3 [(0, .ref a0), (1, .int x1), (2, .int x2)]) : W p l e (rmD (d + 0)) s m args below meth c H locs 0 0 (MQ below (QcM E L none M') args s 0 0 E.2.2.2) (F0 m 43 ls []) := by
  have hx := B.1
  have hb := B.2.1
  unfold fX7_append_j43 at h
  obtain ⟨x2_43, ex2_43, h⟩ := lt_el h
  refine lv_iinc (v := x2_43) (lv' := [(2, .int x2_43), (0, .ref a0), (1, .int x1)]) hx hb dX7_append_43 hl (k := 2) rfl (by rw [ex2_43]; rfl) (by decide) rfl (fun ls hl => ?_)
  refine lv_goto (tgt := 3) hx hb dX7_append_46 (by decide) ?_
  exact ih3 x2_43 M h _ _ _ hR (lv_sub hl [1, 2, 0] rfl)
def fX7_append_b3 (fu : Nat) (k3 : Int32 → Mm → Option Mm) (a0 : Nat) (x1 : Int32) (x2 : Int32) (M : Mm) : Option Mm :=
  if x2 < 0 then
    fX7_append_j49 fu M
  else
    if 800 ≤ (M.1 a0 1) then
      fX7_append_j43 fu k3 a0 x1 x2 M
    else
      if (M.1 a0 1) < 0 ∨ 800 ≤ ix (M.1 a0 1) then none else
      lt (wI M (a0 + 1) (ix (M.1 a0 1)) ((((x1 : Int32).toUInt32 >>> ((x2 : Int32).toUInt32 &&& Int32.toUInt32 31)).toInt32) &&& 255)) fun M_32 =>
      lt (wI M_32 a0 1 ((M_32.1 a0 1) + 1)) fun M_40 =>
      fX7_append_j43 fu k3 a0 x1 x2 M_40
set_option maxRecDepth 100000 in
set_option maxHeartbeats 4000000 in
theorem wX7_append_b3 {M' : Mm}   {k3 : Int32 → Mm → Option Mm} {a0 : Nat} {x1 : Int32} {x2 : Int32} {M : Mm} (B : Bx p s m args c cX7_append 3 RX7 E L) (hr : meth.sig.returnType = none) (hlk : meth.locks = false)  (ih3 : ∀ (x2 : Int32) (M : Mm), k3 x2 M = some M' → ∀ (H : Heap) (locs : List Loc) (ls : Array Slot), Rx s E L M H locs → lv_has ls 3 [(0, .ref a0), (1, .int x1), (2, .int x2)] → W p l e (rmD (d + 0)) s m args below meth c H locs 0 0 (MQ below (QcM E L none M') args s 0 0 E.2.2.2) (F0 m 3 ls [])) (h0 : At L a0 T7) (h : fX7_append_b3 fu k3 a0 x1 x2 M = some M') (hR : Rx s E L M H locs) (hl : lv_has ls 3 [(0, .ref a0), (1, .int x1), (2, .int x2)]) : W p l e (rmD (d + 0)) s m args below meth c H locs 0 0 (MQ below (QcM E L none M') args s 0 0 E.2.2.2) (F0 m 3 ls []) := by
  have hx := B.1
  have hb := B.2.1
  unfold fX7_append_b3 at h
  refine lv_iload_n hx hb dX7_append_3 rfl (lv_at hl 2 rfl) ?_
  refine lv_if_lt (tgt := 49) hx hb dX7_append_4 (by decide) (fun c_4 => ?_) (fun c_4 => ?_)
  · rw [if_pos c_4] at h
    exact wX7_append_j49 B hr hlk  h hR (lv_sub hl [] rfl)
  · rw [if_neg c_4] at h
    refine lv_aload_n hx hb dX7_append_7 rfl (lv_at hl 0 rfl) ?_
    refine gf_X7_26 B hR (h0.at0 rfl) dX7_append_8 ?_
    refine lv_sipush (v := 800) hx hb dX7_append_11 (by decide) ?_
    refine lv_icmp_ge (tgt := 43) hx hb dX7_append_14 (by decide) (fun c_14 => ?_) (fun c_14 => ?_)
    · rw [if_pos c_14] at h
      exact wX7_append_j43 B hr hlk ih3 h0 h hR hl
    · rw [if_neg c_14] at h
      refine lv_aload_n hx hb dX7_append_17 rfl (lv_at hl 0 rfl) ?_
      refine gf_X7_9 B hR (h0.at0 rfl) dX7_append_18 ?_
      refine lv_aload_n hx hb dX7_append_21 rfl (lv_at hl 0 rfl) ?_
      refine gf_X7_26 B hR (h0.at0 rfl) dX7_append_22 ?_
      refine lv_iload_n hx hb dX7_append_25 rfl (lv_at hl 1 rfl) ?_
      refine lv_iload_n hx hb dX7_append_26 rfl (lv_at hl 2 rfl) ?_
      refine lv_iushr hx hb dX7_append_27 rfl ?_
      refine lv_sipush (v := 255) hx hb dX7_append_28 (by decide) ?_
      refine lv_iand hx hb dX7_append_31 ?_
      obtain ⟨hi_32, h⟩ := ifn_el h
      obtain ⟨M_32, eM_32, h⟩ := lt_el h
      refine r_iast B hR (h0.at 1 rfl) hi_32 dX7_append_32 (fun H locs hR => ?_)
      rw [← eM_32] at hR
      refine lv_aload_n hx hb dX7_append_33 rfl (lv_at hl 0 rfl) ?_
      refine lv_dup hx hb dX7_append_34 rfl ?_
      refine gf_X7_26 B hR (h0.at0 rfl) dX7_append_35 ?_
      refine lv_iconst (v := 1) hx hb dX7_append_38 (by decide) ?_
      refine lv_iadd hx hb dX7_append_39 ?_
      obtain ⟨M_40, eM_40, h⟩ := lt_el h
      refine pf_X7_26 B hR (h0.at0 rfl) dX7_append_40 (fun H locs hR => ?_)
      rw [← eM_40] at hR
      exact wX7_append_j43 B hr hlk ih3 h0 h hR hl
def fX7_append_l3 (fu : Nat) (a0 : Nat) (x1 : Int32) (x2 : Int32) (M : Mm) : Option Mm := lp (fun (rec : (Int32 × Mm) → Option Mm) (s : Int32 × Mm) => fX7_append_b3 fu  (fun x2 M => rec (x2, M)) a0 x1 s.1 s.2) fu (x2, M)
set_option maxRecDepth 100000 in
set_option maxHeartbeats 4000000 in
theorem wX7_append_l3 {M' : Mm}   {a0 : Nat} {x1 : Int32} {x2 : Int32} {M : Mm} (B : Bx p s m args c cX7_append 3 RX7 E L) (hr : meth.sig.returnType = none) (hlk : meth.locks = false)  (h0 : At L a0 T7) (h : fX7_append_l3 fu a0 x1 x2 M = some M') (hR : Rx s E L M H locs) (hl : lv_has ls 3 [(0, .ref a0), (1, .int x1), (2, .int x2)]) : W p l e (rmD (d + 0)) s m args below meth c H locs 0 0 (MQ below (QcM E L none M') args s 0 0 E.2.2.2) (F0 m 3 ls []) := by
  refine lp_G (G := fun z : Int32 × Mm => ∀ (H : Heap) (locs : List Loc) (ls : Array Slot), Rx s E L z.2 H locs → lv_has ls 3 [(0, .ref a0), (1, .int x1), (2, .int z.1)] → W p l e (rmD (d + 0)) s m args below meth c H locs 0 0 (MQ below (QcM E L none M') args s 0 0 E.2.2.2) (F0 m 3 ls [])) (fun rec ih z h H locs ls hR hl => ?_) fu _ h H locs ls hR hl
  exact wX7_append_b3 B hr hlk  (fun x2 M h => ih (x2, M) h) h0 h hR hl
def fX7_append (fu : Nat) (a0 : Nat) (x1 : Int32) (M : Mm) : Option Mm :=
  fX7_append_l3 fu a0 x1 24 M
set_option maxRecDepth 100000 in
set_option maxHeartbeats 4000000 in
theorem mX7_append {l : Launch} {E : Ge} {L : Lay} (fu d : Nat) {a0 : Nat} {x1 : Int32} {M : Mm} {M' : Mm}  (h0 : At L a0 T7) (h : fX7_append fu a0 x1 M = some M') : Ct l E L yX7_append cX7_append 3 none (d + 0) [.ref a0, .int x1] M none M' := by
  refine Ct.of (by decide) ?_
  intro p e s m below meth c hr hlk B hR
  have B : Bx p s m _ c cX7_append 3 RX7 E L := B
  have hx := B.1
  have hb := B.2.1
  have hl := lv_entry ([.ref a0, .int x1]) (n := 3) (Nat.le_of_ble_eq_true rfl)
  rw [lg_entry_eq]
  generalize (lg_sl ([.ref a0, .int x1]) ++ List.replicate (3 - (lg_sl ([.ref a0, .int x1])).length) Slot.unset).toArray = ls at hl ⊢
  have hl : lv_has ls 3 [(0, .ref a0), (1, .int x1)] := hl
  unfold fX7_append at h
  refine lv_bipush (v := 24) hx hb dX7_append_0 (by decide) ?_
  refine lv_istore_n (lv' := [(2, .int 24), (0, .ref a0), (1, .int x1)]) hx hb dX7_append_2 rfl hl (by decide) rfl (fun ls hl => ?_)
  exact wX7_append_l3 B hr hlk h0 h hR (lv_sub hl [1, 2, 0] rfl)
def fX7_begin (fu : Nat) (a0 : Nat) (M : Mm) : Option Mm :=
  bm (fX8_wipe fu (a0 + 2) M) fun M_4 =>
  lt (wI M_4 a0 2 0) fun M_9 =>
  lt (wI M_9 a0 3 (-1)) fun M_14 =>
  lt (wI M_14 a0 5 0) fun M_19 =>
  lt (wI M_19 a0 9 0) fun M_24 =>
  lt (wI M_24 a0 10 0) fun M_29 =>
  lt (wI M_29 a0 11 0) fun M_34 =>
  lt (wI M_34 a0 12 0) fun M_39 =>
  lt (wI M_39 a0 13 0) fun M_44 =>
  some M_44
set_option maxRecDepth 100000 in
set_option maxHeartbeats 4000000 in
theorem mX7_begin {l : Launch} {E : Ge} {L : Lay} (fu d : Nat) {a0 : Nat} {M : Mm} {M' : Mm}  (h0 : At L a0 T7) (h : fX7_begin fu a0 M = some M') : Ct l E L yX7_begin cX7_begin 1 none (d + 2) [.ref a0] M none M' := by
  refine Ct.of (by decide) ?_
  intro p e s m below meth c hr hlk B hR
  have B : Bx p s m _ c cX7_begin 1 RX7 E L := B
  have hx := B.1
  have hb := B.2.1
  have hl := lv_entry ([.ref a0]) (n := 1) (Nat.le_of_ble_eq_true rfl)
  rw [lg_entry_eq]
  generalize (lg_sl ([.ref a0]) ++ List.replicate (1 - (lg_sl ([.ref a0])).length) Slot.unset).toArray = ls at hl ⊢
  have hl : lv_has ls 1 [(0, .ref a0)] := hl
  unfold fX7_begin at h
  refine lv_aload_n hx hb dX7_begin_0 rfl (lv_at hl 0 rfl) ?_
  refine gf_X7_22 B hR (h0.at0 rfl) dX7_begin_1 ?_
  obtain ⟨M_4, hc_4, h⟩ := bm_el h
  refine iv_X7_42 B hR ((sb_7_4 h0).at0 rfl) hl.1 (mX8_wipe fu _ (sb_7_4 h0) hc_4) (Nat.le_of_ble_eq_true rfl) dX7_begin_4 (fun H locs hR => ?_)
  refine lv_aload_n hx hb dX7_begin_7 rfl (lv_at hl 0 rfl) ?_
  refine lv_iconst (v := 0) hx hb dX7_begin_8 (by decide) ?_
  obtain ⟨M_9, eM_9, h⟩ := lt_el h
  refine pf_X7_45 B hR (h0.at0 rfl) dX7_begin_9 (fun H locs hR => ?_)
  rw [← eM_9] at hR
  refine lv_aload_n hx hb dX7_begin_12 rfl (lv_at hl 0 rfl) ?_
  refine lv_iconst (v := (-1)) hx hb dX7_begin_13 (by decide) ?_
  obtain ⟨M_14, eM_14, h⟩ := lt_el h
  refine pf_X7_15 B hR (h0.at0 rfl) dX7_begin_14 (fun H locs hR => ?_)
  rw [← eM_14] at hR
  refine lv_aload_n hx hb dX7_begin_17 rfl (lv_at hl 0 rfl) ?_
  refine lv_iconst (v := 0) hx hb dX7_begin_18 (by decide) ?_
  obtain ⟨M_19, eM_19, h⟩ := lt_el h
  refine pf_X7_48 B hR (h0.at0 rfl) dX7_begin_19 (fun H locs hR => ?_)
  rw [← eM_19] at hR
  refine lv_aload_n hx hb dX7_begin_22 rfl (lv_at hl 0 rfl) ?_
  refine lv_iconst (v := 0) hx hb dX7_begin_23 (by decide) ?_
  obtain ⟨M_24, eM_24, h⟩ := lt_el h
  refine pz_X7_51 B hR (h0.at0 rfl) (Or.inl rfl) dX7_begin_24 (fun H locs hR => ?_)
  rw [← eM_24] at hR
  refine lv_aload_n hx hb dX7_begin_27 rfl (lv_at hl 0 rfl) ?_
  refine lv_iconst (v := 0) hx hb dX7_begin_28 (by decide) ?_
  obtain ⟨M_29, eM_29, h⟩ := lt_el h
  refine pz_X7_55 B hR (h0.at0 rfl) (Or.inl rfl) dX7_begin_29 (fun H locs hR => ?_)
  rw [← eM_29] at hR
  refine lv_aload_n hx hb dX7_begin_32 rfl (lv_at hl 0 rfl) ?_
  refine lv_iconst (v := 0) hx hb dX7_begin_33 (by decide) ?_
  obtain ⟨M_34, eM_34, h⟩ := lt_el h
  refine pz_X7_58 B hR (h0.at0 rfl) (Or.inl rfl) dX7_begin_34 (fun H locs hR => ?_)
  rw [← eM_34] at hR
  refine lv_aload_n hx hb dX7_begin_37 rfl (lv_at hl 0 rfl) ?_
  refine lv_iconst (v := 0) hx hb dX7_begin_38 (by decide) ?_
  obtain ⟨M_39, eM_39, h⟩ := lt_el h
  refine pz_X7_61 B hR (h0.at0 rfl) (Or.inl rfl) dX7_begin_39 (fun H locs hR => ?_)
  rw [← eM_39] at hR
  refine lv_aload_n hx hb dX7_begin_42 rfl (lv_at hl 0 rfl) ?_
  refine lv_iconst (v := 0) hx hb dX7_begin_43 (by decide) ?_
  obtain ⟨M_44, eM_44, h⟩ := lt_el h
  refine pz_X7_64 B hR (h0.at0 rfl) (Or.inl rfl) dX7_begin_44 (fun H locs hR => ?_)
  rw [← eM_44] at hR
  exact r_vretW B hR hr hlk h dX7_begin_47
def fX7_failed (fu : Nat) (a0 : Nat) (x1 : Int32) (M : Mm) : Option (Int32 × Mm) :=
  lt (wI M a0 2 x1) fun M_2 =>
  lt (wI M_2 a0 3 (M_2.1 a0 6)) fun M_10 =>
  some (0, M_10)
set_option maxRecDepth 100000 in
set_option maxHeartbeats 4000000 in
theorem mX7_failed {l : Launch} {E : Ge} {L : Lay} (fu d : Nat) {a0 : Nat} {x1 : Int32} {M : Mm} {r : Int32} {M' : Mm}  (h0 : At L a0 T7) (h : fX7_failed fu a0 x1 M = some (r, M')) : Ct l E L yX7_failed cX7_failed 2 (some .boolean) (d + 0) [.ref a0, .int x1] M (some (.int r)) M' := by
  refine Ct.of (by decide) ?_
  intro p e s m below meth c hr hlk B hR
  have B : Bx p s m _ c cX7_failed 2 RX7 E L := B
  have hx := B.1
  have hb := B.2.1
  have hl := lv_entry ([.ref a0, .int x1]) (n := 2) (Nat.le_of_ble_eq_true rfl)
  rw [lg_entry_eq]
  generalize (lg_sl ([.ref a0, .int x1]) ++ List.replicate (2 - (lg_sl ([.ref a0, .int x1])).length) Slot.unset).toArray = ls at hl ⊢
  have hl : lv_has ls 2 [(0, .ref a0), (1, .int x1)] := hl
  unfold fX7_failed at h
  refine lv_aload_n hx hb dX7_failed_0 rfl (lv_at hl 0 rfl) ?_
  refine lv_iload_n hx hb dX7_failed_1 rfl (lv_at hl 1 rfl) ?_
  obtain ⟨M_2, eM_2, h⟩ := lt_el h
  refine pf_X7_45 B hR (h0.at0 rfl) dX7_failed_2 (fun H locs hR => ?_)
  rw [← eM_2] at hR
  refine lv_aload_n hx hb dX7_failed_5 rfl (lv_at hl 0 rfl) ?_
  refine lv_aload_n hx hb dX7_failed_6 rfl (lv_at hl 0 rfl) ?_
  refine gf_X7_183 B hR (h0.at0 rfl) dX7_failed_7 ?_
  obtain ⟨M_10, eM_10, h⟩ := lt_el h
  refine pf_X7_15 B hR (h0.at0 rfl) dX7_failed_10 (fun H locs hR => ?_)
  rw [← eM_10] at hR
  refine lv_iconst (v := 0) hx hb dX7_failed_13 (by decide) ?_
  exact r_zretW B hR hr hlk (Or.inl rfl) h dX7_failed_14
def fX7_isLetter_j17 (fu : Nat) (t0 : Int32) : Option Int32 :=
  gd (t0 = 0 ∨ t0 = 1) <|
  some t0
set_option maxRecDepth 100000 in
set_option maxHeartbeats 4000000 in
theorem wX7_isLetter_j17 {r : Int32}   {t0 : Int32} {M : Mm} (B : Bx p s m args c cX7_isLetter 1 RX7 E L) (hr : meth.sig.returnType = (some .boolean)) (hlk : meth.locks = false)   (h : fX7_isLetter_j17 fu t0 = some r) (hR : Rx s E L M H locs) (hl : lv_has ls 1 []) : W p l e (rmD (d + 0)) s m args below meth c H locs 0 0 (MQ below (QcM E L (some (.int r)) M) args s 0 0 E.2.2.2) (F0 m 17 ls [.int t0]) := by
  have hx := B.1
  have hb := B.2.1
  unfold fX7_isLetter_j17 at h
  obtain ⟨hz_17, h⟩ := gd_el h
  exact r_zretP B hR hr hlk hz_17 h dX7_isLetter_17
def fX7_isLetter_j16 (fu : Nat)  : Option Int32 :=
  fX7_isLetter_j17 fu 0
set_option maxRecDepth 100000 in
set_option maxHeartbeats 4000000 in
theorem wX7_isLetter_j16 {r : Int32}    {M : Mm} (B : Bx p s m args c cX7_isLetter 1 RX7 E L) (hr : meth.sig.returnType = (some .boolean)) (hlk : meth.locks = false)   (h : fX7_isLetter_j16 fu  = some r) (hR : Rx s E L M H locs) (hl : lv_has ls 1 []) : W p l e (rmD (d + 0)) s m args below meth c H locs 0 0 (MQ below (QcM E L (some (.int r)) M) args s 0 0 E.2.2.2) (F0 m 16 ls []) := by
  have hx := B.1
  have hb := B.2.1
  unfold fX7_isLetter_j16 at h
  refine lv_iconst (v := 0) hx hb dX7_isLetter_16 (by decide) ?_
  exact wX7_isLetter_j17 B hr hlk  h hR hl
def fX7_isLetter (fu : Nat) (x0 : Int32) : Option Int32 :=
  if x0 < 97 then
    fX7_isLetter_j16 fu 
  else
    if 122 < x0 then
      fX7_isLetter_j16 fu 
    else
      fX7_isLetter_j17 fu 1
set_option maxRecDepth 100000 in
set_option maxHeartbeats 4000000 in
theorem mX7_isLetter {l : Launch} {E : Ge} {L : Lay} (fu d : Nat) {x0 : Int32} {M : Mm} {r : Int32}   (h : fX7_isLetter fu x0 = some r) : Ct l E L yX7_isLetter cX7_isLetter 1 (some .boolean) (d + 0) [.int x0] M (some (.int r)) M := by
  refine Ct.of (by decide) ?_
  intro p e s m below meth c hr hlk B hR
  have B : Bx p s m _ c cX7_isLetter 1 RX7 E L := B
  have hx := B.1
  have hb := B.2.1
  have hl := lv_entry ([.int x0]) (n := 1) (Nat.le_of_ble_eq_true rfl)
  rw [lg_entry_eq]
  generalize (lg_sl ([.int x0]) ++ List.replicate (1 - (lg_sl ([.int x0])).length) Slot.unset).toArray = ls at hl ⊢
  have hl : lv_has ls 1 [(0, .int x0)] := hl
  unfold fX7_isLetter at h
  refine lv_iload_n hx hb dX7_isLetter_0 rfl (lv_at hl 0 rfl) ?_
  refine lv_bipush (v := 97) hx hb dX7_isLetter_1 (by decide) ?_
  refine lv_icmp_lt (tgt := 16) hx hb dX7_isLetter_3 (by decide) (fun c_3 => ?_) (fun c_3 => ?_)
  · rw [if_pos c_3] at h
    exact wX7_isLetter_j16 B hr hlk  h hR (lv_sub hl [] rfl)
  · rw [if_neg c_3] at h
    refine lv_iload_n hx hb dX7_isLetter_6 rfl (lv_at hl 0 rfl) ?_
    refine lv_bipush (v := 122) hx hb dX7_isLetter_7 (by decide) ?_
    refine lv_icmp_gt (tgt := 16) hx hb dX7_isLetter_9 (by decide) (fun c_9 => ?_) (fun c_9 => ?_)
    · rw [if_pos c_9] at h
      exact wX7_isLetter_j16 B hr hlk  h hR (lv_sub hl [] rfl)
    · rw [if_neg c_9] at h
      refine lv_iconst (v := 1) hx hb dX7_isLetter_12 (by decide) ?_
      refine lv_goto (tgt := 17) hx hb dX7_isLetter_13 (by decide) ?_
      exact wX7_isLetter_j17 B hr hlk  h hR (lv_sub hl [] rfl)
def fX7_isDigit_j17 (fu : Nat) (t0 : Int32) : Option Int32 :=
  gd (t0 = 0 ∨ t0 = 1) <|
  some t0
set_option maxRecDepth 100000 in
set_option maxHeartbeats 4000000 in
theorem wX7_isDigit_j17 {r : Int32}   {t0 : Int32} {M : Mm} (B : Bx p s m args c cX7_isDigit 1 RX7 E L) (hr : meth.sig.returnType = (some .boolean)) (hlk : meth.locks = false)   (h : fX7_isDigit_j17 fu t0 = some r) (hR : Rx s E L M H locs) (hl : lv_has ls 1 []) : W p l e (rmD (d + 0)) s m args below meth c H locs 0 0 (MQ below (QcM E L (some (.int r)) M) args s 0 0 E.2.2.2) (F0 m 17 ls [.int t0]) := by
  have hx := B.1
  have hb := B.2.1
  unfold fX7_isDigit_j17 at h
  obtain ⟨hz_17, h⟩ := gd_el h
  exact r_zretP B hR hr hlk hz_17 h dX7_isDigit_17
def fX7_isDigit_j16 (fu : Nat)  : Option Int32 :=
  fX7_isDigit_j17 fu 0
set_option maxRecDepth 100000 in
set_option maxHeartbeats 4000000 in
theorem wX7_isDigit_j16 {r : Int32}    {M : Mm} (B : Bx p s m args c cX7_isDigit 1 RX7 E L) (hr : meth.sig.returnType = (some .boolean)) (hlk : meth.locks = false)   (h : fX7_isDigit_j16 fu  = some r) (hR : Rx s E L M H locs) (hl : lv_has ls 1 []) : W p l e (rmD (d + 0)) s m args below meth c H locs 0 0 (MQ below (QcM E L (some (.int r)) M) args s 0 0 E.2.2.2) (F0 m 16 ls []) := by
  have hx := B.1
  have hb := B.2.1
  unfold fX7_isDigit_j16 at h
  refine lv_iconst (v := 0) hx hb dX7_isDigit_16 (by decide) ?_
  exact wX7_isDigit_j17 B hr hlk  h hR hl
def fX7_isDigit (fu : Nat) (x0 : Int32) : Option Int32 :=
  if x0 < 48 then
    fX7_isDigit_j16 fu 
  else
    if 57 < x0 then
      fX7_isDigit_j16 fu 
    else
      fX7_isDigit_j17 fu 1
set_option maxRecDepth 100000 in
set_option maxHeartbeats 4000000 in
theorem mX7_isDigit {l : Launch} {E : Ge} {L : Lay} (fu d : Nat) {x0 : Int32} {M : Mm} {r : Int32}   (h : fX7_isDigit fu x0 = some r) : Ct l E L yX7_isDigit cX7_isDigit 1 (some .boolean) (d + 0) [.int x0] M (some (.int r)) M := by
  refine Ct.of (by decide) ?_
  intro p e s m below meth c hr hlk B hR
  have B : Bx p s m _ c cX7_isDigit 1 RX7 E L := B
  have hx := B.1
  have hb := B.2.1
  have hl := lv_entry ([.int x0]) (n := 1) (Nat.le_of_ble_eq_true rfl)
  rw [lg_entry_eq]
  generalize (lg_sl ([.int x0]) ++ List.replicate (1 - (lg_sl ([.int x0])).length) Slot.unset).toArray = ls at hl ⊢
  have hl : lv_has ls 1 [(0, .int x0)] := hl
  unfold fX7_isDigit at h
  refine lv_iload_n hx hb dX7_isDigit_0 rfl (lv_at hl 0 rfl) ?_
  refine lv_bipush (v := 48) hx hb dX7_isDigit_1 (by decide) ?_
  refine lv_icmp_lt (tgt := 16) hx hb dX7_isDigit_3 (by decide) (fun c_3 => ?_) (fun c_3 => ?_)
  · rw [if_pos c_3] at h
    exact wX7_isDigit_j16 B hr hlk  h hR (lv_sub hl [] rfl)
  · rw [if_neg c_3] at h
    refine lv_iload_n hx hb dX7_isDigit_6 rfl (lv_at hl 0 rfl) ?_
    refine lv_bipush (v := 57) hx hb dX7_isDigit_7 (by decide) ?_
    refine lv_icmp_gt (tgt := 16) hx hb dX7_isDigit_9 (by decide) (fun c_9 => ?_) (fun c_9 => ?_)
    · rw [if_pos c_9] at h
      exact wX7_isDigit_j16 B hr hlk  h hR (lv_sub hl [] rfl)
    · rw [if_neg c_9] at h
      refine lv_iconst (v := 1) hx hb dX7_isDigit_12 (by decide) ?_
      refine lv_goto (tgt := 17) hx hb dX7_isDigit_13 (by decide) ?_
      exact wX7_isDigit_j17 B hr hlk  h hR (lv_sub hl [] rfl)
def fX7_next_j264 (fu : Nat) (M : Mm) : Option Mm :=
  some M
set_option maxRecDepth 100000 in
set_option maxHeartbeats 4000000 in
theorem wX7_next_j264 {M' : Mm}    {M : Mm} (B : Bx p s m args c cX7_next 1 RX7 E L) (hr : meth.sig.returnType = none) (hlk : meth.locks = false)   (h : fX7_next_j264 fu M = some M') (hR : Rx s E L M H locs) (hl : lv_has ls 1 []) : W p l e (rmD (d + 1)) s m args below meth c H locs 0 0 (MQ below (QcM E L none M') args s 0 0 E.2.2.2) (F0 m 264 ls []) := by
  have hx := B.1
  have hb := B.2.1
  unfold fX7_next_j264 at h
  exact r_vretW B hR hr hlk h dX7_next_264
def fX7_next_j251 (fu : Nat) (a0 : Nat) (b0 : Nat) (t1 : Int32) (M : Mm) : Option Mm :=
  lt (wI M b0 7 t1) fun M_251 =>
  lt (wI M_251 a0 5 ((M_251.1 a0 5) + 1)) fun M_261 =>
  fX7_next_j264 fu M_261
set_option maxRecDepth 100000 in
set_option maxHeartbeats 4000000 in
theorem wX7_next_j251 {M' : Mm}   {a0 : Nat} {b0 : Nat} {t1 : Int32} {M : Mm} (B : Bx p s m args c cX7_next 1 RX7 E L) (hr : meth.sig.returnType = none) (hlk : meth.locks = false)  (h0 : At L a0 T7) (g0 : At L b0 T7) (h : fX7_next_j251 fu a0 b0 t1 M = some M') (hR : Rx s E L M H locs) (hl : lv_has ls 1 [(0, .ref a0)]) : W p l e (rmD (d + 1)) s m args below meth c H locs 0 0 (MQ below (QcM E L none M') args s 0 0 E.2.2.2) (F0 m 251 ls [.int t1, .ref b0]) := by
  have hx := B.1
  have hb := B.2.1
  unfold fX7_next_j251 at h
  obtain ⟨M_251, eM_251, h⟩ := lt_el h
  refine pf_X7_35 B hR (g0.at0 rfl) dX7_next_251 (fun H locs hR => ?_)
  rw [← eM_251] at hR
  refine lv_aload_n hx hb dX7_next_254 rfl (lv_at hl 0 rfl) ?_
  refine lv_dup hx hb dX7_next_255 rfl ?_
  refine gf_X7_48 B hR (h0.at0 rfl) dX7_next_256 ?_
  refine lv_iconst (v := 1) hx hb dX7_next_259 (by decide) ?_
  refine lv_iadd hx hb dX7_next_260 ?_
  obtain ⟨M_261, eM_261, h⟩ := lt_el h
  refine pf_X7_48 B hR (h0.at0 rfl) dX7_next_261 (fun H locs hR => ?_)
  rw [← eM_261] at hR
  exact wX7_next_j264 B hr hlk  h hR (lv_sub hl [] rfl)
def fX7_next_b163 (fu : Nat) (k163 : Mm → Option Mm) (a0 : Nat) (M : Mm) : Option Mm :=
  if (M.1 a0 1) ≤ (M.1 a0 5) then
    fX7_next_j264 fu M
  else
    if (M.1 a0 5) < 0 ∨ 800 ≤ ix (M.1 a0 5) then none else
    bi (fX7_isDigit fu (M.1 (a0 + 1) (ix (M.1 a0 5)))) fun r_183 =>
    if r_183 = 0 then
      fX7_next_j264 fu M
    else
      lt (wI M a0 8 (if ((((M.1 a0 8) * 10) + (M.1 (a0 + 1) (ix (M.1 a0 5)))) - 48) < 1000000 then ((((M.1 a0 8) * 10) + (M.1 (a0 + 1) (ix (M.1 a0 5)))) - 48) else 1000000)) fun M_215 =>
      lt (wI M_215 a0 5 ((M_215.1 a0 5) + 1)) fun M_225 =>
      k163 M_225
set_option maxRecDepth 100000 in
set_option maxHeartbeats 4000000 in
theorem wX7_next_b163 {M' : Mm}   {k163 : Mm → Option Mm} {a0 : Nat} {M : Mm} (B : Bx p s m args c cX7_next 1 RX7 E L) (hr : meth.sig.returnType = none) (hlk : meth.locks = false)  (ih163 : ∀ (M : Mm), k163 M = some M' → ∀ (H : Heap) (locs : List Loc) (ls : Array Slot), Rx s E L M H locs → lv_has ls 1 [(0, .ref a0)] → W p l e (rmD (d + 1)) s m args below meth c H locs 0 0 (MQ below (QcM E L none M') args s 0 0 E.2.2.2) (F0 m 163 ls [])) (h0 : At L a0 T7) (h : fX7_next_b163 fu k163 a0 M = some M') (hR : Rx s E L M H locs) (hl : lv_has ls 1 [(0, .ref a0)]) : W p l e (rmD (d + 1)) s m args below meth c H locs 0 0 (MQ below (QcM E L none M') args s 0 0 E.2.2.2) (F0 m 163 ls []) := by
  have hx := B.1
  have hb := B.2.1
  unfold fX7_next_b163 at h
  refine lv_aload_n hx hb dX7_next_163 rfl (lv_at hl 0 rfl) ?_
  refine gf_X7_48 B hR (h0.at0 rfl) dX7_next_164 ?_
  refine lv_aload_n hx hb dX7_next_167 rfl (lv_at hl 0 rfl) ?_
  refine gf_X7_26 B hR (h0.at0 rfl) dX7_next_168 ?_
  refine lv_icmp_ge (tgt := 264) hx hb dX7_next_171 (by decide) (fun c_171 => ?_) (fun c_171 => ?_)
  · rw [if_pos c_171] at h
    exact wX7_next_j264 B hr hlk  h hR (lv_sub hl [] rfl)
  · rw [if_neg c_171] at h
    refine lv_aload_n hx hb dX7_next_174 rfl (lv_at hl 0 rfl) ?_
    refine gf_X7_9 B hR (h0.at0 rfl) dX7_next_175 ?_
    refine lv_aload_n hx hb dX7_next_178 rfl (lv_at hl 0 rfl) ?_
    refine gf_X7_48 B hR (h0.at0 rfl) dX7_next_179 ?_
    obtain ⟨hi_182, h⟩ := ifn_el h
    refine r_iald B hR (h0.at 1 rfl) hi_182 dX7_next_182 ?_
    obtain ⟨r_183, hc_183, h⟩ := bi_el h
    refine is_X7_189 B hR hl.1 (mX7_isDigit fu _  hc_183) (Nat.le_of_ble_eq_true rfl) dX7_next_183 (fun H locs hR => ?_)
    refine lv_if_eq (tgt := 264) hx hb dX7_next_186 (by decide) (fun c_186 => ?_) (fun c_186 => ?_)
    · rw [if_pos c_186] at h
      exact wX7_next_j264 B hr hlk  h hR (lv_sub hl [] rfl)
    · rw [if_neg c_186] at h
      refine lv_aload_n hx hb dX7_next_189 rfl (lv_at hl 0 rfl) ?_
      refine lc_X7_192 B dX7_next_190 ?_
      refine lv_aload_n hx hb dX7_next_192 rfl (lv_at hl 0 rfl) ?_
      refine gf_X7_114 B hR (h0.at0 rfl) dX7_next_193 ?_
      refine lv_bipush (v := 10) hx hb dX7_next_196 (by decide) ?_
      refine lv_imul hx hb dX7_next_198 ?_
      refine lv_aload_n hx hb dX7_next_199 rfl (lv_at hl 0 rfl) ?_
      refine gf_X7_9 B hR (h0.at0 rfl) dX7_next_200 ?_
      refine lv_aload_n hx hb dX7_next_203 rfl (lv_at hl 0 rfl) ?_
      refine gf_X7_48 B hR (h0.at0 rfl) dX7_next_204 ?_
      refine r_iald B hR (h0.at 1 rfl) hi_182 dX7_next_207 ?_
      refine lv_iadd hx hb dX7_next_208 ?_
      refine lv_bipush (v := 48) hx hb dX7_next_209 (by decide) ?_
      refine lv_isub hx hb dX7_next_211 ?_
      refine mm_X7_193 B hl.1 (Nat.le_of_ble_eq_true rfl) dX7_next_212 ?_
      obtain ⟨M_215, eM_215, h⟩ := lt_el h
      refine pf_X7_114 B hR (h0.at0 rfl) dX7_next_215 (fun H locs hR => ?_)
      rw [← eM_215] at hR
      refine lv_aload_n hx hb dX7_next_218 rfl (lv_at hl 0 rfl) ?_
      refine lv_dup hx hb dX7_next_219 rfl ?_
      refine gf_X7_48 B hR (h0.at0 rfl) dX7_next_220 ?_
      refine lv_iconst (v := 1) hx hb dX7_next_223 (by decide) ?_
      refine lv_iadd hx hb dX7_next_224 ?_
      obtain ⟨M_225, eM_225, h⟩ := lt_el h
      refine pf_X7_48 B hR (h0.at0 rfl) dX7_next_225 (fun H locs hR => ?_)
      rw [← eM_225] at hR
      refine lv_goto (tgt := 163) hx hb dX7_next_228 (by decide) ?_
      exact ih163 M_225 h _ _ _ hR hl
def fX7_next_l163 (fu : Nat) (a0 : Nat) (M : Mm) : Option Mm := lp (fun (rec : Mm → Option Mm) (s : Mm) => fX7_next_b163 fu  (fun M => rec (M)) a0 s) fu (M)
set_option maxRecDepth 100000 in
set_option maxHeartbeats 4000000 in
theorem wX7_next_l163 {M' : Mm}   {a0 : Nat} {M : Mm} (B : Bx p s m args c cX7_next 1 RX7 E L) (hr : meth.sig.returnType = none) (hlk : meth.locks = false)  (h0 : At L a0 T7) (h : fX7_next_l163 fu a0 M = some M') (hR : Rx s E L M H locs) (hl : lv_has ls 1 [(0, .ref a0)]) : W p l e (rmD (d + 1)) s m args below meth c H locs 0 0 (MQ below (QcM E L none M') args s 0 0 E.2.2.2) (F0 m 163 ls []) := by
  refine lp_G (G := fun z : Mm => ∀ (H : Heap) (locs : List Loc) (ls : Array Slot), Rx s E L z H locs → lv_has ls 1 [(0, .ref a0)] → W p l e (rmD (d + 1)) s m args below meth c H locs 0 0 (MQ below (QcM E L none M') args s 0 0 E.2.2.2) (F0 m 163 ls [])) (fun rec ih z h H locs ls hR hl => ?_) fu _ h H locs ls hR hl
  exact wX7_next_b163 B hr hlk  (fun M h => ih (M) h) h0 h hR hl
def fX7_next_b104 (fu : Nat) (k104 : Mm → Option Mm) (a0 : Nat) (M : Mm) : Option Mm :=
  if (M.1 a0 1) ≤ (M.1 a0 5) then
    fX7_next_j264 fu M
  else
    if (M.1 a0 5) < 0 ∨ 800 ≤ ix (M.1 a0 5) then none else
    bi (fX7_isLetter fu (M.1 (a0 + 1) (ix (M.1 a0 5)))) fun r_124 =>
    if r_124 = 0 then
      fX7_next_j264 fu M
    else
      lt (wI M a0 5 ((M.1 a0 5) + 1)) fun M_137 =>
      k104 M_137
set_option maxRecDepth 100000 in
set_option maxHeartbeats 4000000 in
theorem wX7_next_b104 {M' : Mm}   {k104 : Mm → Option Mm} {a0 : Nat} {M : Mm} (B : Bx p s m args c cX7_next 1 RX7 E L) (hr : meth.sig.returnType = none) (hlk : meth.locks = false)  (ih104 : ∀ (M : Mm), k104 M = some M' → ∀ (H : Heap) (locs : List Loc) (ls : Array Slot), Rx s E L M H locs → lv_has ls 1 [(0, .ref a0)] → W p l e (rmD (d + 1)) s m args below meth c H locs 0 0 (MQ below (QcM E L none M') args s 0 0 E.2.2.2) (F0 m 104 ls [])) (h0 : At L a0 T7) (h : fX7_next_b104 fu k104 a0 M = some M') (hR : Rx s E L M H locs) (hl : lv_has ls 1 [(0, .ref a0)]) : W p l e (rmD (d + 1)) s m args below meth c H locs 0 0 (MQ below (QcM E L none M') args s 0 0 E.2.2.2) (F0 m 104 ls []) := by
  have hx := B.1
  have hb := B.2.1
  unfold fX7_next_b104 at h
  refine lv_aload_n hx hb dX7_next_104 rfl (lv_at hl 0 rfl) ?_
  refine gf_X7_48 B hR (h0.at0 rfl) dX7_next_105 ?_
  refine lv_aload_n hx hb dX7_next_108 rfl (lv_at hl 0 rfl) ?_
  refine gf_X7_26 B hR (h0.at0 rfl) dX7_next_109 ?_
  refine lv_icmp_ge (tgt := 264) hx hb dX7_next_112 (by decide) (fun c_112 => ?_) (fun c_112 => ?_)
  · rw [if_pos c_112] at h
    exact wX7_next_j264 B hr hlk  h hR (lv_sub hl [] rfl)
  · rw [if_neg c_112] at h
    refine lv_aload_n hx hb dX7_next_115 rfl (lv_at hl 0 rfl) ?_
    refine gf_X7_9 B hR (h0.at0 rfl) dX7_next_116 ?_
    refine lv_aload_n hx hb dX7_next_119 rfl (lv_at hl 0 rfl) ?_
    refine gf_X7_48 B hR (h0.at0 rfl) dX7_next_120 ?_
    obtain ⟨hi_123, h⟩ := ifn_el h
    refine r_iald B hR (h0.at 1 rfl) hi_123 dX7_next_123 ?_
    obtain ⟨r_124, hc_124, h⟩ := bi_el h
    refine is_X7_186 B hR hl.1 (mX7_isLetter fu _  hc_124) (Nat.le_of_ble_eq_true rfl) dX7_next_124 (fun H locs hR => ?_)
    refine lv_if_eq (tgt := 264) hx hb dX7_next_127 (by decide) (fun c_127 => ?_) (fun c_127 => ?_)
    · rw [if_pos c_127] at h
      exact wX7_next_j264 B hr hlk  h hR (lv_sub hl [] rfl)
    · rw [if_neg c_127] at h
      refine lv_aload_n hx hb dX7_next_130 rfl (lv_at hl 0 rfl) ?_
      refine lv_dup hx hb dX7_next_131 rfl ?_
      refine gf_X7_48 B hR (h0.at0 rfl) dX7_next_132 ?_
      refine lv_iconst (v := 1) hx hb dX7_next_135 (by decide) ?_
      refine lv_iadd hx hb dX7_next_136 ?_
      obtain ⟨M_137, eM_137, h⟩ := lt_el h
      refine pf_X7_48 B hR (h0.at0 rfl) dX7_next_137 (fun H locs hR => ?_)
      rw [← eM_137] at hR
      refine lv_goto (tgt := 104) hx hb dX7_next_140 (by decide) ?_
      exact ih104 M_137 h _ _ _ hR hl
def fX7_next_l104 (fu : Nat) (a0 : Nat) (M : Mm) : Option Mm := lp (fun (rec : Mm → Option Mm) (s : Mm) => fX7_next_b104 fu  (fun M => rec (M)) a0 s) fu (M)
set_option maxRecDepth 100000 in
set_option maxHeartbeats 4000000 in
theorem wX7_next_l104 {M' : Mm}   {a0 : Nat} {M : Mm} (B : Bx p s m args c cX7_next 1 RX7 E L) (hr : meth.sig.returnType = none) (hlk : meth.locks = false)  (h0 : At L a0 T7) (h : fX7_next_l104 fu a0 M = some M') (hR : Rx s E L M H locs) (hl : lv_has ls 1 [(0, .ref a0)]) : W p l e (rmD (d + 1)) s m args below meth c H locs 0 0 (MQ below (QcM E L none M') args s 0 0 E.2.2.2) (F0 m 104 ls []) := by
  refine lp_G (G := fun z : Mm => ∀ (H : Heap) (locs : List Loc) (ls : Array Slot), Rx s E L z H locs → lv_has ls 1 [(0, .ref a0)] → W p l e (rmD (d + 1)) s m args below meth c H locs 0 0 (MQ below (QcM E L none M') args s 0 0 E.2.2.2) (F0 m 104 ls [])) (fun rec ih z h H locs ls hR hl => ?_) fu _ h H locs ls hR hl
  exact wX7_next_b104 B hr hlk  (fun M h => ih (M) h) h0 h hR hl
def fX7_next_j52 (fu : Nat) (a0 : Nat) (M : Mm) : Option Mm :=
  lt (wI M a0 6 (M.1 a0 5)) fun M_57 =>
  lt (wI M_57 a0 8 0) fun M_62 =>
  if (M_62.1 a0 5) < (M_62.1 a0 1) then
    if (M_62.1 a0 5) < 0 ∨ 800 ≤ ix (M_62.1 a0 5) then none else
    bi (fX7_isLetter fu (M_62.1 (a0 + 1) (ix (M_62.1 a0 5)))) fun r_93 =>
    if r_93 = 0 then
      bi (fX7_isDigit fu (M_62.1 (a0 + 1) (ix (M_62.1 a0 5)))) fun r_152 =>
      if r_152 = 0 then
        if (M_62.1 (a0 + 1) (ix (M_62.1 a0 5))) = 59 then
          fX7_next_j251 fu a0 a0 2 M_62
        else
          fX7_next_j251 fu a0 a0 3 M_62
      else
        lt (wI M_62 a0 7 1) fun M_160 =>
        fX7_next_l163 fu a0 M_160
    else
      lt (wI M_62 a0 7 0) fun M_101 =>
      fX7_next_l104 fu a0 M_101
  else
    lt (wI M_62 a0 7 4) fun M_78 =>
    fX7_next_j264 fu M_78
set_option maxRecDepth 100000 in
set_option maxHeartbeats 4000000 in
theorem wX7_next_j52 {M' : Mm}   {a0 : Nat} {M : Mm} (B : Bx p s m args c cX7_next 1 RX7 E L) (hr : meth.sig.returnType = none) (hlk : meth.locks = false)  (h0 : At L a0 T7) (h : fX7_next_j52 fu a0 M = some M') (hR : Rx s E L M H locs) (hl : lv_has ls 1 [(0, .ref a0)]) : W p l e (rmD (d + 1)) s m args below meth c H locs 0 0 (MQ below (QcM E L none M') args s 0 0 E.2.2.2) (F0 m 52 ls []) := by
  have hx := B.1
  have hb := B.2.1
  unfold fX7_next_j52 at h
  refine lv_aload_n hx hb dX7_next_52 rfl (lv_at hl 0 rfl) ?_
  refine lv_aload_n hx hb dX7_next_53 rfl (lv_at hl 0 rfl) ?_
  refine gf_X7_48 B hR (h0.at0 rfl) dX7_next_54 ?_
  obtain ⟨M_57, eM_57, h⟩ := lt_el h
  refine pf_X7_183 B hR (h0.at0 rfl) dX7_next_57 (fun H locs hR => ?_)
  rw [← eM_57] at hR
  refine lv_aload_n hx hb dX7_next_60 rfl (lv_at hl 0 rfl) ?_
  refine lv_iconst (v := 0) hx hb dX7_next_61 (by decide) ?_
  obtain ⟨M_62, eM_62, h⟩ := lt_el h
  refine pf_X7_114 B hR (h0.at0 rfl) dX7_next_62 (fun H locs hR => ?_)
  rw [← eM_62] at hR
  refine lv_aload_n hx hb dX7_next_65 rfl (lv_at hl 0 rfl) ?_
  refine gf_X7_48 B hR (h0.at0 rfl) dX7_next_66 ?_
  refine lv_aload_n hx hb dX7_next_69 rfl (lv_at hl 0 rfl) ?_
  refine gf_X7_26 B hR (h0.at0 rfl) dX7_next_70 ?_
  refine lv_icmp_lt (tgt := 84) hx hb dX7_next_73 (by decide) (fun c_73 => ?_) (fun c_73 => ?_)
  · rw [if_pos c_73] at h
    refine lv_aload_n hx hb dX7_next_84 rfl (lv_at hl 0 rfl) ?_
    refine gf_X7_9 B hR (h0.at0 rfl) dX7_next_85 ?_
    refine lv_aload_n hx hb dX7_next_88 rfl (lv_at hl 0 rfl) ?_
    refine gf_X7_48 B hR (h0.at0 rfl) dX7_next_89 ?_
    obtain ⟨hi_92, h⟩ := ifn_el h
    refine r_iald B hR (h0.at 1 rfl) hi_92 dX7_next_92 ?_
    obtain ⟨r_93, hc_93, h⟩ := bi_el h
    refine is_X7_186 B hR hl.1 (mX7_isLetter fu _  hc_93) (Nat.le_of_ble_eq_true rfl) dX7_next_93 (fun H locs hR => ?_)
    refine lv_if_eq (tgt := 143) hx hb dX7_next_96 (by decide) (fun c_96 => ?_) (fun c_96 => ?_)
    · rw [if_pos c_96] at h
      refine lv_aload_n hx hb dX7_next_143 rfl (lv_at hl 0 rfl) ?_
      refine gf_X7_9 B hR (h0.at0 rfl) dX7_next_144 ?_
      refine lv_aload_n hx hb dX7_next_147 rfl (lv_at hl 0 rfl) ?_
      refine gf_X7_48 B hR (h0.at0 rfl) dX7_next_148 ?_
      refine r_iald B hR (h0.at 1 rfl) hi_92 dX7_next_151 ?_
      obtain ⟨r_152, hc_152, h⟩ := bi_el h
      refine is_X7_189 B hR hl.1 (mX7_isDigit fu _  hc_152) (Nat.le_of_ble_eq_true rfl) dX7_next_152 (fun H locs hR => ?_)
      refine lv_if_eq (tgt := 231) hx hb dX7_next_155 (by decide) (fun c_155 => ?_) (fun c_155 => ?_)
      · rw [if_pos c_155] at h
        refine lv_aload_n hx hb dX7_next_231 rfl (lv_at hl 0 rfl) ?_
        refine lv_aload_n hx hb dX7_next_232 rfl (lv_at hl 0 rfl) ?_
        refine gf_X7_9 B hR (h0.at0 rfl) dX7_next_233 ?_
        refine lv_aload_n hx hb dX7_next_236 rfl (lv_at hl 0 rfl) ?_
        refine gf_X7_48 B hR (h0.at0 rfl) dX7_next_237 ?_
        refine r_iald B hR (h0.at 1 rfl) hi_92 dX7_next_240 ?_
        refine lv_bipush (v := 59) hx hb dX7_next_241 (by decide) ?_
        refine lv_icmp_ne (tgt := 250) hx hb dX7_next_243 (by decide) (fun c_243 => ?_) (fun c_243 => ?_)
        · rw [if_neg c_243] at h
          refine lv_iconst (v := 3) hx hb dX7_next_250 (by decide) ?_
          exact wX7_next_j251 B hr hlk h0 h0 h hR hl
        · rw [if_pos c_243] at h
          refine lv_iconst (v := 2) hx hb dX7_next_246 (by decide) ?_
          refine lv_goto (tgt := 251) hx hb dX7_next_247 (by decide) ?_
          exact wX7_next_j251 B hr hlk h0 h0 h hR hl
      · rw [if_neg c_155] at h
        refine lv_aload_n hx hb dX7_next_158 rfl (lv_at hl 0 rfl) ?_
        refine lv_iconst (v := 1) hx hb dX7_next_159 (by decide) ?_
        obtain ⟨M_160, eM_160, h⟩ := lt_el h
        refine pf_X7_35 B hR (h0.at0 rfl) dX7_next_160 (fun H locs hR => ?_)
        rw [← eM_160] at hR
        exact wX7_next_l163 B hr hlk h0 h hR hl
    · rw [if_neg c_96] at h
      refine lv_aload_n hx hb dX7_next_99 rfl (lv_at hl 0 rfl) ?_
      refine lv_iconst (v := 0) hx hb dX7_next_100 (by decide) ?_
      obtain ⟨M_101, eM_101, h⟩ := lt_el h
      refine pf_X7_35 B hR (h0.at0 rfl) dX7_next_101 (fun H locs hR => ?_)
      rw [← eM_101] at hR
      exact wX7_next_l104 B hr hlk h0 h hR hl
  · rw [if_neg c_73] at h
    refine lv_aload_n hx hb dX7_next_76 rfl (lv_at hl 0 rfl) ?_
    refine lv_iconst (v := 4) hx hb dX7_next_77 (by decide) ?_
    obtain ⟨M_78, eM_78, h⟩ := lt_el h
    refine pf_X7_35 B hR (h0.at0 rfl) dX7_next_78 (fun H locs hR => ?_)
    rw [← eM_78] at hR
    refine lv_goto (tgt := 264) hx hb dX7_next_81 (by decide) ?_
    exact wX7_next_j264 B hr hlk  h hR (lv_sub hl [] rfl)
def fX7_next_j39 (fu : Nat) (k0 : Mm → Option Mm) (a0 : Nat) (M : Mm) : Option Mm :=
  lt (wI M a0 5 ((M.1 a0 5) + 1)) fun M_46 =>
  k0 M_46
set_option maxRecDepth 100000 in
set_option maxHeartbeats 4000000 in
theorem wX7_next_j39 {M' : Mm}  {k0 : Mm → Option Mm} {a0 : Nat} {M : Mm} (B : Bx p s m args c cX7_next 1 RX7 E L) (hr : meth.sig.returnType = none) (hlk : meth.locks = false) (ih0 : ∀ (M : Mm), k0 M = some M' → ∀ (H : Heap) (locs : List Loc) (ls : Array Slot), Rx s E L M H locs → lv_has ls 1 [(0, .ref a0)] → W p l e (rmD (d + 1)) s m args below meth c H locs 0 0 (MQ below (QcM E L none M') args s 0 0 E.2.2.2) (F0 m 0 ls [])) (h0 : At L a0 T7) (h : fX7_next_j39 fu k0 a0 M = some M') (hR : Rx s E L M H locs) (hl : lv_has ls 1 [(0, .ref a0)]) : W p l e (rmD (d + 1)) s m args below meth c H locs 0 0 (MQ below (QcM E L none M') args s 0 0 E.2.2.2) (F0 m 39 ls []) := by
  have hx := B.1
  have hb := B.2.1
  unfold fX7_next_j39 at h
  refine lv_aload_n hx hb dX7_next_39 rfl (lv_at hl 0 rfl) ?_
  refine lv_dup hx hb dX7_next_40 rfl ?_
  refine gf_X7_48 B hR (h0.at0 rfl) dX7_next_41 ?_
  refine lv_iconst (v := 1) hx hb dX7_next_44 (by decide) ?_
  refine lv_iadd hx hb dX7_next_45 ?_
  obtain ⟨M_46, eM_46, h⟩ := lt_el h
  refine pf_X7_48 B hR (h0.at0 rfl) dX7_next_46 (fun H locs hR => ?_)
  rw [← eM_46] at hR
  refine lv_goto (tgt := 0) hx hb dX7_next_49 (by decide) ?_
  exact ih0 M_46 h _ _ _ hR hl
def fX7_next_b0 (fu : Nat) (k0 : Mm → Option Mm) (a0 : Nat) (M : Mm) : Option Mm :=
  if (M.1 a0 1) ≤ (M.1 a0 5) then
    fX7_next_j52 fu a0 M
  else
    if (M.1 a0 5) < 0 ∨ 800 ≤ ix (M.1 a0 5) then none else
    if (M.1 (a0 + 1) (ix (M.1 a0 5))) = 32 then
      fX7_next_j39 fu k0 a0 M
    else
      if (M.1 (a0 + 1) (ix (M.1 a0 5))) = 10 then
        fX7_next_j39 fu k0 a0 M
      else
        fX7_next_j52 fu a0 M
set_option maxRecDepth 100000 in
set_option maxHeartbeats 4000000 in
theorem wX7_next_b0 {M' : Mm}   {k0 : Mm → Option Mm} {a0 : Nat} {M : Mm} (B : Bx p s m args c cX7_next 1 RX7 E L) (hr : meth.sig.returnType = none) (hlk : meth.locks = false)  (ih0 : ∀ (M : Mm), k0 M = some M' → ∀ (H : Heap) (locs : List Loc) (ls : Array Slot), Rx s E L M H locs → lv_has ls 1 [(0, .ref a0)] → W p l e (rmD (d + 1)) s m args below meth c H locs 0 0 (MQ below (QcM E L none M') args s 0 0 E.2.2.2) (F0 m 0 ls [])) (h0 : At L a0 T7) (h : fX7_next_b0 fu k0 a0 M = some M') (hR : Rx s E L M H locs) (hl : lv_has ls 1 [(0, .ref a0)]) : W p l e (rmD (d + 1)) s m args below meth c H locs 0 0 (MQ below (QcM E L none M') args s 0 0 E.2.2.2) (F0 m 0 ls []) := by
  have hx := B.1
  have hb := B.2.1
  unfold fX7_next_b0 at h
  refine lv_aload_n hx hb dX7_next_0 rfl (lv_at hl 0 rfl) ?_
  refine gf_X7_48 B hR (h0.at0 rfl) dX7_next_1 ?_
  refine lv_aload_n hx hb dX7_next_4 rfl (lv_at hl 0 rfl) ?_
  refine gf_X7_26 B hR (h0.at0 rfl) dX7_next_5 ?_
  refine lv_icmp_ge (tgt := 52) hx hb dX7_next_8 (by decide) (fun c_8 => ?_) (fun c_8 => ?_)
  · rw [if_pos c_8] at h
    exact wX7_next_j52 B hr hlk h0 h hR hl
  · rw [if_neg c_8] at h
    refine lv_aload_n hx hb dX7_next_11 rfl (lv_at hl 0 rfl) ?_
    refine gf_X7_9 B hR (h0.at0 rfl) dX7_next_12 ?_
    refine lv_aload_n hx hb dX7_next_15 rfl (lv_at hl 0 rfl) ?_
    refine gf_X7_48 B hR (h0.at0 rfl) dX7_next_16 ?_
    obtain ⟨hi_19, h⟩ := ifn_el h
    refine r_iald B hR (h0.at 1 rfl) hi_19 dX7_next_19 ?_
    refine lv_bipush (v := 32) hx hb dX7_next_20 (by decide) ?_
    refine lv_icmp_eq (tgt := 39) hx hb dX7_next_22 (by decide) (fun c_22 => ?_) (fun c_22 => ?_)
    · rw [if_pos c_22] at h
      exact wX7_next_j39 B hr hlk ih0 h0 h hR hl
    · rw [if_neg c_22] at h
      refine lv_aload_n hx hb dX7_next_25 rfl (lv_at hl 0 rfl) ?_
      refine gf_X7_9 B hR (h0.at0 rfl) dX7_next_26 ?_
      refine lv_aload_n hx hb dX7_next_29 rfl (lv_at hl 0 rfl) ?_
      refine gf_X7_48 B hR (h0.at0 rfl) dX7_next_30 ?_
      refine r_iald B hR (h0.at 1 rfl) hi_19 dX7_next_33 ?_
      refine lv_bipush (v := 10) hx hb dX7_next_34 (by decide) ?_
      refine lv_icmp_ne (tgt := 52) hx hb dX7_next_36 (by decide) (fun c_36 => ?_) (fun c_36 => ?_)
      · rw [if_neg c_36] at h
        exact wX7_next_j52 B hr hlk h0 h hR hl
      · rw [if_pos c_36] at h
        exact wX7_next_j39 B hr hlk ih0 h0 h hR hl
def fX7_next_l0 (fu : Nat) (a0 : Nat) (M : Mm) : Option Mm := lp (fun (rec : Mm → Option Mm) (s : Mm) => fX7_next_b0 fu  (fun M => rec (M)) a0 s) fu (M)
set_option maxRecDepth 100000 in
set_option maxHeartbeats 4000000 in
theorem wX7_next_l0 {M' : Mm}   {a0 : Nat} {M : Mm} (B : Bx p s m args c cX7_next 1 RX7 E L) (hr : meth.sig.returnType = none) (hlk : meth.locks = false)  (h0 : At L a0 T7) (h : fX7_next_l0 fu a0 M = some M') (hR : Rx s E L M H locs) (hl : lv_has ls 1 [(0, .ref a0)]) : W p l e (rmD (d + 1)) s m args below meth c H locs 0 0 (MQ below (QcM E L none M') args s 0 0 E.2.2.2) (F0 m 0 ls []) := by
  refine lp_G (G := fun z : Mm => ∀ (H : Heap) (locs : List Loc) (ls : Array Slot), Rx s E L z H locs → lv_has ls 1 [(0, .ref a0)] → W p l e (rmD (d + 1)) s m args below meth c H locs 0 0 (MQ below (QcM E L none M') args s 0 0 E.2.2.2) (F0 m 0 ls [])) (fun rec ih z h H locs ls hR hl => ?_) fu _ h H locs ls hR hl
  exact wX7_next_b0 B hr hlk  (fun M h => ih (M) h) h0 h hR hl
def fX7_next (fu : Nat) (a0 : Nat) (M : Mm) : Option Mm :=
  fX7_next_l0 fu a0 M
set_option maxRecDepth 100000 in
set_option maxHeartbeats 4000000 in
theorem mX7_next {l : Launch} {E : Ge} {L : Lay} (fu d : Nat) {a0 : Nat} {M : Mm} {M' : Mm}  (h0 : At L a0 T7) (h : fX7_next fu a0 M = some M') : Ct l E L yX7_next cX7_next 1 none (d + 1) [.ref a0] M none M' := by
  refine Ct.of (by decide) ?_
  intro p e s m below meth c hr hlk B hR
  have B : Bx p s m _ c cX7_next 1 RX7 E L := B
  have hx := B.1
  have hb := B.2.1
  have hl := lv_entry ([.ref a0]) (n := 1) (Nat.le_of_ble_eq_true rfl)
  rw [lg_entry_eq]
  generalize (lg_sl ([.ref a0]) ++ List.replicate (1 - (lg_sl ([.ref a0])).length) Slot.unset).toArray = ls at hl ⊢
  have hl : lv_has ls 1 [(0, .ref a0)] := hl
  unfold fX7_next at h
  exact wX7_next_l0 B hr hlk h0 h hR hl
def fX7_readNumber_j47 (fu : Nat) (t0 : Int32) (M : Mm) : Option (Int32 × Mm) :=
  gd (t0 = 0 ∨ t0 = 1) <|
  some (t0, M)
set_option maxRecDepth 100000 in
set_option maxHeartbeats 4000000 in
theorem wX7_readNumber_j47 {r : Int32} {M' : Mm}   {t0 : Int32} {M : Mm} (B : Bx p s m args c cX7_readNumber 3 RX7 E L) (hr : meth.sig.returnType = (some .boolean)) (hlk : meth.locks = false)   (h : fX7_readNumber_j47 fu t0 M = some (r, M')) (hR : Rx s E L M H locs) (hl : lv_has ls 3 []) : W p l e (rmD (d + 2)) s m args below meth c H locs 0 0 (MQ below (QcM E L (some (.int r)) M') args s 0 0 E.2.2.2) (F0 m 47 ls [.int t0]) := by
  have hx := B.1
  have hb := B.2.1
  unfold fX7_readNumber_j47 at h
  obtain ⟨hz_47, h⟩ := gd_el h
  exact r_zretW B hR hr hlk hz_47 h dX7_readNumber_47
def fX7_readNumber_j42 (fu : Nat) (M : Mm) : Option (Int32 × Mm) :=
  fX7_readNumber_j47 fu 1 M
set_option maxRecDepth 100000 in
set_option maxHeartbeats 4000000 in
theorem wX7_readNumber_j42 {r : Int32} {M' : Mm}    {M : Mm} (B : Bx p s m args c cX7_readNumber 3 RX7 E L) (hr : meth.sig.returnType = (some .boolean)) (hlk : meth.locks = false)   (h : fX7_readNumber_j42 fu M = some (r, M')) (hR : Rx s E L M H locs) (hl : lv_has ls 3 []) : W p l e (rmD (d + 2)) s m args below meth c H locs 0 0 (MQ below (QcM E L (some (.int r)) M') args s 0 0 E.2.2.2) (F0 m 42 ls []) := by
  have hx := B.1
  have hb := B.2.1
  unfold fX7_readNumber_j42 at h
  refine lv_iconst (v := 1) hx hb dX7_readNumber_42 (by decide) ?_
  refine lv_goto (tgt := 47) hx hb dX7_readNumber_43 (by decide) ?_
  exact wX7_readNumber_j47 B hr hlk  h hR hl
def fX7_readNumber_j34 (fu : Nat) (a0 : Nat) (M : Mm) : Option (Int32 × Mm) :=
  bw (fX7_failed fu a0 2 M) fun r_36 M_36 =>
  if r_36 = 0 then
    fX7_readNumber_j47 fu 0 M_36
  else
    fX7_readNumber_j42 fu M_36
set_option maxRecDepth 100000 in
set_option maxHeartbeats 4000000 in
theorem wX7_readNumber_j34 {r : Int32} {M' : Mm}   {a0 : Nat} {M : Mm} (B : Bx p s m args c cX7_readNumber 3 RX7 E L) (hr : meth.sig.returnType = (some .boolean)) (hlk : meth.locks = false)  (h0 : At L a0 T7) (h : fX7_readNumber_j34 fu a0 M = some (r, M')) (hR : Rx s E L M H locs) (hl : lv_has ls 3 [(0, .ref a0)]) : W p l e (rmD (d + 2)) s m args below meth c H locs 0 0 (MQ below (QcM E L (some (.int r)) M') args s 0 0 E.2.2.2) (F0 m 34 ls []) := by
  have hx := B.1
  have hb := B.2.1
  unfold fX7_readNumber_j34 at h
  refine lv_aload_n hx hb dX7_readNumber_34 rfl (lv_at hl 0 rfl) ?_
  refine lv_iconst (v := 2) hx hb dX7_readNumber_35 (by decide) ?_
  obtain ⟨r_36, M_36, hc_36, h⟩ := bw_el h
  refine iv_X7_106 B hR (h0.at0 rfl) hl.1 (mX7_failed fu _ h0 hc_36) (Nat.le_of_ble_eq_true rfl) dX7_readNumber_36 (fun H locs hR => ?_)
  refine lv_if_eq (tgt := 46) hx hb dX7_readNumber_39 (by decide) (fun c_39 => ?_) (fun c_39 => ?_)
  · rw [if_pos c_39] at h
    refine lv_iconst (v := 0) hx hb dX7_readNumber_46 (by decide) ?_
    exact wX7_readNumber_j47 B hr hlk  h hR (lv_sub hl [] rfl)
  · rw [if_neg c_39] at h
    exact wX7_readNumber_j42 B hr hlk  h hR (lv_sub hl [] rfl)
def fX7_readNumber (fu : Nat) (a0 : Nat) (x1 : Int32) (x2 : Int32) (M : Mm) : Option (Int32 × Mm) :=
  bm (fX7_next fu a0 M) fun M_1 =>
  if (M_1.1 a0 7) = 1 then
    if (M_1.1 a0 8) < x1 then
      fX7_readNumber_j34 fu a0 M_1
    else
      if (M_1.1 a0 8) ≤ x2 then
        fX7_readNumber_j42 fu M_1
      else
        fX7_readNumber_j34 fu a0 M_1
  else
    bw (fX7_failed fu a0 1 M_1) fun r_14 M_14 =>
    gd (r_14 = 0 ∨ r_14 = 1) <|
    some (r_14, M_14)
set_option maxRecDepth 100000 in
set_option maxHeartbeats 4000000 in
theorem mX7_readNumber {l : Launch} {E : Ge} {L : Lay} (fu d : Nat) {a0 : Nat} {x1 : Int32} {x2 : Int32} {M : Mm} {r : Int32} {M' : Mm}  (h0 : At L a0 T7) (h : fX7_readNumber fu a0 x1 x2 M = some (r, M')) : Ct l E L yX7_readNumber cX7_readNumber 3 (some .boolean) (d + 2) [.ref a0, .int x1, .int x2] M (some (.int r)) M' := by
  refine Ct.of (by decide) ?_
  intro p e s m below meth c hr hlk B hR
  have B : Bx p s m _ c cX7_readNumber 3 RX7 E L := B
  have hx := B.1
  have hb := B.2.1
  have hl := lv_entry ([.ref a0, .int x1, .int x2]) (n := 3) (Nat.le_of_ble_eq_true rfl)
  rw [lg_entry_eq]
  generalize (lg_sl ([.ref a0, .int x1, .int x2]) ++ List.replicate (3 - (lg_sl ([.ref a0, .int x1, .int x2])).length) Slot.unset).toArray = ls at hl ⊢
  have hl : lv_has ls 3 [(0, .ref a0), (1, .int x1), (2, .int x2)] := hl
  unfold fX7_readNumber at h
  refine lv_aload_n hx hb dX7_readNumber_0 rfl (lv_at hl 0 rfl) ?_
  obtain ⟨M_1, hc_1, h⟩ := bm_el h
  refine iv_X7_32 B hR (h0.at0 rfl) hl.1 (mX7_next fu _ h0 hc_1) (Nat.le_of_ble_eq_true rfl) dX7_readNumber_1 (fun H locs hR => ?_)
  refine lv_aload_n hx hb dX7_readNumber_4 rfl (lv_at hl 0 rfl) ?_
  refine gf_X7_35 B hR (h0.at0 rfl) dX7_readNumber_5 ?_
  refine lv_iconst (v := 1) hx hb dX7_readNumber_8 (by decide) ?_
  refine lv_icmp_eq (tgt := 18) hx hb dX7_readNumber_9 (by decide) (fun c_9 => ?_) (fun c_9 => ?_)
  · rw [if_pos c_9] at h
    refine lv_aload_n hx hb dX7_readNumber_18 rfl (lv_at hl 0 rfl) ?_
    refine gf_X7_114 B hR (h0.at0 rfl) dX7_readNumber_19 ?_
    refine lv_iload_n hx hb dX7_readNumber_22 rfl (lv_at hl 1 rfl) ?_
    refine lv_icmp_lt (tgt := 34) hx hb dX7_readNumber_23 (by decide) (fun c_23 => ?_) (fun c_23 => ?_)
    · rw [if_pos c_23] at h
      exact wX7_readNumber_j34 B hr hlk h0 h hR (lv_sub hl [0] rfl)
    · rw [if_neg c_23] at h
      refine lv_aload_n hx hb dX7_readNumber_26 rfl (lv_at hl 0 rfl) ?_
      refine gf_X7_114 B hR (h0.at0 rfl) dX7_readNumber_27 ?_
      refine lv_iload_n hx hb dX7_readNumber_30 rfl (lv_at hl 2 rfl) ?_
      refine lv_icmp_le (tgt := 42) hx hb dX7_readNumber_31 (by decide) (fun c_31 => ?_) (fun c_31 => ?_)
      · rw [if_pos c_31] at h
        exact wX7_readNumber_j42 B hr hlk  h hR (lv_sub hl [] rfl)
      · rw [if_neg c_31] at h
        exact wX7_readNumber_j34 B hr hlk h0 h hR (lv_sub hl [0] rfl)
  · rw [if_neg c_9] at h
    refine lv_aload_n hx hb dX7_readNumber_12 rfl (lv_at hl 0 rfl) ?_
    refine lv_iconst (v := 1) hx hb dX7_readNumber_13 (by decide) ?_
    obtain ⟨r_14, M_14, hc_14, h⟩ := bw_el h
    refine iv_X7_106 B hR (h0.at0 rfl) hl.1 (mX7_failed fu _ h0 hc_14) (Nat.le_of_ble_eq_true rfl) dX7_readNumber_14 (fun H locs hR => ?_)
    obtain ⟨hz_17, h⟩ := gd_el h
    exact r_zretW B hR hr hlk hz_17 h dX7_readNumber_17
def fX7_readStop_j25 (fu : Nat) (t0 : Int32) (M : Mm) : Option (Int32 × Mm) :=
  gd (t0 = 0 ∨ t0 = 1) <|
  some (t0, M)
set_option maxRecDepth 100000 in
set_option maxHeartbeats 4000000 in
theorem wX7_readStop_j25 {r : Int32} {M' : Mm}   {t0 : Int32} {M : Mm} (B : Bx p s m args c cX7_readStop 1 RX7 E L) (hr : meth.sig.returnType = (some .boolean)) (hlk : meth.locks = false)   (h : fX7_readStop_j25 fu t0 M = some (r, M')) (hR : Rx s E L M H locs) (hl : lv_has ls 1 []) : W p l e (rmD (d + 2)) s m args below meth c H locs 0 0 (MQ below (QcM E L (some (.int r)) M') args s 0 0 E.2.2.2) (F0 m 25 ls [.int t0]) := by
  have hx := B.1
  have hb := B.2.1
  unfold fX7_readStop_j25 at h
  obtain ⟨hz_25, h⟩ := gd_el h
  exact r_zretW B hR hr hlk hz_25 h dX7_readStop_25
def fX7_readStop_j20 (fu : Nat) (M : Mm) : Option (Int32 × Mm) :=
  fX7_readStop_j25 fu 1 M
set_option maxRecDepth 100000 in
set_option maxHeartbeats 4000000 in
theorem wX7_readStop_j20 {r : Int32} {M' : Mm}    {M : Mm} (B : Bx p s m args c cX7_readStop 1 RX7 E L) (hr : meth.sig.returnType = (some .boolean)) (hlk : meth.locks = false)   (h : fX7_readStop_j20 fu M = some (r, M')) (hR : Rx s E L M H locs) (hl : lv_has ls 1 []) : W p l e (rmD (d + 2)) s m args below meth c H locs 0 0 (MQ below (QcM E L (some (.int r)) M') args s 0 0 E.2.2.2) (F0 m 20 ls []) := by
  have hx := B.1
  have hb := B.2.1
  unfold fX7_readStop_j20 at h
  refine lv_iconst (v := 1) hx hb dX7_readStop_20 (by decide) ?_
  refine lv_goto (tgt := 25) hx hb dX7_readStop_21 (by decide) ?_
  exact wX7_readStop_j25 B hr hlk  h hR hl
def fX7_readStop (fu : Nat) (a0 : Nat) (M : Mm) : Option (Int32 × Mm) :=
  bm (fX7_next fu a0 M) fun M_1 =>
  if (M_1.1 a0 7) = 2 then
    fX7_readStop_j20 fu M_1
  else
    bw (fX7_failed fu a0 1 M_1) fun r_14 M_14 =>
    if r_14 = 0 then
      fX7_readStop_j25 fu 0 M_14
    else
      fX7_readStop_j20 fu M_14
set_option maxRecDepth 100000 in
set_option maxHeartbeats 4000000 in
theorem mX7_readStop {l : Launch} {E : Ge} {L : Lay} (fu d : Nat) {a0 : Nat} {M : Mm} {r : Int32} {M' : Mm}  (h0 : At L a0 T7) (h : fX7_readStop fu a0 M = some (r, M')) : Ct l E L yX7_readStop cX7_readStop 1 (some .boolean) (d + 2) [.ref a0] M (some (.int r)) M' := by
  refine Ct.of (by decide) ?_
  intro p e s m below meth c hr hlk B hR
  have B : Bx p s m _ c cX7_readStop 1 RX7 E L := B
  have hx := B.1
  have hb := B.2.1
  have hl := lv_entry ([.ref a0]) (n := 1) (Nat.le_of_ble_eq_true rfl)
  rw [lg_entry_eq]
  generalize (lg_sl ([.ref a0]) ++ List.replicate (1 - (lg_sl ([.ref a0])).length) Slot.unset).toArray = ls at hl ⊢
  have hl : lv_has ls 1 [(0, .ref a0)] := hl
  unfold fX7_readStop at h
  refine lv_aload_n hx hb dX7_readStop_0 rfl (lv_at hl 0 rfl) ?_
  obtain ⟨M_1, hc_1, h⟩ := bm_el h
  refine iv_X7_32 B hR (h0.at0 rfl) hl.1 (mX7_next fu _ h0 hc_1) (Nat.le_of_ble_eq_true rfl) dX7_readStop_1 (fun H locs hR => ?_)
  refine lv_aload_n hx hb dX7_readStop_4 rfl (lv_at hl 0 rfl) ?_
  refine gf_X7_35 B hR (h0.at0 rfl) dX7_readStop_5 ?_
  refine lv_iconst (v := 2) hx hb dX7_readStop_8 (by decide) ?_
  refine lv_icmp_eq (tgt := 20) hx hb dX7_readStop_9 (by decide) (fun c_9 => ?_) (fun c_9 => ?_)
  · rw [if_pos c_9] at h
    exact wX7_readStop_j20 B hr hlk  h hR (lv_sub hl [] rfl)
  · rw [if_neg c_9] at h
    refine lv_aload_n hx hb dX7_readStop_12 rfl (lv_at hl 0 rfl) ?_
    refine lv_iconst (v := 1) hx hb dX7_readStop_13 (by decide) ?_
    obtain ⟨r_14, M_14, hc_14, h⟩ := bw_el h
    refine iv_X7_106 B hR (h0.at0 rfl) hl.1 (mX7_failed fu _ h0 hc_14) (Nat.le_of_ble_eq_true rfl) dX7_readStop_14 (fun H locs hR => ?_)
    refine lv_if_eq (tgt := 24) hx hb dX7_readStop_17 (by decide) (fun c_17 => ?_) (fun c_17 => ?_)
    · rw [if_pos c_17] at h
      refine lv_iconst (v := 0) hx hb dX7_readStop_24 (by decide) ?_
      exact wX7_readStop_j25 B hr hlk  h hR (lv_sub hl [] rfl)
    · rw [if_neg c_17] at h
      exact wX7_readStop_j20 B hr hlk  h hR (lv_sub hl [] rfl)
def fX7_readSpace_j14 (fu : Nat) (a0 : Nat) (M : Mm) : Option (Int32 × Mm) :=
  bw (fX7_failed fu a0 3 M) fun r_16 M_16 =>
  gd (r_16 = 0 ∨ r_16 = 1) <|
  some (r_16, M_16)
set_option maxRecDepth 100000 in
set_option maxHeartbeats 4000000 in
theorem wX7_readSpace_j14 {r : Int32} {M' : Mm}   {a0 : Nat} {M : Mm} (B : Bx p s m args c cX7_readSpace 1 RX7 E L) (hr : meth.sig.returnType = (some .boolean)) (hlk : meth.locks = false)  (h0 : At L a0 T7) (h : fX7_readSpace_j14 fu a0 M = some (r, M')) (hR : Rx s E L M H locs) (hl : lv_has ls 1 [(0, .ref a0)]) : W p l e (rmD (d + 3)) s m args below meth c H locs 0 0 (MQ below (QcM E L (some (.int r)) M') args s 0 0 E.2.2.2) (F0 m 14 ls []) := by
  have hx := B.1
  have hb := B.2.1
  unfold fX7_readSpace_j14 at h
  refine lv_aload_n hx hb dX7_readSpace_14 rfl (lv_at hl 0 rfl) ?_
  refine lv_iconst (v := 3) hx hb dX7_readSpace_15 (by decide) ?_
  obtain ⟨r_16, M_16, hc_16, h⟩ := bw_el h
  refine iv_X7_106 B hR (h0.at0 rfl) hl.1 (mX7_failed fu _ h0 hc_16) (Nat.le_of_ble_eq_true rfl) dX7_readSpace_16 (fun H locs hR => ?_)
  obtain ⟨hz_19, h⟩ := gd_el h
  exact r_zretW B hR hr hlk hz_19 h dX7_readSpace_19
def fX7_readSpace (fu : Nat) (a0 : Nat) (M : Mm) : Option (Int32 × Mm) :=
  if (M.1 a0 9) = 0 then
    if (M.1 a0 13) = 0 then
      lt (wI M a0 9 1) fun M_22 =>
      bw (fX7_readNumber fu a0 4 10 M_22) fun r_29 M_29 =>
      if r_29 = 0 then
        some (0, M_29)
      else
        lt (wI M_29 (a0 + 2) 0 (1 <<< ((M_29.1 a0 8) &&& 31))) fun M_47 =>
        bw (fX7_readStop fu a0 M_47) fun r_51 M_51 =>
        gd (r_51 = 0 ∨ r_51 = 1) <|
        some (r_51, M_51)
    else
      fX7_readSpace_j14 fu a0 M
  else
    fX7_readSpace_j14 fu a0 M
set_option maxRecDepth 100000 in
set_option maxHeartbeats 4000000 in
theorem mX7_readSpace {l : Launch} {E : Ge} {L : Lay} (fu d : Nat) {a0 : Nat} {M : Mm} {r : Int32} {M' : Mm}  (h0 : At L a0 T7) (h : fX7_readSpace fu a0 M = some (r, M')) : Ct l E L yX7_readSpace cX7_readSpace 1 (some .boolean) (d + 3) [.ref a0] M (some (.int r)) M' := by
  refine Ct.of (by decide) ?_
  intro p e s m below meth c hr hlk B hR
  have B : Bx p s m _ c cX7_readSpace 1 RX7 E L := B
  have hx := B.1
  have hb := B.2.1
  have hl := lv_entry ([.ref a0]) (n := 1) (Nat.le_of_ble_eq_true rfl)
  rw [lg_entry_eq]
  generalize (lg_sl ([.ref a0]) ++ List.replicate (1 - (lg_sl ([.ref a0])).length) Slot.unset).toArray = ls at hl ⊢
  have hl : lv_has ls 1 [(0, .ref a0)] := hl
  unfold fX7_readSpace at h
  refine lv_aload_n hx hb dX7_readSpace_0 rfl (lv_at hl 0 rfl) ?_
  refine gf_X7_51 B hR (h0.at0 rfl) dX7_readSpace_1 ?_
  refine lv_if_ne (tgt := 14) hx hb dX7_readSpace_4 (by decide) (fun c_4 => ?_) (fun c_4 => ?_)
  · rw [if_neg c_4] at h
    exact wX7_readSpace_j14 B hr hlk h0 h hR hl
  · rw [if_pos c_4] at h
    refine lv_aload_n hx hb dX7_readSpace_7 rfl (lv_at hl 0 rfl) ?_
    refine gf_X7_64 B hR (h0.at0 rfl) dX7_readSpace_8 ?_
    refine lv_if_eq (tgt := 20) hx hb dX7_readSpace_11 (by decide) (fun c_11 => ?_) (fun c_11 => ?_)
    · rw [if_pos c_11] at h
      refine lv_aload_n hx hb dX7_readSpace_20 rfl (lv_at hl 0 rfl) ?_
      refine lv_iconst (v := 1) hx hb dX7_readSpace_21 (by decide) ?_
      obtain ⟨M_22, eM_22, h⟩ := lt_el h
      refine pz_X7_51 B hR (h0.at0 rfl) (Or.inr rfl) dX7_readSpace_22 (fun H locs hR => ?_)
      rw [← eM_22] at hR
      refine lv_aload_n hx hb dX7_readSpace_25 rfl (lv_at hl 0 rfl) ?_
      refine lv_iconst (v := 4) hx hb dX7_readSpace_26 (by decide) ?_
      refine lv_bipush (v := 10) hx hb dX7_readSpace_27 (by decide) ?_
      obtain ⟨r_29, M_29, hc_29, h⟩ := bw_el h
      refine iv_X7_110 B hR (h0.at0 rfl) hl.1 (mX7_readNumber fu _ h0 hc_29) (Nat.le_of_ble_eq_true rfl) dX7_readSpace_29 (fun H locs hR => ?_)
      refine lv_if_ne (tgt := 37) hx hb dX7_readSpace_32 (by decide) (fun c_32 => ?_) (fun c_32 => ?_)
      · rw [if_neg c_32] at h
        refine lv_aload_n hx hb dX7_readSpace_37 rfl (lv_at hl 0 rfl) ?_
        refine gf_X7_22 B hR (h0.at0 rfl) dX7_readSpace_38 ?_
        refine lv_iconst (v := 1) hx hb dX7_readSpace_41 (by decide) ?_
        refine lv_aload_n hx hb dX7_readSpace_42 rfl (lv_at hl 0 rfl) ?_
        refine gf_X7_114 B hR (h0.at0 rfl) dX7_readSpace_43 ?_
        refine lv_ishl hx hb dX7_readSpace_46 ?_
        obtain ⟨M_47, eM_47, h⟩ := lt_el h
        refine pf_X7_117 B hR ((sb_7_4 h0).at0 rfl) dX7_readSpace_47 (fun H locs hR => ?_)
        rw [← eM_47] at hR
        refine lv_aload_n hx hb dX7_readSpace_50 rfl (lv_at hl 0 rfl) ?_
        obtain ⟨r_51, M_51, hc_51, h⟩ := bw_el h
        refine iv_X7_120 B hR (h0.at0 rfl) hl.1 (mX7_readStop fu _ h0 hc_51) (Nat.le_of_ble_eq_true rfl) dX7_readSpace_51 (fun H locs hR => ?_)
        obtain ⟨hz_54, h⟩ := gd_el h
        exact r_zretW B hR hr hlk hz_54 h dX7_readSpace_54
      · rw [if_pos c_32] at h
        refine lv_iconst (v := 0) hx hb dX7_readSpace_35 (by decide) ?_
        exact r_zretW B hR hr hlk (Or.inl rfl) h dX7_readSpace_36
    · rw [if_neg c_11] at h
      exact wX7_readSpace_j14 B hr hlk h0 h hR hl
def fX7_readRegisters_j14 (fu : Nat) (a0 : Nat) (M : Mm) : Option (Int32 × Mm) :=
  bw (fX7_failed fu a0 3 M) fun r_16 M_16 =>
  gd (r_16 = 0 ∨ r_16 = 1) <|
  some (r_16, M_16)
set_option maxRecDepth 100000 in
set_option maxHeartbeats 4000000 in
theorem wX7_readRegisters_j14 {r : Int32} {M' : Mm}   {a0 : Nat} {M : Mm} (B : Bx p s m args c cX7_readRegisters 1 RX7 E L) (hr : meth.sig.returnType = (some .boolean)) (hlk : meth.locks = false)  (h0 : At L a0 T7) (h : fX7_readRegisters_j14 fu a0 M = some (r, M')) (hR : Rx s E L M H locs) (hl : lv_has ls 1 [(0, .ref a0)]) : W p l e (rmD (d + 3)) s m args below meth c H locs 0 0 (MQ below (QcM E L (some (.int r)) M') args s 0 0 E.2.2.2) (F0 m 14 ls []) := by
  have hx := B.1
  have hb := B.2.1
  unfold fX7_readRegisters_j14 at h
  refine lv_aload_n hx hb dX7_readRegisters_14 rfl (lv_at hl 0 rfl) ?_
  refine lv_iconst (v := 3) hx hb dX7_readRegisters_15 (by decide) ?_
  obtain ⟨r_16, M_16, hc_16, h⟩ := bw_el h
  refine iv_X7_106 B hR (h0.at0 rfl) hl.1 (mX7_failed fu _ h0 hc_16) (Nat.le_of_ble_eq_true rfl) dX7_readRegisters_16 (fun H locs hR => ?_)
  obtain ⟨hz_19, h⟩ := gd_el h
  exact r_zretW B hR hr hlk hz_19 h dX7_readRegisters_19
def fX7_readRegisters (fu : Nat) (a0 : Nat) (M : Mm) : Option (Int32 × Mm) :=
  if (M.1 a0 10) = 0 then
    if (M.1 a0 13) = 0 then
      lt (wI M a0 10 1) fun M_22 =>
      bw (fX7_readNumber fu a0 1 10 M_22) fun r_29 M_29 =>
      if r_29 = 0 then
        some (0, M_29)
      else
        lt (wI M_29 (a0 + 2) 1 (M_29.1 a0 8)) fun M_45 =>
        bw (fX7_readStop fu a0 M_45) fun r_49 M_49 =>
        gd (r_49 = 0 ∨ r_49 = 1) <|
        some (r_49, M_49)
    else
      fX7_readRegisters_j14 fu a0 M
  else
    fX7_readRegisters_j14 fu a0 M
set_option maxRecDepth 100000 in
set_option maxHeartbeats 4000000 in
theorem mX7_readRegisters {l : Launch} {E : Ge} {L : Lay} (fu d : Nat) {a0 : Nat} {M : Mm} {r : Int32} {M' : Mm}  (h0 : At L a0 T7) (h : fX7_readRegisters fu a0 M = some (r, M')) : Ct l E L yX7_readRegisters cX7_readRegisters 1 (some .boolean) (d + 3) [.ref a0] M (some (.int r)) M' := by
  refine Ct.of (by decide) ?_
  intro p e s m below meth c hr hlk B hR
  have B : Bx p s m _ c cX7_readRegisters 1 RX7 E L := B
  have hx := B.1
  have hb := B.2.1
  have hl := lv_entry ([.ref a0]) (n := 1) (Nat.le_of_ble_eq_true rfl)
  rw [lg_entry_eq]
  generalize (lg_sl ([.ref a0]) ++ List.replicate (1 - (lg_sl ([.ref a0])).length) Slot.unset).toArray = ls at hl ⊢
  have hl : lv_has ls 1 [(0, .ref a0)] := hl
  unfold fX7_readRegisters at h
  refine lv_aload_n hx hb dX7_readRegisters_0 rfl (lv_at hl 0 rfl) ?_
  refine gf_X7_55 B hR (h0.at0 rfl) dX7_readRegisters_1 ?_
  refine lv_if_ne (tgt := 14) hx hb dX7_readRegisters_4 (by decide) (fun c_4 => ?_) (fun c_4 => ?_)
  · rw [if_neg c_4] at h
    exact wX7_readRegisters_j14 B hr hlk h0 h hR hl
  · rw [if_pos c_4] at h
    refine lv_aload_n hx hb dX7_readRegisters_7 rfl (lv_at hl 0 rfl) ?_
    refine gf_X7_64 B hR (h0.at0 rfl) dX7_readRegisters_8 ?_
    refine lv_if_eq (tgt := 20) hx hb dX7_readRegisters_11 (by decide) (fun c_11 => ?_) (fun c_11 => ?_)
    · rw [if_pos c_11] at h
      refine lv_aload_n hx hb dX7_readRegisters_20 rfl (lv_at hl 0 rfl) ?_
      refine lv_iconst (v := 1) hx hb dX7_readRegisters_21 (by decide) ?_
      obtain ⟨M_22, eM_22, h⟩ := lt_el h
      refine pz_X7_55 B hR (h0.at0 rfl) (Or.inr rfl) dX7_readRegisters_22 (fun H locs hR => ?_)
      rw [← eM_22] at hR
      refine lv_aload_n hx hb dX7_readRegisters_25 rfl (lv_at hl 0 rfl) ?_
      refine lv_iconst (v := 1) hx hb dX7_readRegisters_26 (by decide) ?_
      refine lv_bipush (v := 10) hx hb dX7_readRegisters_27 (by decide) ?_
      obtain ⟨r_29, M_29, hc_29, h⟩ := bw_el h
      refine iv_X7_110 B hR (h0.at0 rfl) hl.1 (mX7_readNumber fu _ h0 hc_29) (Nat.le_of_ble_eq_true rfl) dX7_readRegisters_29 (fun H locs hR => ?_)
      refine lv_if_ne (tgt := 37) hx hb dX7_readRegisters_32 (by decide) (fun c_32 => ?_) (fun c_32 => ?_)
      · rw [if_neg c_32] at h
        refine lv_aload_n hx hb dX7_readRegisters_37 rfl (lv_at hl 0 rfl) ?_
        refine gf_X7_22 B hR (h0.at0 rfl) dX7_readRegisters_38 ?_
        refine lv_aload_n hx hb dX7_readRegisters_41 rfl (lv_at hl 0 rfl) ?_
        refine gf_X7_114 B hR (h0.at0 rfl) dX7_readRegisters_42 ?_
        obtain ⟨M_45, eM_45, h⟩ := lt_el h
        refine pf_X7_123 B hR ((sb_7_4 h0).at0 rfl) dX7_readRegisters_45 (fun H locs hR => ?_)
        rw [← eM_45] at hR
        refine lv_aload_n hx hb dX7_readRegisters_48 rfl (lv_at hl 0 rfl) ?_
        obtain ⟨r_49, M_49, hc_49, h⟩ := bw_el h
        refine iv_X7_120 B hR (h0.at0 rfl) hl.1 (mX7_readStop fu _ h0 hc_49) (Nat.le_of_ble_eq_true rfl) dX7_readRegisters_49 (fun H locs hR => ?_)
        obtain ⟨hz_52, h⟩ := gd_el h
        exact r_zretW B hR hr hlk hz_52 h dX7_readRegisters_52
      · rw [if_pos c_32] at h
        refine lv_iconst (v := 0) hx hb dX7_readRegisters_35 (by decide) ?_
        exact r_zretW B hR hr hlk (Or.inl rfl) h dX7_readRegisters_36
    · rw [if_neg c_11] at h
      exact wX7_readRegisters_j14 B hr hlk h0 h hR hl
def fX7_fixedStops_j12 (fu : Nat) (a0 : Nat) (M : Mm) : Option (Int32 × Mm) :=
  bw (fX7_failed fu a0 1 M) fun r_14 M_14 =>
  gd (r_14 = 0 ∨ r_14 = 1) <|
  some (r_14, M_14)
set_option maxRecDepth 100000 in
set_option maxHeartbeats 4000000 in
theorem wX7_fixedStops_j12 {r : Int32} {M' : Mm}   {a0 : Nat} {M : Mm} (B : Bx p s m args c cX7_fixedStops 2 RX7 E L) (hr : meth.sig.returnType = (some .boolean)) (hlk : meth.locks = false)  (h0 : At L a0 T7) (h : fX7_fixedStops_j12 fu a0 M = some (r, M')) (hR : Rx s E L M H locs) (hl : lv_has ls 2 [(0, .ref a0)]) : W p l e (rmD (d + 1)) s m args below meth c H locs 0 0 (MQ below (QcM E L (some (.int r)) M') args s 0 0 E.2.2.2) (F0 m 12 ls []) := by
  have hx := B.1
  have hb := B.2.1
  unfold fX7_fixedStops_j12 at h
  refine lv_aload_n hx hb dX7_fixedStops_12 rfl (lv_at hl 0 rfl) ?_
  refine lv_iconst (v := 1) hx hb dX7_fixedStops_13 (by decide) ?_
  obtain ⟨r_14, M_14, hc_14, h⟩ := bw_el h
  refine iv_X7_106 B hR (h0.at0 rfl) hl.1 (mX7_failed fu _ h0 hc_14) (Nat.le_of_ble_eq_true rfl) dX7_fixedStops_14 (fun H locs hR => ?_)
  obtain ⟨hz_17, h⟩ := gd_el h
  exact r_zretW B hR hr hlk hz_17 h dX7_fixedStops_17
def fX7_fixedStops_j37 (fu : Nat) (t0 : Int32) (M : Mm) : Option (Int32 × Mm) :=
  gd (t0 = 0 ∨ t0 = 1) <|
  some (t0, M)
set_option maxRecDepth 100000 in
set_option maxHeartbeats 4000000 in
theorem wX7_fixedStops_j37 {r : Int32} {M' : Mm}   {t0 : Int32} {M : Mm} (B : Bx p s m args c cX7_fixedStops 2 RX7 E L) (hr : meth.sig.returnType = (some .boolean)) (hlk : meth.locks = false)   (h : fX7_fixedStops_j37 fu t0 M = some (r, M')) (hR : Rx s E L M H locs) (hl : lv_has ls 2 []) : W p l e (rmD (d + 1)) s m args below meth c H locs 0 0 (MQ below (QcM E L (some (.int r)) M') args s 0 0 E.2.2.2) (F0 m 37 ls [.int t0]) := by
  have hx := B.1
  have hb := B.2.1
  unfold fX7_fixedStops_j37 at h
  obtain ⟨hz_37, h⟩ := gd_el h
  exact r_zretW B hR hr hlk hz_37 h dX7_fixedStops_37
def fX7_fixedStops_j32 (fu : Nat) (M : Mm) : Option (Int32 × Mm) :=
  fX7_fixedStops_j37 fu 1 M
set_option maxRecDepth 100000 in
set_option maxHeartbeats 4000000 in
theorem wX7_fixedStops_j32 {r : Int32} {M' : Mm}    {M : Mm} (B : Bx p s m args c cX7_fixedStops 2 RX7 E L) (hr : meth.sig.returnType = (some .boolean)) (hlk : meth.locks = false)   (h : fX7_fixedStops_j32 fu M = some (r, M')) (hR : Rx s E L M H locs) (hl : lv_has ls 2 []) : W p l e (rmD (d + 1)) s m args below meth c H locs 0 0 (MQ below (QcM E L (some (.int r)) M') args s 0 0 E.2.2.2) (F0 m 32 ls []) := by
  have hx := B.1
  have hb := B.2.1
  unfold fX7_fixedStops_j32 at h
  refine lv_iconst (v := 1) hx hb dX7_fixedStops_32 (by decide) ?_
  refine lv_goto (tgt := 37) hx hb dX7_fixedStops_33 (by decide) ?_
  exact wX7_fixedStops_j37 B hr hlk  h hR hl
def fX7_fixedStops (fu : Nat) (a0 : Nat) (x1 : Int32) (M : Mm) : Option (Int32 × Mm) :=
  if (M.1 a0 7) = 2 then
    if x1 = 0 then
      fX7_fixedStops_j12 fu a0 M
    else
      if x1 = 8 then
        fX7_fixedStops_j32 fu M
      else
        bw (fX7_failed fu a0 4 M) fun r_26 M_26 =>
        if r_26 = 0 then
          fX7_fixedStops_j37 fu 0 M_26
        else
          fX7_fixedStops_j32 fu M_26
  else
    fX7_fixedStops_j12 fu a0 M
set_option maxRecDepth 100000 in
set_option maxHeartbeats 4000000 in
theorem mX7_fixedStops {l : Launch} {E : Ge} {L : Lay} (fu d : Nat) {a0 : Nat} {x1 : Int32} {M : Mm} {r : Int32} {M' : Mm}  (h0 : At L a0 T7) (h : fX7_fixedStops fu a0 x1 M = some (r, M')) : Ct l E L yX7_fixedStops cX7_fixedStops 2 (some .boolean) (d + 1) [.ref a0, .int x1] M (some (.int r)) M' := by
  refine Ct.of (by decide) ?_
  intro p e s m below meth c hr hlk B hR
  have B : Bx p s m _ c cX7_fixedStops 2 RX7 E L := B
  have hx := B.1
  have hb := B.2.1
  have hl := lv_entry ([.ref a0, .int x1]) (n := 2) (Nat.le_of_ble_eq_true rfl)
  rw [lg_entry_eq]
  generalize (lg_sl ([.ref a0, .int x1]) ++ List.replicate (2 - (lg_sl ([.ref a0, .int x1])).length) Slot.unset).toArray = ls at hl ⊢
  have hl : lv_has ls 2 [(0, .ref a0), (1, .int x1)] := hl
  unfold fX7_fixedStops at h
  refine lv_aload_n hx hb dX7_fixedStops_0 rfl (lv_at hl 0 rfl) ?_
  refine gf_X7_35 B hR (h0.at0 rfl) dX7_fixedStops_1 ?_
  refine lv_iconst (v := 2) hx hb dX7_fixedStops_4 (by decide) ?_
  refine lv_icmp_ne (tgt := 12) hx hb dX7_fixedStops_5 (by decide) (fun c_5 => ?_) (fun c_5 => ?_)
  · rw [if_neg c_5] at h
    exact wX7_fixedStops_j12 B hr hlk h0 h hR (lv_sub hl [0] rfl)
  · rw [if_pos c_5] at h
    refine lv_iload_n hx hb dX7_fixedStops_8 rfl (lv_at hl 1 rfl) ?_
    refine lv_if_ne (tgt := 18) hx hb dX7_fixedStops_9 (by decide) (fun c_9 => ?_) (fun c_9 => ?_)
    · rw [if_neg c_9] at h
      refine lv_iload_n hx hb dX7_fixedStops_18 rfl (lv_at hl 1 rfl) ?_
      refine lv_bipush (v := 8) hx hb dX7_fixedStops_19 (by decide) ?_
      refine lv_icmp_eq (tgt := 32) hx hb dX7_fixedStops_21 (by decide) (fun c_21 => ?_) (fun c_21 => ?_)
      · rw [if_pos c_21] at h
        exact wX7_fixedStops_j32 B hr hlk  h hR (lv_sub hl [] rfl)
      · rw [if_neg c_21] at h
        refine lv_aload_n hx hb dX7_fixedStops_24 rfl (lv_at hl 0 rfl) ?_
        refine lv_iconst (v := 4) hx hb dX7_fixedStops_25 (by decide) ?_
        obtain ⟨r_26, M_26, hc_26, h⟩ := bw_el h
        refine iv_X7_106 B hR (h0.at0 rfl) hl.1 (mX7_failed fu _ h0 hc_26) (Nat.le_of_ble_eq_true rfl) dX7_fixedStops_26 (fun H locs hR => ?_)
        refine lv_if_eq (tgt := 36) hx hb dX7_fixedStops_29 (by decide) (fun c_29 => ?_) (fun c_29 => ?_)
        · rw [if_pos c_29] at h
          refine lv_iconst (v := 0) hx hb dX7_fixedStops_36 (by decide) ?_
          exact wX7_fixedStops_j37 B hr hlk  h hR (lv_sub hl [] rfl)
        · rw [if_neg c_29] at h
          exact wX7_fixedStops_j32 B hr hlk  h hR (lv_sub hl [] rfl)
    · rw [if_pos c_9] at h
      exact wX7_fixedStops_j12 B hr hlk h0 h hR (lv_sub hl [0] rfl)
end G19_reader_lean_txt
