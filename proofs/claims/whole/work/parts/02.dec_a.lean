theorem dX0_init_0 : decode cX0_init 0 = .ok (.aload_n 0, 1) := by decide +kernel
theorem dX0_init_1 : decode cX0_init 1 = .ok (.invokespecial 3, 3) := by decide +kernel
theorem dX0_init_4 : decode cX0_init 4 = .ok (.aload_n 0, 1) := by decide +kernel
theorem dX0_init_5 : decode cX0_init 5 = .ok (.bipush 16, 2) := by decide +kernel
theorem dX0_init_7 : decode cX0_init 7 = .ok (.newarray .int, 2) := by decide +kernel
theorem dX0_init_9 : decode cX0_init 9 = .ok (.putfield 9, 3) := by decide +kernel
theorem dX0_init_12 : decode cX0_init 12 = .ok (.return_, 1) := by decide +kernel
theorem dX0_begin_0 : decode cX0_begin 0 = .ok (.aload_n 0, 1) := by decide +kernel
theorem dX0_begin_1 : decode cX0_begin 1 = .ok (.iconst 0, 1) := by decide +kernel
theorem dX0_begin_2 : decode cX0_begin 2 = .ok (.putfield 15, 3) := by decide +kernel
theorem dX0_begin_5 : decode cX0_begin 5 = .ok (.aload_n 0, 1) := by decide +kernel
theorem dX0_begin_6 : decode cX0_begin 6 = .ok (.aload_n 1, 1) := by decide +kernel
theorem dX0_begin_7 : decode cX0_begin 7 = .ok (.iload_n 2, 1) := by decide +kernel
theorem dX0_begin_8 : decode cX0_begin 8 = .ok (.iload_n 3, 1) := by decide +kernel
theorem dX0_begin_9 : decode cX0_begin 9 = .ok (.iconst 0, 1) := by decide +kernel
theorem dX0_begin_10 : decode cX0_begin 10 = .ok (.invokevirtual 19, 3) := by decide +kernel
theorem dX0_begin_13 : decode cX0_begin 13 = .ok (.ireturn, 1) := by decide +kernel
theorem dX0_answerOf_0 : decode cX0_answerOf 0 = .ok (.aload_n 1, 1) := by decide +kernel
theorem dX0_answerOf_1 : decode cX0_answerOf 1 = .ok (.iload_n 2, 1) := by decide +kernel
theorem dX0_answerOf_2 : decode cX0_answerOf 2 = .ok (.invokevirtual 23, 3) := by decide +kernel
theorem dX0_answerOf_5 : decode cX0_answerOf 5 = .ok (.ifCond .ne 5, 3) := by decide +kernel
theorem dX0_answerOf_8 : decode cX0_answerOf 8 = .ok (.iconst 0, 1) := by decide +kernel
theorem dX0_answerOf_9 : decode cX0_answerOf 9 = .ok (.ireturn, 1) := by decide +kernel
theorem dX0_answerOf_10 : decode cX0_answerOf 10 = .ok (.aload_n 0, 1) := by decide +kernel
theorem dX0_answerOf_11 : decode cX0_answerOf 11 = .ok (.aload_n 1, 1) := by decide +kernel
theorem dX0_answerOf_12 : decode cX0_answerOf 12 = .ok (.getfield 29, 3) := by decide +kernel
theorem dX0_answerOf_15 : decode cX0_answerOf 15 = .ok (.iload_n 2, 1) := by decide +kernel
theorem dX0_answerOf_16 : decode cX0_answerOf 16 = .ok (.iaload, 1) := by decide +kernel
theorem dX0_answerOf_17 : decode cX0_answerOf 17 = .ok (.iload_n 3, 1) := by decide +kernel
theorem dX0_answerOf_18 : decode cX0_answerOf 18 = .ok (.invokestatic 32, 3) := by decide +kernel
theorem dX0_answerOf_21 : decode cX0_answerOf 21 = .ok (.aload_n 1, 1) := by decide +kernel
theorem dX0_answerOf_22 : decode cX0_answerOf 22 = .ok (.iload_n 2, 1) := by decide +kernel
theorem dX0_answerOf_23 : decode cX0_answerOf 23 = .ok (.iload 4, 2) := by decide +kernel
theorem dX0_answerOf_25 : decode cX0_answerOf 25 = .ok (.invokevirtual 36, 3) := by decide +kernel
theorem dX0_answerOf_28 : decode cX0_answerOf 28 = .ok (.ireturn, 1) := by decide +kernel
theorem dX0_bodyFor_0 : decode cX0_bodyFor 0 = .ok (.iload_n 0, 1) := by decide +kernel
theorem dX0_bodyFor_1 : decode cX0_bodyFor 1 = .ok (.istore_n 2, 1) := by decide +kernel
theorem dX0_bodyFor_2 : decode cX0_bodyFor 2 = .ok (.iconst 0, 1) := by decide +kernel
theorem dX0_bodyFor_3 : decode cX0_bodyFor 3 = .ok (.istore_n 3, 1) := by decide +kernel
theorem dX0_bodyFor_4 : decode cX0_bodyFor 4 = .ok (.iload_n 3, 1) := by decide +kernel
theorem dX0_bodyFor_5 : decode cX0_bodyFor 5 = .ok (.bipush 6, 2) := by decide +kernel
theorem dX0_bodyFor_7 : decode cX0_bodyFor 7 = .ok (.if_icmp .ge 52, 3) := by decide +kernel
theorem dX0_bodyFor_10 : decode cX0_bodyFor 10 = .ok (.iload_n 2, 1) := by decide +kernel
theorem dX0_bodyFor_11 : decode cX0_bodyFor 11 = .ok (.ifCond .lt 48, 3) := by decide +kernel
theorem dX0_bodyFor_14 : decode cX0_bodyFor 14 = .ok (.iload_n 2, 1) := by decide +kernel
theorem dX0_bodyFor_15 : decode cX0_bodyFor 15 = .ok (.bipush 6, 2) := by decide +kernel
theorem dX0_bodyFor_17 : decode cX0_bodyFor 17 = .ok (.if_icmp .ge 42, 3) := by decide +kernel
theorem dX0_bodyFor_20 : decode cX0_bodyFor 20 = .ok (.iload_n 1, 1) := by decide +kernel
theorem dX0_bodyFor_21 : decode cX0_bodyFor 21 = .ok (.ifCond .ne 11, 3) := by decide +kernel
theorem dX0_bodyFor_24 : decode cX0_bodyFor 24 = .ok (.getstatic 40, 3) := by decide +kernel
theorem dX0_bodyFor_27 : decode cX0_bodyFor 27 = .ok (.iload_n 2, 1) := by decide +kernel
theorem dX0_bodyFor_28 : decode cX0_bodyFor 28 = .ok (.iaload, 1) := by decide +kernel
theorem dX0_bodyFor_29 : decode cX0_bodyFor 29 = .ok (.goto 8, 3) := by decide +kernel
theorem dX0_bodyFor_32 : decode cX0_bodyFor 32 = .ok (.getstatic 43, 3) := by decide +kernel
theorem dX0_bodyFor_35 : decode cX0_bodyFor 35 = .ok (.iload_n 2, 1) := by decide +kernel
theorem dX0_bodyFor_36 : decode cX0_bodyFor 36 = .ok (.iaload, 1) := by decide +kernel
theorem dX0_bodyFor_37 : decode cX0_bodyFor 37 = .ok (.istore 4, 2) := by decide +kernel
theorem dX0_bodyFor_39 : decode cX0_bodyFor 39 = .ok (.iload 4, 2) := by decide +kernel
theorem dX0_bodyFor_41 : decode cX0_bodyFor 41 = .ok (.ifCond .eq 6, 3) := by decide +kernel
theorem dX0_bodyFor_44 : decode cX0_bodyFor 44 = .ok (.iload 4, 2) := by decide +kernel
theorem dX0_bodyFor_46 : decode cX0_bodyFor 46 = .ok (.ireturn, 1) := by decide +kernel
theorem dX0_bodyFor_47 : decode cX0_bodyFor 47 = .ok (.getstatic 46, 3) := by decide +kernel
theorem dX0_bodyFor_50 : decode cX0_bodyFor 50 = .ok (.iload_n 2, 1) := by decide +kernel
theorem dX0_bodyFor_51 : decode cX0_bodyFor 51 = .ok (.iaload, 1) := by decide +kernel
theorem dX0_bodyFor_52 : decode cX0_bodyFor 52 = .ok (.istore_n 2, 1) := by decide +kernel
theorem dX0_bodyFor_53 : decode cX0_bodyFor 53 = .ok (.iinc 3 1, 3) := by decide +kernel
theorem dX0_bodyFor_56 : decode cX0_bodyFor 56 = .ok (.goto (-52), 3) := by decide +kernel
theorem dX0_bodyFor_59 : decode cX0_bodyFor 59 = .ok (.ldc 49, 2) := by decide +kernel
theorem dX0_bodyFor_61 : decode cX0_bodyFor 61 = .ok (.ireturn, 1) := by decide +kernel
theorem dX0_run_0 : decode cX0_run 0 = .ok (.iload 4, 2) := by decide +kernel
theorem dX0_run_2 : decode cX0_run 2 = .ok (.bipush 30, 2) := by decide +kernel
theorem dX0_run_4 : decode cX0_run 4 = .ok (.if_icmp .gt 11, 3) := by decide +kernel
theorem dX0_run_7 : decode cX0_run 7 = .ok (.aload_n 2, 1) := by decide +kernel
theorem dX0_run_8 : decode cX0_run 8 = .ok (.iload_n 3, 1) := by decide +kernel
theorem dX0_run_9 : decode cX0_run 9 = .ok (.invokevirtual 23, 3) := by decide +kernel
theorem dX0_run_12 : decode cX0_run 12 = .ok (.ifCond .ne 5, 3) := by decide +kernel
theorem dX0_run_15 : decode cX0_run 15 = .ok (.iconst 0, 1) := by decide +kernel
theorem dX0_run_16 : decode cX0_run 16 = .ok (.ireturn, 1) := by decide +kernel
theorem dX0_run_17 : decode cX0_run 17 = .ok (.aload_n 0, 1) := by decide +kernel
theorem dX0_run_18 : decode cX0_run 18 = .ok (.iload_n 1, 1) := by decide +kernel
theorem dX0_run_19 : decode cX0_run 19 = .ok (.invokevirtual 50, 3) := by decide +kernel
theorem dX0_run_22 : decode cX0_run 22 = .ok (.iload 4, 2) := by decide +kernel
theorem dX0_run_24 : decode cX0_run 24 = .ok (.iconst 1, 1) := by decide +kernel
theorem dX0_run_25 : decode cX0_run 25 = .ok (.iadd, 1) := by decide +kernel
theorem dX0_run_26 : decode cX0_run 26 = .ok (.istore 5, 2) := by decide +kernel
theorem dX0_run_28 : decode cX0_run 28 = .ok (.iload_n 1, 1) := by decide +kernel
theorem dX0_run_29 : decode cX0_run 29 = .ok (.tableswitch 211 10 24 #[75, 82, 103, 115, 129, 211, 211, 211, 211, 211, 142, 144, 162, 177, 198], 75) := by decide +kernel
theorem dX0_run_104 : decode cX0_run 104 = .ok (.aload_n 2, 1) := by decide +kernel
theorem dX0_run_105 : decode cX0_run 105 = .ok (.getfield 54, 3) := by decide +kernel
theorem dX0_run_108 : decode cX0_run 108 = .ok (.iload_n 3, 1) := by decide +kernel
theorem dX0_run_109 : decode cX0_run 109 = .ok (.iaload, 1) := by decide +kernel
theorem dX0_run_110 : decode cX0_run 110 = .ok (.ireturn, 1) := by decide +kernel
theorem dX0_run_111 : decode cX0_run 111 = .ok (.aload_n 0, 1) := by decide +kernel
theorem dX0_run_112 : decode cX0_run 112 = .ok (.bipush 10, 2) := by decide +kernel
theorem dX0_run_114 : decode cX0_run 114 = .ok (.aload_n 2, 1) := by decide +kernel
theorem dX0_run_115 : decode cX0_run 115 = .ok (.iload_n 3, 1) := by decide +kernel
theorem dX0_run_116 : decode cX0_run 116 = .ok (.iload 5, 2) := by decide +kernel
theorem dX0_run_118 : decode cX0_run 118 = .ok (.invokevirtual 36, 3) := by decide +kernel
theorem dX0_run_121 : decode cX0_run 121 = .ok (.aload_n 0, 1) := by decide +kernel
theorem dX0_run_122 : decode cX0_run 122 = .ok (.aload_n 2, 1) := by decide +kernel
theorem dX0_run_123 : decode cX0_run 123 = .ok (.iload_n 3, 1) := by decide +kernel
theorem dX0_run_124 : decode cX0_run 124 = .ok (.iconst 1, 1) := by decide +kernel
theorem dX0_run_125 : decode cX0_run 125 = .ok (.iload 5, 2) := by decide +kernel
theorem dX0_run_127 : decode cX0_run 127 = .ok (.invokevirtual 19, 3) := by decide +kernel
theorem dX0_run_130 : decode cX0_run 130 = .ok (.iadd, 1) := by decide +kernel
theorem dX0_run_131 : decode cX0_run 131 = .ok (.ireturn, 1) := by decide +kernel
theorem dX0_run_132 : decode cX0_run 132 = .ok (.aload_n 0, 1) := by decide +kernel
theorem dX0_run_133 : decode cX0_run 133 = .ok (.bipush 11, 2) := by decide +kernel
theorem dX0_run_135 : decode cX0_run 135 = .ok (.aload_n 2, 1) := by decide +kernel
theorem dX0_run_136 : decode cX0_run 136 = .ok (.iload_n 3, 1) := by decide +kernel
theorem dX0_run_137 : decode cX0_run 137 = .ok (.iload 5, 2) := by decide +kernel
theorem dX0_run_139 : decode cX0_run 139 = .ok (.invokevirtual 36, 3) := by decide +kernel
theorem dX0_run_142 : decode cX0_run 142 = .ok (.ineg, 1) := by decide +kernel
theorem dX0_run_143 : decode cX0_run 143 = .ok (.ireturn, 1) := by decide +kernel
theorem dX0_run_144 : decode cX0_run 144 = .ok (.aload_n 0, 1) := by decide +kernel
theorem dX0_run_145 : decode cX0_run 145 = .ok (.bipush 10, 2) := by decide +kernel
theorem dX0_run_147 : decode cX0_run 147 = .ok (.aload_n 2, 1) := by decide +kernel
theorem dX0_run_148 : decode cX0_run 148 = .ok (.iload_n 3, 1) := by decide +kernel
theorem dX0_run_149 : decode cX0_run 149 = .ok (.iload 5, 2) := by decide +kernel
theorem dX0_run_151 : decode cX0_run 151 = .ok (.invokevirtual 36, 3) := by decide +kernel
theorem dX0_run_154 : decode cX0_run 154 = .ok (.bipush 100, 2) := by decide +kernel
theorem dX0_run_156 : decode cX0_run 156 = .ok (.isub, 1) := by decide +kernel
theorem dX0_run_157 : decode cX0_run 157 = .ok (.ireturn, 1) := by decide +kernel
theorem dX0_run_158 : decode cX0_run 158 = .ok (.iconst 2, 1) := by decide +kernel
theorem dX0_run_159 : decode cX0_run 159 = .ok (.aload_n 0, 1) := by decide +kernel
theorem dX0_run_160 : decode cX0_run 160 = .ok (.bipush 13, 2) := by decide +kernel
theorem dX0_run_162 : decode cX0_run 162 = .ok (.aload_n 2, 1) := by decide +kernel
theorem dX0_run_163 : decode cX0_run 163 = .ok (.iload_n 3, 1) := by decide +kernel
theorem dX0_run_164 : decode cX0_run 164 = .ok (.iload 5, 2) := by decide +kernel
theorem dX0_run_166 : decode cX0_run 166 = .ok (.invokevirtual 36, 3) := by decide +kernel
theorem dX0_run_169 : decode cX0_run 169 = .ok (.imul, 1) := by decide +kernel
theorem dX0_run_170 : decode cX0_run 170 = .ok (.ireturn, 1) := by decide +kernel
theorem dX0_run_171 : decode cX0_run 171 = .ok (.iload_n 3, 1) := by decide +kernel
theorem dX0_run_172 : decode cX0_run 172 = .ok (.ireturn, 1) := by decide +kernel
theorem dX0_run_173 : decode cX0_run 173 = .ok (.aload_n 0, 1) := by decide +kernel
theorem dX0_run_174 : decode cX0_run 174 = .ok (.bipush 20, 2) := by decide +kernel
theorem dX0_run_176 : decode cX0_run 176 = .ok (.aload_n 2, 1) := by decide +kernel
theorem dX0_run_177 : decode cX0_run 177 = .ok (.iload_n 3, 1) := by decide +kernel
theorem dX0_run_178 : decode cX0_run 178 = .ok (.iload 5, 2) := by decide +kernel
theorem dX0_run_180 : decode cX0_run 180 = .ok (.invokevirtual 36, 3) := by decide +kernel
theorem dX0_run_183 : decode cX0_run 183 = .ok (.aload_n 2, 1) := by decide +kernel
theorem dX0_run_184 : decode cX0_run 184 = .ok (.getfield 57, 3) := by decide +kernel
theorem dX0_run_187 : decode cX0_run 187 = .ok (.iload_n 3, 1) := by decide +kernel
theorem dX0_run_188 : decode cX0_run 188 = .ok (.iaload, 1) := by decide +kernel
theorem dX0_run_189 : decode cX0_run 189 = .ok (.iadd, 1) := by decide +kernel
theorem dX0_run_190 : decode cX0_run 190 = .ok (.ireturn, 1) := by decide +kernel
theorem dX0_run_191 : decode cX0_run 191 = .ok (.aload_n 0, 1) := by decide +kernel
theorem dX0_run_192 : decode cX0_run 192 = .ok (.bipush 21, 2) := by decide +kernel
theorem dX0_run_194 : decode cX0_run 194 = .ok (.aload_n 2, 1) := by decide +kernel
theorem dX0_run_195 : decode cX0_run 195 = .ok (.iload_n 3, 1) := by decide +kernel
theorem dX0_run_196 : decode cX0_run 196 = .ok (.iload 5, 2) := by decide +kernel
theorem dX0_run_198 : decode cX0_run 198 = .ok (.invokevirtual 36, 3) := by decide +kernel
theorem dX0_run_201 : decode cX0_run 201 = .ok (.sipush 1000, 3) := by decide +kernel
theorem dX0_run_204 : decode cX0_run 204 = .ok (.isub, 1) := by decide +kernel
theorem dX0_run_205 : decode cX0_run 205 = .ok (.ireturn, 1) := by decide +kernel
theorem dX0_run_206 : decode cX0_run 206 = .ok (.aload_n 0, 1) := by decide +kernel
theorem dX0_run_207 : decode cX0_run 207 = .ok (.bipush 20, 2) := by decide +kernel
theorem dX0_run_209 : decode cX0_run 209 = .ok (.aload_n 2, 1) := by decide +kernel
theorem dX0_run_210 : decode cX0_run 210 = .ok (.iload_n 3, 1) := by decide +kernel
theorem dX0_run_211 : decode cX0_run 211 = .ok (.iload 5, 2) := by decide +kernel
theorem dX0_run_213 : decode cX0_run 213 = .ok (.invokevirtual 36, 3) := by decide +kernel
theorem dX0_run_216 : decode cX0_run 216 = .ok (.aload_n 0, 1) := by decide +kernel
theorem dX0_run_217 : decode cX0_run 217 = .ok (.aload_n 2, 1) := by decide +kernel
theorem dX0_run_218 : decode cX0_run 218 = .ok (.iload_n 3, 1) := by decide +kernel
theorem dX0_run_219 : decode cX0_run 219 = .ok (.iconst 0, 1) := by decide +kernel
theorem dX0_run_220 : decode cX0_run 220 = .ok (.iload 5, 2) := by decide +kernel
theorem dX0_run_222 : decode cX0_run 222 = .ok (.invokevirtual 19, 3) := by decide +kernel
theorem dX0_run_225 : decode cX0_run 225 = .ok (.isub, 1) := by decide +kernel
theorem dX0_run_226 : decode cX0_run 226 = .ok (.ireturn, 1) := by decide +kernel
theorem dX0_run_227 : decode cX0_run 227 = .ok (.iconst 2, 1) := by decide +kernel
theorem dX0_run_228 : decode cX0_run 228 = .ok (.aload_n 0, 1) := by decide +kernel
theorem dX0_run_229 : decode cX0_run 229 = .ok (.bipush 21, 2) := by decide +kernel
theorem dX0_run_231 : decode cX0_run 231 = .ok (.aload_n 2, 1) := by decide +kernel
theorem dX0_run_232 : decode cX0_run 232 = .ok (.iload_n 3, 1) := by decide +kernel
theorem dX0_run_233 : decode cX0_run 233 = .ok (.iload 5, 2) := by decide +kernel
theorem dX0_run_235 : decode cX0_run 235 = .ok (.invokevirtual 36, 3) := by decide +kernel
theorem dX0_run_238 : decode cX0_run 238 = .ok (.imul, 1) := by decide +kernel
theorem dX0_run_239 : decode cX0_run 239 = .ok (.ireturn, 1) := by decide +kernel
theorem dX0_run_240 : decode cX0_run 240 = .ok (.iconst 0, 1) := by decide +kernel
theorem dX0_run_241 : decode cX0_run 241 = .ok (.ireturn, 1) := by decide +kernel
theorem dX0_leaveNumber_0 : decode cX0_leaveNumber 0 = .ok (.aload_n 0, 1) := by decide +kernel
theorem dX0_leaveNumber_1 : decode cX0_leaveNumber 1 = .ok (.getfield 15, 3) := by decide +kernel
theorem dX0_leaveNumber_4 : decode cX0_leaveNumber 4 = .ok (.bipush 16, 2) := by decide +kernel
theorem dX0_leaveNumber_6 : decode cX0_leaveNumber 6 = .ok (.if_icmp .ge 23, 3) := by decide +kernel
theorem dX0_leaveNumber_9 : decode cX0_leaveNumber 9 = .ok (.aload_n 0, 1) := by decide +kernel
theorem dX0_leaveNumber_10 : decode cX0_leaveNumber 10 = .ok (.getfield 9, 3) := by decide +kernel
theorem dX0_leaveNumber_13 : decode cX0_leaveNumber 13 = .ok (.aload_n 0, 1) := by decide +kernel
theorem dX0_leaveNumber_14 : decode cX0_leaveNumber 14 = .ok (.getfield 15, 3) := by decide +kernel
theorem dX0_leaveNumber_17 : decode cX0_leaveNumber 17 = .ok (.iload_n 1, 1) := by decide +kernel
theorem dX0_leaveNumber_18 : decode cX0_leaveNumber 18 = .ok (.iastore, 1) := by decide +kernel
theorem dX0_leaveNumber_19 : decode cX0_leaveNumber 19 = .ok (.aload_n 0, 1) := by decide +kernel
theorem dX0_leaveNumber_20 : decode cX0_leaveNumber 20 = .ok (.dup, 1) := by decide +kernel
theorem dX0_leaveNumber_21 : decode cX0_leaveNumber 21 = .ok (.getfield 15, 3) := by decide +kernel
theorem dX0_leaveNumber_24 : decode cX0_leaveNumber 24 = .ok (.iconst 1, 1) := by decide +kernel
theorem dX0_leaveNumber_25 : decode cX0_leaveNumber 25 = .ok (.iadd, 1) := by decide +kernel
theorem dX0_leaveNumber_26 : decode cX0_leaveNumber 26 = .ok (.putfield 15, 3) := by decide +kernel
theorem dX0_leaveNumber_29 : decode cX0_leaveNumber 29 = .ok (.return_, 1) := by decide +kernel
theorem dX0_traceAt_0 : decode cX0_traceAt 0 = .ok (.iload_n 1, 1) := by decide +kernel
theorem dX0_traceAt_1 : decode cX0_traceAt 1 = .ok (.ifCond .lt 26, 3) := by decide +kernel
theorem dX0_traceAt_4 : decode cX0_traceAt 4 = .ok (.iload_n 1, 1) := by decide +kernel
theorem dX0_traceAt_5 : decode cX0_traceAt 5 = .ok (.aload_n 0, 1) := by decide +kernel
theorem dX0_traceAt_6 : decode cX0_traceAt 6 = .ok (.getfield 15, 3) := by decide +kernel
theorem dX0_traceAt_9 : decode cX0_traceAt 9 = .ok (.if_icmp .ge 18, 3) := by decide +kernel
theorem dX0_traceAt_12 : decode cX0_traceAt 12 = .ok (.iload_n 1, 1) := by decide +kernel
theorem dX0_traceAt_13 : decode cX0_traceAt 13 = .ok (.bipush 16, 2) := by decide +kernel
theorem dX0_traceAt_15 : decode cX0_traceAt 15 = .ok (.if_icmp .ge 12, 3) := by decide +kernel
theorem dX0_traceAt_18 : decode cX0_traceAt 18 = .ok (.aload_n 0, 1) := by decide +kernel
theorem dX0_traceAt_19 : decode cX0_traceAt 19 = .ok (.getfield 9, 3) := by decide +kernel
theorem dX0_traceAt_22 : decode cX0_traceAt 22 = .ok (.iload_n 1, 1) := by decide +kernel
theorem dX0_traceAt_23 : decode cX0_traceAt 23 = .ok (.iaload, 1) := by decide +kernel
theorem dX0_traceAt_24 : decode cX0_traceAt 24 = .ok (.goto 5, 3) := by decide +kernel
theorem dX0_traceAt_27 : decode cX0_traceAt 27 = .ok (.ldc 49, 2) := by decide +kernel
theorem dX0_traceAt_29 : decode cX0_traceAt 29 = .ok (.ireturn, 1) := by decide +kernel
theorem dX1_init_0 : decode cX1_init 0 = .ok (.aload_n 0, 1) := by decide +kernel
theorem dX1_init_1 : decode cX1_init 1 = .ok (.invokespecial 3, 3) := by decide +kernel
theorem dX1_init_4 : decode cX1_init 4 = .ok (.aload_n 0, 1) := by decide +kernel
theorem dX1_init_5 : decode cX1_init 5 = .ok (.iconst 4, 1) := by decide +kernel
theorem dX1_init_6 : decode cX1_init 6 = .ok (.newarray .int, 2) := by decide +kernel
theorem dX1_init_8 : decode cX1_init 8 = .ok (.putfield 9, 3) := by decide +kernel
theorem dX1_init_11 : decode cX1_init 11 = .ok (.aload_n 0, 1) := by decide +kernel
theorem dX1_init_12 : decode cX1_init 12 = .ok (.iconst 4, 1) := by decide +kernel
theorem dX1_init_13 : decode cX1_init 13 = .ok (.newarray .int, 2) := by decide +kernel
theorem dX1_init_15 : decode cX1_init 15 = .ok (.putfield 15, 3) := by decide +kernel
theorem dX1_init_18 : decode cX1_init 18 = .ok (.aload_n 0, 1) := by decide +kernel
theorem dX1_init_19 : decode cX1_init 19 = .ok (.iconst 4, 1) := by decide +kernel
theorem dX1_init_20 : decode cX1_init 20 = .ok (.newarray .int, 2) := by decide +kernel
theorem dX1_init_22 : decode cX1_init 22 = .ok (.putfield 18, 3) := by decide +kernel
theorem dX1_init_25 : decode cX1_init 25 = .ok (.aload_n 0, 1) := by decide +kernel
theorem dX1_init_26 : decode cX1_init 26 = .ok (.iconst 4, 1) := by decide +kernel
theorem dX1_init_27 : decode cX1_init 27 = .ok (.newarray .int, 2) := by decide +kernel
theorem dX1_init_29 : decode cX1_init 29 = .ok (.putfield 21, 3) := by decide +kernel
theorem dX1_init_32 : decode cX1_init 32 = .ok (.aload_n 0, 1) := by decide +kernel
theorem dX1_init_33 : decode cX1_init 33 = .ok (.iconst 4, 1) := by decide +kernel
theorem dX1_init_34 : decode cX1_init 34 = .ok (.newarray .int, 2) := by decide +kernel
theorem dX1_init_36 : decode cX1_init 36 = .ok (.putfield 24, 3) := by decide +kernel
theorem dX1_init_39 : decode cX1_init 39 = .ok (.aload_n 0, 1) := by decide +kernel
theorem dX1_init_40 : decode cX1_init 40 = .ok (.bipush 7, 2) := by decide +kernel
theorem dX1_init_42 : decode cX1_init 42 = .ok (.newarray .int, 2) := by decide +kernel
theorem dX1_init_44 : decode cX1_init 44 = .ok (.putfield 27, 3) := by decide +kernel
theorem dX1_init_47 : decode cX1_init 47 = .ok (.aload_n 0, 1) := by decide +kernel
theorem dX1_init_48 : decode cX1_init 48 = .ok (.bipush 7, 2) := by decide +kernel
theorem dX1_init_50 : decode cX1_init 50 = .ok (.newarray .int, 2) := by decide +kernel
theorem dX1_init_52 : decode cX1_init 52 = .ok (.putfield 30, 3) := by decide +kernel
theorem dX1_init_55 : decode cX1_init 55 = .ok (.return_, 1) := by decide +kernel
theorem dX1_clear_0 : decode cX1_clear 0 = .ok (.aload_n 0, 1) := by decide +kernel
theorem dX1_clear_1 : decode cX1_clear 1 = .ok (.iconst 0, 1) := by decide +kernel
theorem dX1_clear_2 : decode cX1_clear 2 = .ok (.putfield 33, 3) := by decide +kernel
theorem dX1_clear_5 : decode cX1_clear 5 = .ok (.aload_n 0, 1) := by decide +kernel
theorem dX1_clear_6 : decode cX1_clear 6 = .ok (.iconst 0, 1) := by decide +kernel
theorem dX1_clear_7 : decode cX1_clear 7 = .ok (.putfield 37, 3) := by decide +kernel
theorem dX1_clear_10 : decode cX1_clear 10 = .ok (.aload_n 0, 1) := by decide +kernel
theorem dX1_clear_11 : decode cX1_clear 11 = .ok (.iconst 0, 1) := by decide +kernel
theorem dX1_clear_12 : decode cX1_clear 12 = .ok (.putfield 40, 3) := by decide +kernel
theorem dX1_clear_15 : decode cX1_clear 15 = .ok (.aload_n 0, 1) := by decide +kernel
theorem dX1_clear_16 : decode cX1_clear 16 = .ok (.iconst 0, 1) := by decide +kernel
theorem dX1_clear_17 : decode cX1_clear 17 = .ok (.putfield 43, 3) := by decide +kernel
theorem dX1_clear_20 : decode cX1_clear 20 = .ok (.aload_n 0, 1) := by decide +kernel
theorem dX1_clear_21 : decode cX1_clear 21 = .ok (.iconst 0, 1) := by decide +kernel
theorem dX1_clear_22 : decode cX1_clear 22 = .ok (.putfield 46, 3) := by decide +kernel
theorem dX1_clear_25 : decode cX1_clear 25 = .ok (.aload_n 0, 1) := by decide +kernel
theorem dX1_clear_26 : decode cX1_clear 26 = .ok (.iconst 0, 1) := by decide +kernel
theorem dX1_clear_27 : decode cX1_clear 27 = .ok (.putfield 49, 3) := by decide +kernel
theorem dX1_clear_30 : decode cX1_clear 30 = .ok (.aload_n 0, 1) := by decide +kernel
theorem dX1_clear_31 : decode cX1_clear 31 = .ok (.iconst 0, 1) := by decide +kernel
theorem dX1_clear_32 : decode cX1_clear 32 = .ok (.putfield 52, 3) := by decide +kernel
theorem dX1_clear_35 : decode cX1_clear 35 = .ok (.aload_n 0, 1) := by decide +kernel
theorem dX1_clear_36 : decode cX1_clear 36 = .ok (.iconst 0, 1) := by decide +kernel
theorem dX1_clear_37 : decode cX1_clear 37 = .ok (.putfield 55, 3) := by decide +kernel
theorem dX1_clear_40 : decode cX1_clear 40 = .ok (.return_, 1) := by decide +kernel
theorem dX1_takeAll_0 : decode cX1_takeAll 0 = .ok (.aload_n 0, 1) := by decide +kernel
theorem dX1_takeAll_1 : decode cX1_takeAll 1 = .ok (.aload_n 1, 1) := by decide +kernel
theorem dX1_takeAll_2 : decode cX1_takeAll 2 = .ok (.getfield 58, 3) := by decide +kernel
theorem dX1_takeAll_5 : decode cX1_takeAll 5 = .ok (.putfield 58, 3) := by decide +kernel
theorem dX1_takeAll_8 : decode cX1_takeAll 8 = .ok (.aload_n 0, 1) := by decide +kernel
theorem dX1_takeAll_9 : decode cX1_takeAll 9 = .ok (.aload_n 1, 1) := by decide +kernel
theorem dX1_takeAll_10 : decode cX1_takeAll 10 = .ok (.getfield 61, 3) := by decide +kernel
theorem dX1_takeAll_13 : decode cX1_takeAll 13 = .ok (.putfield 61, 3) := by decide +kernel
theorem dX1_takeAll_16 : decode cX1_takeAll 16 = .ok (.aload_n 0, 1) := by decide +kernel
theorem dX1_takeAll_17 : decode cX1_takeAll 17 = .ok (.aload_n 1, 1) := by decide +kernel
theorem dX1_takeAll_18 : decode cX1_takeAll 18 = .ok (.getfield 33, 3) := by decide +kernel
theorem dX1_takeAll_21 : decode cX1_takeAll 21 = .ok (.putfield 33, 3) := by decide +kernel
theorem dX1_takeAll_24 : decode cX1_takeAll 24 = .ok (.aload_n 0, 1) := by decide +kernel
theorem dX1_takeAll_25 : decode cX1_takeAll 25 = .ok (.aload_n 1, 1) := by decide +kernel
theorem dX1_takeAll_26 : decode cX1_takeAll 26 = .ok (.getfield 37, 3) := by decide +kernel
theorem dX1_takeAll_29 : decode cX1_takeAll 29 = .ok (.putfield 37, 3) := by decide +kernel
theorem dX1_takeAll_32 : decode cX1_takeAll 32 = .ok (.aload_n 0, 1) := by decide +kernel
theorem dX1_takeAll_33 : decode cX1_takeAll 33 = .ok (.aload_n 1, 1) := by decide +kernel
theorem dX1_takeAll_34 : decode cX1_takeAll 34 = .ok (.getfield 49, 3) := by decide +kernel
theorem dX1_takeAll_37 : decode cX1_takeAll 37 = .ok (.putfield 49, 3) := by decide +kernel
theorem dX1_takeAll_40 : decode cX1_takeAll 40 = .ok (.aload_n 0, 1) := by decide +kernel
theorem dX1_takeAll_41 : decode cX1_takeAll 41 = .ok (.aload_n 1, 1) := by decide +kernel
theorem dX1_takeAll_42 : decode cX1_takeAll 42 = .ok (.getfield 52, 3) := by decide +kernel
theorem dX1_takeAll_45 : decode cX1_takeAll 45 = .ok (.putfield 52, 3) := by decide +kernel
theorem dX1_takeAll_48 : decode cX1_takeAll 48 = .ok (.aload_n 0, 1) := by decide +kernel
theorem dX1_takeAll_49 : decode cX1_takeAll 49 = .ok (.aload_n 1, 1) := by decide +kernel
theorem dX1_takeAll_50 : decode cX1_takeAll 50 = .ok (.getfield 55, 3) := by decide +kernel
theorem dX1_takeAll_53 : decode cX1_takeAll 53 = .ok (.putfield 55, 3) := by decide +kernel
theorem dX1_takeAll_56 : decode cX1_takeAll 56 = .ok (.iconst 0, 1) := by decide +kernel
theorem dX1_takeAll_57 : decode cX1_takeAll 57 = .ok (.istore_n 2, 1) := by decide +kernel
theorem dX1_takeAll_58 : decode cX1_takeAll 58 = .ok (.iload_n 2, 1) := by decide +kernel
theorem dX1_takeAll_59 : decode cX1_takeAll 59 = .ok (.iconst 4, 1) := by decide +kernel
theorem dX1_takeAll_60 : decode cX1_takeAll 60 = .ok (.if_icmp .ge 57, 3) := by decide +kernel
theorem dX1_takeAll_63 : decode cX1_takeAll 63 = .ok (.aload_n 0, 1) := by decide +kernel
theorem dX1_takeAll_64 : decode cX1_takeAll 64 = .ok (.getfield 9, 3) := by decide +kernel
theorem dX1_takeAll_67 : decode cX1_takeAll 67 = .ok (.iload_n 2, 1) := by decide +kernel
theorem dX1_takeAll_68 : decode cX1_takeAll 68 = .ok (.aload_n 1, 1) := by decide +kernel
theorem dX1_takeAll_69 : decode cX1_takeAll 69 = .ok (.getfield 9, 3) := by decide +kernel
theorem dX1_takeAll_72 : decode cX1_takeAll 72 = .ok (.iload_n 2, 1) := by decide +kernel
theorem dX1_takeAll_73 : decode cX1_takeAll 73 = .ok (.iaload, 1) := by decide +kernel
theorem dX1_takeAll_74 : decode cX1_takeAll 74 = .ok (.iastore, 1) := by decide +kernel
theorem dX1_takeAll_75 : decode cX1_takeAll 75 = .ok (.aload_n 0, 1) := by decide +kernel
theorem dX1_takeAll_76 : decode cX1_takeAll 76 = .ok (.getfield 15, 3) := by decide +kernel
theorem dX1_takeAll_79 : decode cX1_takeAll 79 = .ok (.iload_n 2, 1) := by decide +kernel
theorem dX1_takeAll_80 : decode cX1_takeAll 80 = .ok (.aload_n 1, 1) := by decide +kernel
theorem dX1_takeAll_81 : decode cX1_takeAll 81 = .ok (.getfield 15, 3) := by decide +kernel
theorem dX1_takeAll_84 : decode cX1_takeAll 84 = .ok (.iload_n 2, 1) := by decide +kernel
theorem dX1_takeAll_85 : decode cX1_takeAll 85 = .ok (.iaload, 1) := by decide +kernel
theorem dX1_takeAll_86 : decode cX1_takeAll 86 = .ok (.iastore, 1) := by decide +kernel
theorem dX1_takeAll_87 : decode cX1_takeAll 87 = .ok (.aload_n 0, 1) := by decide +kernel
theorem dX1_takeAll_88 : decode cX1_takeAll 88 = .ok (.getfield 18, 3) := by decide +kernel
theorem dX1_takeAll_91 : decode cX1_takeAll 91 = .ok (.iload_n 2, 1) := by decide +kernel
theorem dX1_takeAll_92 : decode cX1_takeAll 92 = .ok (.aload_n 1, 1) := by decide +kernel
theorem dX1_takeAll_93 : decode cX1_takeAll 93 = .ok (.getfield 18, 3) := by decide +kernel
theorem dX1_takeAll_96 : decode cX1_takeAll 96 = .ok (.iload_n 2, 1) := by decide +kernel
theorem dX1_takeAll_97 : decode cX1_takeAll 97 = .ok (.iaload, 1) := by decide +kernel
theorem dX1_takeAll_98 : decode cX1_takeAll 98 = .ok (.iastore, 1) := by decide +kernel
theorem dX1_takeAll_99 : decode cX1_takeAll 99 = .ok (.aload_n 0, 1) := by decide +kernel
theorem dX1_takeAll_100 : decode cX1_takeAll 100 = .ok (.getfield 24, 3) := by decide +kernel
theorem dX1_takeAll_103 : decode cX1_takeAll 103 = .ok (.iload_n 2, 1) := by decide +kernel
theorem dX1_takeAll_104 : decode cX1_takeAll 104 = .ok (.aload_n 1, 1) := by decide +kernel
theorem dX1_takeAll_105 : decode cX1_takeAll 105 = .ok (.getfield 24, 3) := by decide +kernel
theorem dX1_takeAll_108 : decode cX1_takeAll 108 = .ok (.iload_n 2, 1) := by decide +kernel
theorem dX1_takeAll_109 : decode cX1_takeAll 109 = .ok (.iaload, 1) := by decide +kernel
theorem dX1_takeAll_110 : decode cX1_takeAll 110 = .ok (.iastore, 1) := by decide +kernel
theorem dX1_takeAll_111 : decode cX1_takeAll 111 = .ok (.iinc 2 1, 3) := by decide +kernel
theorem dX1_takeAll_114 : decode cX1_takeAll 114 = .ok (.goto (-56), 3) := by decide +kernel
theorem dX1_takeAll_117 : decode cX1_takeAll 117 = .ok (.iconst 0, 1) := by decide +kernel
theorem dX1_takeAll_118 : decode cX1_takeAll 118 = .ok (.istore_n 2, 1) := by decide +kernel
theorem dX1_takeAll_119 : decode cX1_takeAll 119 = .ok (.iload_n 2, 1) := by decide +kernel
theorem dX1_takeAll_120 : decode cX1_takeAll 120 = .ok (.bipush 7, 2) := by decide +kernel
theorem dX1_takeAll_122 : decode cX1_takeAll 122 = .ok (.if_icmp .ge 33, 3) := by decide +kernel
theorem dX1_takeAll_125 : decode cX1_takeAll 125 = .ok (.aload_n 0, 1) := by decide +kernel
theorem dX1_takeAll_126 : decode cX1_takeAll 126 = .ok (.getfield 27, 3) := by decide +kernel
theorem dX1_takeAll_129 : decode cX1_takeAll 129 = .ok (.iload_n 2, 1) := by decide +kernel
theorem dX1_takeAll_130 : decode cX1_takeAll 130 = .ok (.aload_n 1, 1) := by decide +kernel
theorem dX1_takeAll_131 : decode cX1_takeAll 131 = .ok (.getfield 27, 3) := by decide +kernel
theorem dX1_takeAll_134 : decode cX1_takeAll 134 = .ok (.iload_n 2, 1) := by decide +kernel
theorem dX1_takeAll_135 : decode cX1_takeAll 135 = .ok (.iaload, 1) := by decide +kernel
theorem dX1_takeAll_136 : decode cX1_takeAll 136 = .ok (.iastore, 1) := by decide +kernel
theorem dX1_takeAll_137 : decode cX1_takeAll 137 = .ok (.aload_n 0, 1) := by decide +kernel
theorem dX1_takeAll_138 : decode cX1_takeAll 138 = .ok (.getfield 30, 3) := by decide +kernel
theorem dX1_takeAll_141 : decode cX1_takeAll 141 = .ok (.iload_n 2, 1) := by decide +kernel
theorem dX1_takeAll_142 : decode cX1_takeAll 142 = .ok (.aload_n 1, 1) := by decide +kernel
theorem dX1_takeAll_143 : decode cX1_takeAll 143 = .ok (.getfield 30, 3) := by decide +kernel
theorem dX1_takeAll_146 : decode cX1_takeAll 146 = .ok (.iload_n 2, 1) := by decide +kernel
theorem dX1_takeAll_147 : decode cX1_takeAll 147 = .ok (.iaload, 1) := by decide +kernel
theorem dX1_takeAll_148 : decode cX1_takeAll 148 = .ok (.iastore, 1) := by decide +kernel
theorem dX1_takeAll_149 : decode cX1_takeAll 149 = .ok (.iinc 2 1, 3) := by decide +kernel
theorem dX1_takeAll_152 : decode cX1_takeAll 152 = .ok (.goto (-33), 3) := by decide +kernel
theorem dX1_takeAll_155 : decode cX1_takeAll 155 = .ok (.aload_n 0, 1) := by decide +kernel
theorem dX1_takeAll_156 : decode cX1_takeAll 156 = .ok (.aload_n 1, 1) := by decide +kernel
theorem dX1_takeAll_157 : decode cX1_takeAll 157 = .ok (.invokevirtual 64, 3) := by decide +kernel
theorem dX1_takeAll_160 : decode cX1_takeAll 160 = .ok (.return_, 1) := by decide +kernel
theorem dX1_takeCourse_0 : decode cX1_takeCourse 0 = .ok (.aload_n 0, 1) := by decide +kernel
theorem dX1_takeCourse_1 : decode cX1_takeCourse 1 = .ok (.aload_n 1, 1) := by decide +kernel
theorem dX1_takeCourse_2 : decode cX1_takeCourse 2 = .ok (.getfield 40, 3) := by decide +kernel
theorem dX1_takeCourse_5 : decode cX1_takeCourse 5 = .ok (.putfield 40, 3) := by decide +kernel
theorem dX1_takeCourse_8 : decode cX1_takeCourse 8 = .ok (.aload_n 0, 1) := by decide +kernel
theorem dX1_takeCourse_9 : decode cX1_takeCourse 9 = .ok (.aload_n 1, 1) := by decide +kernel
theorem dX1_takeCourse_10 : decode cX1_takeCourse 10 = .ok (.getfield 43, 3) := by decide +kernel
theorem dX1_takeCourse_13 : decode cX1_takeCourse 13 = .ok (.putfield 43, 3) := by decide +kernel
theorem dX1_takeCourse_16 : decode cX1_takeCourse 16 = .ok (.aload_n 0, 1) := by decide +kernel
theorem dX1_takeCourse_17 : decode cX1_takeCourse 17 = .ok (.aload_n 1, 1) := by decide +kernel
theorem dX1_takeCourse_18 : decode cX1_takeCourse 18 = .ok (.getfield 46, 3) := by decide +kernel
theorem dX1_takeCourse_21 : decode cX1_takeCourse 21 = .ok (.putfield 46, 3) := by decide +kernel
theorem dX1_takeCourse_24 : decode cX1_takeCourse 24 = .ok (.iconst 0, 1) := by decide +kernel
theorem dX1_takeCourse_25 : decode cX1_takeCourse 25 = .ok (.istore_n 2, 1) := by decide +kernel
theorem dX1_takeCourse_26 : decode cX1_takeCourse 26 = .ok (.iload_n 2, 1) := by decide +kernel
theorem dX1_takeCourse_27 : decode cX1_takeCourse 27 = .ok (.iconst 4, 1) := by decide +kernel
theorem dX1_takeCourse_28 : decode cX1_takeCourse 28 = .ok (.if_icmp .ge 21, 3) := by decide +kernel
theorem dX1_takeCourse_31 : decode cX1_takeCourse 31 = .ok (.aload_n 0, 1) := by decide +kernel
theorem dX1_takeCourse_32 : decode cX1_takeCourse 32 = .ok (.getfield 21, 3) := by decide +kernel
theorem dX1_takeCourse_35 : decode cX1_takeCourse 35 = .ok (.iload_n 2, 1) := by decide +kernel
theorem dX1_takeCourse_36 : decode cX1_takeCourse 36 = .ok (.aload_n 1, 1) := by decide +kernel
theorem dX1_takeCourse_37 : decode cX1_takeCourse 37 = .ok (.getfield 21, 3) := by decide +kernel
theorem dX1_takeCourse_40 : decode cX1_takeCourse 40 = .ok (.iload_n 2, 1) := by decide +kernel
theorem dX1_takeCourse_41 : decode cX1_takeCourse 41 = .ok (.iaload, 1) := by decide +kernel
theorem dX1_takeCourse_42 : decode cX1_takeCourse 42 = .ok (.iastore, 1) := by decide +kernel
theorem dX1_takeCourse_43 : decode cX1_takeCourse 43 = .ok (.iinc 2 1, 3) := by decide +kernel
theorem dX1_takeCourse_46 : decode cX1_takeCourse 46 = .ok (.goto (-20), 3) := by decide +kernel
theorem dX1_takeCourse_49 : decode cX1_takeCourse 49 = .ok (.return_, 1) := by decide +kernel
theorem dX1_isThere_0 : decode cX1_isThere 0 = .ok (.aload_n 0, 1) := by decide +kernel
theorem dX1_isThere_1 : decode cX1_isThere 1 = .ok (.getfield 33, 3) := by decide +kernel
theorem dX1_isThere_4 : decode cX1_isThere 4 = .ok (.ifCond .le 7, 3) := by decide +kernel
theorem dX1_isThere_7 : decode cX1_isThere 7 = .ok (.iconst 1, 1) := by decide +kernel
theorem dX1_isThere_8 : decode cX1_isThere 8 = .ok (.goto 4, 3) := by decide +kernel
theorem dX1_isThere_11 : decode cX1_isThere 11 = .ok (.iconst 0, 1) := by decide +kernel
theorem dX1_isThere_12 : decode cX1_isThere 12 = .ok (.ireturn, 1) := by decide +kernel
theorem dX1_hasTeller_0 : decode cX1_hasTeller 0 = .ok (.iload_n 1, 1) := by decide +kernel
theorem dX1_hasTeller_1 : decode cX1_hasTeller 1 = .ok (.ifCond .lt 20, 3) := by decide +kernel
theorem dX1_hasTeller_4 : decode cX1_hasTeller 4 = .ok (.iload_n 1, 1) := by decide +kernel
theorem dX1_hasTeller_5 : decode cX1_hasTeller 5 = .ok (.aload_n 0, 1) := by decide +kernel
theorem dX1_hasTeller_6 : decode cX1_hasTeller 6 = .ok (.getfield 33, 3) := by decide +kernel
theorem dX1_hasTeller_9 : decode cX1_hasTeller 9 = .ok (.if_icmp .ge 12, 3) := by decide +kernel
theorem dX1_hasTeller_12 : decode cX1_hasTeller 12 = .ok (.iload_n 1, 1) := by decide +kernel
theorem dX1_hasTeller_13 : decode cX1_hasTeller 13 = .ok (.iconst 4, 1) := by decide +kernel
theorem dX1_hasTeller_14 : decode cX1_hasTeller 14 = .ok (.if_icmp .ge 7, 3) := by decide +kernel
theorem dX1_hasTeller_17 : decode cX1_hasTeller 17 = .ok (.iconst 1, 1) := by decide +kernel
theorem dX1_hasTeller_18 : decode cX1_hasTeller 18 = .ok (.goto 4, 3) := by decide +kernel
theorem dX1_hasTeller_21 : decode cX1_hasTeller 21 = .ok (.iconst 0, 1) := by decide +kernel
theorem dX1_hasTeller_22 : decode cX1_hasTeller 22 = .ok (.ireturn, 1) := by decide +kernel
theorem dX1_isOpen_0 : decode cX1_isOpen 0 = .ok (.iload_n 1, 1) := by decide +kernel
theorem dX1_isOpen_1 : decode cX1_isOpen 1 = .ok (.ifCond .lt 24, 3) := by decide +kernel
theorem dX1_isOpen_4 : decode cX1_isOpen 4 = .ok (.iload_n 1, 1) := by decide +kernel
theorem dX1_isOpen_5 : decode cX1_isOpen 5 = .ok (.iconst 4, 1) := by decide +kernel
theorem dX1_isOpen_6 : decode cX1_isOpen 6 = .ok (.if_icmp .ge 19, 3) := by decide +kernel
theorem dX1_isOpen_9 : decode cX1_isOpen 9 = .ok (.aload_n 0, 1) := by decide +kernel
theorem dX1_isOpen_10 : decode cX1_isOpen 10 = .ok (.getfield 37, 3) := by decide +kernel
theorem dX1_isOpen_13 : decode cX1_isOpen 13 = .ok (.iload_n 1, 1) := by decide +kernel
theorem dX1_isOpen_14 : decode cX1_isOpen 14 = .ok (.ishr, 1) := by decide +kernel
theorem dX1_isOpen_15 : decode cX1_isOpen 15 = .ok (.iconst 1, 1) := by decide +kernel
theorem dX1_isOpen_16 : decode cX1_isOpen 16 = .ok (.iand, 1) := by decide +kernel
theorem dX1_isOpen_17 : decode cX1_isOpen 17 = .ok (.iconst 1, 1) := by decide +kernel
theorem dX1_isOpen_18 : decode cX1_isOpen 18 = .ok (.if_icmp .ne 7, 3) := by decide +kernel
theorem dX1_isOpen_21 : decode cX1_isOpen 21 = .ok (.iconst 1, 1) := by decide +kernel
theorem dX1_isOpen_22 : decode cX1_isOpen 22 = .ok (.goto 4, 3) := by decide +kernel
theorem dX1_isOpen_25 : decode cX1_isOpen 25 = .ok (.iconst 0, 1) := by decide +kernel
theorem dX1_isOpen_26 : decode cX1_isOpen 26 = .ok (.ireturn, 1) := by decide +kernel
theorem dX1_addTeller_0 : decode cX1_addTeller 0 = .ok (.aload_n 0, 1) := by decide +kernel
theorem dX1_addTeller_1 : decode cX1_addTeller 1 = .ok (.getfield 33, 3) := by decide +kernel
theorem dX1_addTeller_4 : decode cX1_addTeller 4 = .ok (.iconst 4, 1) := by decide +kernel
theorem dX1_addTeller_5 : decode cX1_addTeller 5 = .ok (.if_icmp .lt 4, 3) := by decide +kernel
theorem dX1_addTeller_8 : decode cX1_addTeller 8 = .ok (.return_, 1) := by decide +kernel
theorem dX1_addTeller_9 : decode cX1_addTeller 9 = .ok (.aload_n 0, 1) := by decide +kernel
theorem dX1_addTeller_10 : decode cX1_addTeller 10 = .ok (.getfield 9, 3) := by decide +kernel
theorem dX1_addTeller_13 : decode cX1_addTeller 13 = .ok (.aload_n 0, 1) := by decide +kernel
theorem dX1_addTeller_14 : decode cX1_addTeller 14 = .ok (.getfield 33, 3) := by decide +kernel
theorem dX1_addTeller_17 : decode cX1_addTeller 17 = .ok (.iload_n 1, 1) := by decide +kernel
theorem dX1_addTeller_18 : decode cX1_addTeller 18 = .ok (.iastore, 1) := by decide +kernel
theorem dX1_addTeller_19 : decode cX1_addTeller 19 = .ok (.aload_n 0, 1) := by decide +kernel
theorem dX1_addTeller_20 : decode cX1_addTeller 20 = .ok (.getfield 15, 3) := by decide +kernel
theorem dX1_addTeller_23 : decode cX1_addTeller 23 = .ok (.aload_n 0, 1) := by decide +kernel
theorem dX1_addTeller_24 : decode cX1_addTeller 24 = .ok (.getfield 33, 3) := by decide +kernel
theorem dX1_addTeller_27 : decode cX1_addTeller 27 = .ok (.iload_n 2, 1) := by decide +kernel
theorem dX1_addTeller_28 : decode cX1_addTeller 28 = .ok (.iastore, 1) := by decide +kernel
theorem dX1_addTeller_29 : decode cX1_addTeller 29 = .ok (.aload_n 0, 1) := by decide +kernel
theorem dX1_addTeller_30 : decode cX1_addTeller 30 = .ok (.getfield 18, 3) := by decide +kernel
theorem dX1_addTeller_33 : decode cX1_addTeller 33 = .ok (.aload_n 0, 1) := by decide +kernel
theorem dX1_addTeller_34 : decode cX1_addTeller 34 = .ok (.getfield 33, 3) := by decide +kernel
theorem dX1_addTeller_37 : decode cX1_addTeller 37 = .ok (.iload_n 3, 1) := by decide +kernel
theorem dX1_addTeller_38 : decode cX1_addTeller 38 = .ok (.iastore, 1) := by decide +kernel
theorem dX1_addTeller_39 : decode cX1_addTeller 39 = .ok (.aload_n 0, 1) := by decide +kernel
theorem dX1_addTeller_40 : decode cX1_addTeller 40 = .ok (.getfield 21, 3) := by decide +kernel
theorem dX1_addTeller_43 : decode cX1_addTeller 43 = .ok (.aload_n 0, 1) := by decide +kernel
theorem dX1_addTeller_44 : decode cX1_addTeller 44 = .ok (.getfield 33, 3) := by decide +kernel
theorem dX1_addTeller_47 : decode cX1_addTeller 47 = .ok (.iload_n 2, 1) := by decide +kernel
theorem dX1_addTeller_48 : decode cX1_addTeller 48 = .ok (.iastore, 1) := by decide +kernel
theorem dX1_addTeller_49 : decode cX1_addTeller 49 = .ok (.aload_n 0, 1) := by decide +kernel
theorem dX1_addTeller_50 : decode cX1_addTeller 50 = .ok (.getfield 24, 3) := by decide +kernel
theorem dX1_addTeller_53 : decode cX1_addTeller 53 = .ok (.aload_n 0, 1) := by decide +kernel
theorem dX1_addTeller_54 : decode cX1_addTeller 54 = .ok (.getfield 33, 3) := by decide +kernel
theorem dX1_addTeller_57 : decode cX1_addTeller 57 = .ok (.iconst 0, 1) := by decide +kernel
theorem dX1_addTeller_58 : decode cX1_addTeller 58 = .ok (.iastore, 1) := by decide +kernel
theorem dX1_addTeller_59 : decode cX1_addTeller 59 = .ok (.aload_n 0, 1) := by decide +kernel
theorem dX1_addTeller_60 : decode cX1_addTeller 60 = .ok (.dup, 1) := by decide +kernel
theorem dX1_addTeller_61 : decode cX1_addTeller 61 = .ok (.getfield 37, 3) := by decide +kernel
theorem dX1_addTeller_64 : decode cX1_addTeller 64 = .ok (.iconst 1, 1) := by decide +kernel
theorem dX1_addTeller_65 : decode cX1_addTeller 65 = .ok (.aload_n 0, 1) := by decide +kernel
theorem dX1_addTeller_66 : decode cX1_addTeller 66 = .ok (.getfield 33, 3) := by decide +kernel
theorem dX1_addTeller_69 : decode cX1_addTeller 69 = .ok (.ishl, 1) := by decide +kernel
theorem dX1_addTeller_70 : decode cX1_addTeller 70 = .ok (.ior, 1) := by decide +kernel
theorem dX1_addTeller_71 : decode cX1_addTeller 71 = .ok (.putfield 37, 3) := by decide +kernel
theorem dX1_addTeller_74 : decode cX1_addTeller 74 = .ok (.aload_n 0, 1) := by decide +kernel
theorem dX1_addTeller_75 : decode cX1_addTeller 75 = .ok (.dup, 1) := by decide +kernel
theorem dX1_addTeller_76 : decode cX1_addTeller 76 = .ok (.getfield 33, 3) := by decide +kernel
theorem dX1_addTeller_79 : decode cX1_addTeller 79 = .ok (.iconst 1, 1) := by decide +kernel
theorem dX1_addTeller_80 : decode cX1_addTeller 80 = .ok (.iadd, 1) := by decide +kernel
theorem dX1_addTeller_81 : decode cX1_addTeller 81 = .ok (.putfield 33, 3) := by decide +kernel
theorem dX1_addTeller_84 : decode cX1_addTeller 84 = .ok (.return_, 1) := by decide +kernel
theorem dX1_knowsPaper_0 : decode cX1_knowsPaper 0 = .ok (.iload_n 1, 1) := by decide +kernel
theorem dX1_knowsPaper_1 : decode cX1_knowsPaper 1 = .ok (.ifCond .lt 25, 3) := by decide +kernel
theorem dX1_knowsPaper_4 : decode cX1_knowsPaper 4 = .ok (.iload_n 1, 1) := by decide +kernel
theorem dX1_knowsPaper_5 : decode cX1_knowsPaper 5 = .ok (.bipush 7, 2) := by decide +kernel
theorem dX1_knowsPaper_7 : decode cX1_knowsPaper 7 = .ok (.if_icmp .ge 19, 3) := by decide +kernel
theorem dX1_knowsPaper_10 : decode cX1_knowsPaper 10 = .ok (.aload_n 0, 1) := by decide +kernel
theorem dX1_knowsPaper_11 : decode cX1_knowsPaper 11 = .ok (.getfield 55, 3) := by decide +kernel
theorem dX1_knowsPaper_14 : decode cX1_knowsPaper 14 = .ok (.iload_n 1, 1) := by decide +kernel
theorem dX1_knowsPaper_15 : decode cX1_knowsPaper 15 = .ok (.ishr, 1) := by decide +kernel
theorem dX1_knowsPaper_16 : decode cX1_knowsPaper 16 = .ok (.iconst 1, 1) := by decide +kernel
theorem dX1_knowsPaper_17 : decode cX1_knowsPaper 17 = .ok (.iand, 1) := by decide +kernel
theorem dX1_knowsPaper_18 : decode cX1_knowsPaper 18 = .ok (.iconst 1, 1) := by decide +kernel
theorem dX1_knowsPaper_19 : decode cX1_knowsPaper 19 = .ok (.if_icmp .ne 7, 3) := by decide +kernel
theorem dX1_knowsPaper_22 : decode cX1_knowsPaper 22 = .ok (.iconst 1, 1) := by decide +kernel
theorem dX1_knowsPaper_23 : decode cX1_knowsPaper 23 = .ok (.goto 4, 3) := by decide +kernel
theorem dX1_knowsPaper_26 : decode cX1_knowsPaper 26 = .ok (.iconst 0, 1) := by decide +kernel
theorem dX1_knowsPaper_27 : decode cX1_knowsPaper 27 = .ok (.ireturn, 1) := by decide +kernel
theorem dX1_sumOf_0 : decode cX1_sumOf 0 = .ok (.iload_n 1, 1) := by decide +kernel
theorem dX1_sumOf_1 : decode cX1_sumOf 1 = .ok (.ifCond .lt 18, 3) := by decide +kernel
theorem dX1_sumOf_4 : decode cX1_sumOf 4 = .ok (.iload_n 1, 1) := by decide +kernel
theorem dX1_sumOf_5 : decode cX1_sumOf 5 = .ok (.bipush 7, 2) := by decide +kernel
theorem dX1_sumOf_7 : decode cX1_sumOf 7 = .ok (.if_icmp .ge 12, 3) := by decide +kernel
theorem dX1_sumOf_10 : decode cX1_sumOf 10 = .ok (.aload_n 0, 1) := by decide +kernel
theorem dX1_sumOf_11 : decode cX1_sumOf 11 = .ok (.getfield 27, 3) := by decide +kernel
theorem dX1_sumOf_14 : decode cX1_sumOf 14 = .ok (.iload_n 1, 1) := by decide +kernel
theorem dX1_sumOf_15 : decode cX1_sumOf 15 = .ok (.iaload, 1) := by decide +kernel
theorem dX1_sumOf_16 : decode cX1_sumOf 16 = .ok (.goto 4, 3) := by decide +kernel
theorem dX1_sumOf_19 : decode cX1_sumOf 19 = .ok (.iconst 0, 1) := by decide +kernel
theorem dX1_sumOf_20 : decode cX1_sumOf 20 = .ok (.ireturn, 1) := by decide +kernel
theorem dX1_isDrawing_0 : decode cX1_isDrawing 0 = .ok (.iload_n 1, 1) := by decide +kernel
theorem dX1_isDrawing_1 : decode cX1_isDrawing 1 = .ok (.ifCond .lt 25, 3) := by decide +kernel
theorem dX1_isDrawing_4 : decode cX1_isDrawing 4 = .ok (.iload_n 1, 1) := by decide +kernel
theorem dX1_isDrawing_5 : decode cX1_isDrawing 5 = .ok (.bipush 7, 2) := by decide +kernel
theorem dX1_isDrawing_7 : decode cX1_isDrawing 7 = .ok (.if_icmp .ge 19, 3) := by decide +kernel
theorem dX1_isDrawing_10 : decode cX1_isDrawing 10 = .ok (.aload_n 0, 1) := by decide +kernel
theorem dX1_isDrawing_11 : decode cX1_isDrawing 11 = .ok (.getfield 52, 3) := by decide +kernel
theorem dX1_isDrawing_14 : decode cX1_isDrawing 14 = .ok (.iload_n 1, 1) := by decide +kernel
theorem dX1_isDrawing_15 : decode cX1_isDrawing 15 = .ok (.ishr, 1) := by decide +kernel
theorem dX1_isDrawing_16 : decode cX1_isDrawing 16 = .ok (.iconst 1, 1) := by decide +kernel
theorem dX1_isDrawing_17 : decode cX1_isDrawing 17 = .ok (.iand, 1) := by decide +kernel
theorem dX1_isDrawing_18 : decode cX1_isDrawing 18 = .ok (.iconst 1, 1) := by decide +kernel
theorem dX1_isDrawing_19 : decode cX1_isDrawing 19 = .ok (.if_icmp .ne 7, 3) := by decide +kernel
theorem dX1_isDrawing_22 : decode cX1_isDrawing 22 = .ok (.iconst 1, 1) := by decide +kernel
theorem dX1_isDrawing_23 : decode cX1_isDrawing 23 = .ok (.goto 4, 3) := by decide +kernel
theorem dX1_isDrawing_26 : decode cX1_isDrawing 26 = .ok (.iconst 0, 1) := by decide +kernel
theorem dX1_isDrawing_27 : decode cX1_isDrawing 27 = .ok (.ireturn, 1) := by decide +kernel
theorem dX1_paperAt_0 : decode cX1_paperAt 0 = .ok (.iload_n 1, 1) := by decide +kernel
theorem dX1_paperAt_1 : decode cX1_paperAt 1 = .ok (.ifCond .lt 26, 3) := by decide +kernel
theorem dX1_paperAt_4 : decode cX1_paperAt 4 = .ok (.iload_n 1, 1) := by decide +kernel
theorem dX1_paperAt_5 : decode cX1_paperAt 5 = .ok (.aload_n 0, 1) := by decide +kernel
theorem dX1_paperAt_6 : decode cX1_paperAt 6 = .ok (.getfield 49, 3) := by decide +kernel
theorem dX1_paperAt_9 : decode cX1_paperAt 9 = .ok (.if_icmp .ge 18, 3) := by decide +kernel
theorem dX1_paperAt_12 : decode cX1_paperAt 12 = .ok (.iload_n 1, 1) := by decide +kernel
theorem dX1_paperAt_13 : decode cX1_paperAt 13 = .ok (.bipush 7, 2) := by decide +kernel
theorem dX1_paperAt_15 : decode cX1_paperAt 15 = .ok (.if_icmp .ge 12, 3) := by decide +kernel
theorem dX1_paperAt_18 : decode cX1_paperAt 18 = .ok (.aload_n 0, 1) := by decide +kernel
theorem dX1_paperAt_19 : decode cX1_paperAt 19 = .ok (.getfield 30, 3) := by decide +kernel
theorem dX1_paperAt_22 : decode cX1_paperAt 22 = .ok (.iload_n 1, 1) := by decide +kernel
theorem dX1_paperAt_23 : decode cX1_paperAt 23 = .ok (.iaload, 1) := by decide +kernel
theorem dX1_paperAt_24 : decode cX1_paperAt 24 = .ok (.goto 5, 3) := by decide +kernel
theorem dX1_paperAt_27 : decode cX1_paperAt 27 = .ok (.ldc 68, 2) := by decide +kernel
theorem dX1_paperAt_29 : decode cX1_paperAt 29 = .ok (.ireturn, 1) := by decide +kernel
theorem dX1_placeOf_0 : decode cX1_placeOf 0 = .ok (.iconst 0, 1) := by decide +kernel
theorem dX1_placeOf_1 : decode cX1_placeOf 1 = .ok (.istore_n 2, 1) := by decide +kernel
theorem dX1_placeOf_2 : decode cX1_placeOf 2 = .ok (.iload_n 2, 1) := by decide +kernel
theorem dX1_placeOf_3 : decode cX1_placeOf 3 = .ok (.aload_n 0, 1) := by decide +kernel
theorem dX1_placeOf_4 : decode cX1_placeOf 4 = .ok (.getfield 49, 3) := by decide +kernel
theorem dX1_placeOf_7 : decode cX1_placeOf 7 = .ok (.if_icmp .ge 27, 3) := by decide +kernel
theorem dX1_placeOf_10 : decode cX1_placeOf 10 = .ok (.iload_n 2, 1) := by decide +kernel
theorem dX1_placeOf_11 : decode cX1_placeOf 11 = .ok (.bipush 7, 2) := by decide +kernel
theorem dX1_placeOf_13 : decode cX1_placeOf 13 = .ok (.if_icmp .ge 21, 3) := by decide +kernel
theorem dX1_placeOf_16 : decode cX1_placeOf 16 = .ok (.aload_n 0, 1) := by decide +kernel
theorem dX1_placeOf_17 : decode cX1_placeOf 17 = .ok (.getfield 30, 3) := by decide +kernel
theorem dX1_placeOf_20 : decode cX1_placeOf 20 = .ok (.iload_n 2, 1) := by decide +kernel
theorem dX1_placeOf_21 : decode cX1_placeOf 21 = .ok (.iaload, 1) := by decide +kernel
theorem dX1_placeOf_22 : decode cX1_placeOf 22 = .ok (.iload_n 1, 1) := by decide +kernel
theorem dX1_placeOf_23 : decode cX1_placeOf 23 = .ok (.if_icmp .ne 5, 3) := by decide +kernel
theorem dX1_placeOf_26 : decode cX1_placeOf 26 = .ok (.iload_n 2, 1) := by decide +kernel
theorem dX1_placeOf_27 : decode cX1_placeOf 27 = .ok (.ireturn, 1) := by decide +kernel
theorem dX1_placeOf_28 : decode cX1_placeOf 28 = .ok (.iinc 2 1, 3) := by decide +kernel
theorem dX1_placeOf_31 : decode cX1_placeOf 31 = .ok (.goto (-29), 3) := by decide +kernel
theorem dX1_placeOf_34 : decode cX1_placeOf 34 = .ok (.ldc 68, 2) := by decide +kernel
theorem dX1_placeOf_36 : decode cX1_placeOf 36 = .ok (.ireturn, 1) := by decide +kernel
theorem dX1_queuedBits_0 : decode cX1_queuedBits 0 = .ok (.iconst 0, 1) := by decide +kernel
theorem dX1_queuedBits_1 : decode cX1_queuedBits 1 = .ok (.istore_n 1, 1) := by decide +kernel
theorem dX1_queuedBits_2 : decode cX1_queuedBits 2 = .ok (.iconst 0, 1) := by decide +kernel
theorem dX1_queuedBits_3 : decode cX1_queuedBits 3 = .ok (.istore_n 2, 1) := by decide +kernel
theorem dX1_queuedBits_4 : decode cX1_queuedBits 4 = .ok (.iload_n 2, 1) := by decide +kernel
theorem dX1_queuedBits_5 : decode cX1_queuedBits 5 = .ok (.aload_n 0, 1) := by decide +kernel
theorem dX1_queuedBits_6 : decode cX1_queuedBits 6 = .ok (.getfield 49, 3) := by decide +kernel
theorem dX1_queuedBits_9 : decode cX1_queuedBits 9 = .ok (.if_icmp .ge 26, 3) := by decide +kernel
theorem dX1_queuedBits_12 : decode cX1_queuedBits 12 = .ok (.iload_n 2, 1) := by decide +kernel
theorem dX1_queuedBits_13 : decode cX1_queuedBits 13 = .ok (.bipush 7, 2) := by decide +kernel
theorem dX1_queuedBits_15 : decode cX1_queuedBits 15 = .ok (.if_icmp .ge 20, 3) := by decide +kernel
theorem dX1_queuedBits_18 : decode cX1_queuedBits 18 = .ok (.iload_n 1, 1) := by decide +kernel
theorem dX1_queuedBits_19 : decode cX1_queuedBits 19 = .ok (.iconst 1, 1) := by decide +kernel
theorem dX1_queuedBits_20 : decode cX1_queuedBits 20 = .ok (.aload_n 0, 1) := by decide +kernel
theorem dX1_queuedBits_21 : decode cX1_queuedBits 21 = .ok (.getfield 30, 3) := by decide +kernel
theorem dX1_queuedBits_24 : decode cX1_queuedBits 24 = .ok (.iload_n 2, 1) := by decide +kernel
theorem dX1_queuedBits_25 : decode cX1_queuedBits 25 = .ok (.iaload, 1) := by decide +kernel
theorem dX1_queuedBits_26 : decode cX1_queuedBits 26 = .ok (.ishl, 1) := by decide +kernel
theorem dX1_queuedBits_27 : decode cX1_queuedBits 27 = .ok (.ior, 1) := by decide +kernel
theorem dX1_queuedBits_28 : decode cX1_queuedBits 28 = .ok (.istore_n 1, 1) := by decide +kernel
theorem dX1_queuedBits_29 : decode cX1_queuedBits 29 = .ok (.iinc 2 1, 3) := by decide +kernel
theorem dX1_queuedBits_32 : decode cX1_queuedBits 32 = .ok (.goto (-28), 3) := by decide +kernel
theorem dX1_queuedBits_35 : decode cX1_queuedBits 35 = .ok (.iload_n 1, 1) := by decide +kernel
theorem dX1_queuedBits_36 : decode cX1_queuedBits 36 = .ok (.ireturn, 1) := by decide +kernel
theorem dX1_join_0 : decode cX1_join 0 = .ok (.aload_n 0, 1) := by decide +kernel
theorem dX1_join_1 : decode cX1_join 1 = .ok (.invokevirtual 69, 3) := by decide +kernel
theorem dX1_join_4 : decode cX1_join 4 = .ok (.istore_n 3, 1) := by decide +kernel
theorem dX1_join_5 : decode cX1_join 5 = .ok (.iconst 0, 1) := by decide +kernel
theorem dX1_join_6 : decode cX1_join 6 = .ok (.istore 4, 2) := by decide +kernel
theorem dX1_join_8 : decode cX1_join 8 = .ok (.iload 4, 2) := by decide +kernel
theorem dX1_join_10 : decode cX1_join 10 = .ok (.bipush 7, 2) := by decide +kernel
theorem dX1_join_12 : decode cX1_join 12 = .ok (.if_icmp .ge 103, 3) := by decide +kernel
theorem dX1_join_15 : decode cX1_join 15 = .ok (.aload_n 0, 1) := by decide +kernel
theorem dX1_join_16 : decode cX1_join 16 = .ok (.getfield 49, 3) := by decide +kernel
theorem dX1_join_19 : decode cX1_join 19 = .ok (.bipush 7, 2) := by decide +kernel
theorem dX1_join_21 : decode cX1_join 21 = .ok (.if_icmp .ge 94, 3) := by decide +kernel
theorem dX1_join_24 : decode cX1_join 24 = .ok (.iload_n 3, 1) := by decide +kernel
theorem dX1_join_25 : decode cX1_join 25 = .ok (.iload 4, 2) := by decide +kernel
theorem dX1_join_27 : decode cX1_join 27 = .ok (.ishr, 1) := by decide +kernel
theorem dX1_join_28 : decode cX1_join 28 = .ok (.iconst 1, 1) := by decide +kernel
theorem dX1_join_29 : decode cX1_join 29 = .ok (.iand, 1) := by decide +kernel
theorem dX1_join_30 : decode cX1_join 30 = .ok (.ifCond .ne 79, 3) := by decide +kernel
theorem dX1_join_33 : decode cX1_join 33 = .ok (.iconst 1, 1) := by decide +kernel
theorem dX1_join_34 : decode cX1_join 34 = .ok (.iload 4, 2) := by decide +kernel
theorem dX1_join_36 : decode cX1_join 36 = .ok (.ishl, 1) := by decide +kernel
theorem dX1_join_37 : decode cX1_join 37 = .ok (.istore 5, 2) := by decide +kernel
theorem dX1_join_39 : decode cX1_join 39 = .ok (.aload_n 0, 1) := by decide +kernel
theorem dX1_join_40 : decode cX1_join 40 = .ok (.dup, 1) := by decide +kernel
theorem dX1_join_41 : decode cX1_join 41 = .ok (.getfield 55, 3) := by decide +kernel
theorem dX1_join_44 : decode cX1_join 44 = .ok (.iload 5, 2) := by decide +kernel
theorem dX1_join_46 : decode cX1_join 46 = .ok (.ior, 1) := by decide +kernel
theorem dX1_join_47 : decode cX1_join 47 = .ok (.putfield 55, 3) := by decide +kernel
theorem dX1_join_50 : decode cX1_join 50 = .ok (.aload_n 0, 1) := by decide +kernel
theorem dX1_join_51 : decode cX1_join 51 = .ok (.iload_n 1, 1) := by decide +kernel
theorem dX1_join_52 : decode cX1_join 52 = .ok (.ifCond .eq 13, 3) := by decide +kernel
theorem dX1_join_55 : decode cX1_join 55 = .ok (.aload_n 0, 1) := by decide +kernel
theorem dX1_join_56 : decode cX1_join 56 = .ok (.getfield 52, 3) := by decide +kernel
theorem dX1_join_59 : decode cX1_join 59 = .ok (.iload 5, 2) := by decide +kernel
theorem dX1_join_61 : decode cX1_join 61 = .ok (.ior, 1) := by decide +kernel
theorem dX1_join_62 : decode cX1_join 62 = .ok (.goto 12, 3) := by decide +kernel
theorem dX1_join_65 : decode cX1_join 65 = .ok (.aload_n 0, 1) := by decide +kernel
theorem dX1_join_66 : decode cX1_join 66 = .ok (.getfield 52, 3) := by decide +kernel
theorem dX1_join_69 : decode cX1_join 69 = .ok (.iload 5, 2) := by decide +kernel
theorem dX1_join_71 : decode cX1_join 71 = .ok (.iconst (-1), 1) := by decide +kernel
theorem dX1_join_72 : decode cX1_join 72 = .ok (.ixor, 1) := by decide +kernel
theorem dX1_join_73 : decode cX1_join 73 = .ok (.iand, 1) := by decide +kernel
theorem dX1_join_74 : decode cX1_join 74 = .ok (.putfield 52, 3) := by decide +kernel
theorem dX1_join_77 : decode cX1_join 77 = .ok (.aload_n 0, 1) := by decide +kernel
theorem dX1_join_78 : decode cX1_join 78 = .ok (.getfield 27, 3) := by decide +kernel
theorem dX1_join_81 : decode cX1_join 81 = .ok (.iload 4, 2) := by decide +kernel
theorem dX1_join_83 : decode cX1_join 83 = .ok (.iload_n 2, 1) := by decide +kernel
theorem dX1_join_84 : decode cX1_join 84 = .ok (.iastore, 1) := by decide +kernel
theorem dX1_join_85 : decode cX1_join 85 = .ok (.aload_n 0, 1) := by decide +kernel
theorem dX1_join_86 : decode cX1_join 86 = .ok (.getfield 30, 3) := by decide +kernel
theorem dX1_join_89 : decode cX1_join 89 = .ok (.aload_n 0, 1) := by decide +kernel
theorem dX1_join_90 : decode cX1_join 90 = .ok (.getfield 49, 3) := by decide +kernel
theorem dX1_join_93 : decode cX1_join 93 = .ok (.iload 4, 2) := by decide +kernel
theorem dX1_join_95 : decode cX1_join 95 = .ok (.iastore, 1) := by decide +kernel
theorem dX1_join_96 : decode cX1_join 96 = .ok (.aload_n 0, 1) := by decide +kernel
theorem dX1_join_97 : decode cX1_join 97 = .ok (.dup, 1) := by decide +kernel
theorem dX1_join_98 : decode cX1_join 98 = .ok (.getfield 49, 3) := by decide +kernel
theorem dX1_join_101 : decode cX1_join 101 = .ok (.iconst 1, 1) := by decide +kernel
theorem dX1_join_102 : decode cX1_join 102 = .ok (.iadd, 1) := by decide +kernel
theorem dX1_join_103 : decode cX1_join 103 = .ok (.putfield 49, 3) := by decide +kernel
theorem dX1_join_106 : decode cX1_join 106 = .ok (.iload 4, 2) := by decide +kernel
theorem dX1_join_108 : decode cX1_join 108 = .ok (.ireturn, 1) := by decide +kernel
theorem dX1_join_109 : decode cX1_join 109 = .ok (.iinc 4 1, 3) := by decide +kernel
theorem dX1_join_112 : decode cX1_join 112 = .ok (.goto (-104), 3) := by decide +kernel
theorem dX1_join_115 : decode cX1_join 115 = .ok (.ldc 68, 2) := by decide +kernel
theorem dX1_join_117 : decode cX1_join 117 = .ok (.ireturn, 1) := by decide +kernel
theorem dX1_leave_0 : decode cX1_leave 0 = .ok (.aload_n 0, 1) := by decide +kernel
theorem dX1_leave_1 : decode cX1_leave 1 = .ok (.iload_n 1, 1) := by decide +kernel
theorem dX1_leave_2 : decode cX1_leave 2 = .ok (.invokevirtual 73, 3) := by decide +kernel
theorem dX1_leave_5 : decode cX1_leave 5 = .ok (.istore_n 2, 1) := by decide +kernel
theorem dX1_leave_6 : decode cX1_leave 6 = .ok (.iload_n 2, 1) := by decide +kernel
theorem dX1_leave_7 : decode cX1_leave 7 = .ok (.ldc 68, 2) := by decide +kernel
theorem dX1_leave_9 : decode cX1_leave 9 = .ok (.if_icmp .ne 6, 3) := by decide +kernel
theorem dX1_leave_12 : decode cX1_leave 12 = .ok (.ldc 68, 2) := by decide +kernel
theorem dX1_leave_14 : decode cX1_leave 14 = .ok (.ireturn, 1) := by decide +kernel
theorem dX1_leave_15 : decode cX1_leave 15 = .ok (.iload_n 1, 1) := by decide +kernel
theorem dX1_leave_16 : decode cX1_leave 16 = .ok (.iconst 1, 1) := by decide +kernel
theorem dX1_leave_17 : decode cX1_leave 17 = .ok (.iadd, 1) := by decide +kernel
theorem dX1_leave_18 : decode cX1_leave 18 = .ok (.istore_n 3, 1) := by decide +kernel
theorem dX1_leave_19 : decode cX1_leave 19 = .ok (.iload_n 3, 1) := by decide +kernel
theorem dX1_leave_20 : decode cX1_leave 20 = .ok (.aload_n 0, 1) := by decide +kernel
theorem dX1_leave_21 : decode cX1_leave 21 = .ok (.getfield 49, 3) := by decide +kernel
theorem dX1_leave_24 : decode cX1_leave 24 = .ok (.if_icmp .ge 29, 3) := by decide +kernel
theorem dX1_leave_27 : decode cX1_leave 27 = .ok (.iload_n 3, 1) := by decide +kernel
theorem dX1_leave_28 : decode cX1_leave 28 = .ok (.bipush 7, 2) := by decide +kernel
theorem dX1_leave_30 : decode cX1_leave 30 = .ok (.if_icmp .ge 23, 3) := by decide +kernel
theorem dX1_leave_33 : decode cX1_leave 33 = .ok (.aload_n 0, 1) := by decide +kernel
theorem dX1_leave_34 : decode cX1_leave 34 = .ok (.getfield 30, 3) := by decide +kernel
theorem dX1_leave_37 : decode cX1_leave 37 = .ok (.iload_n 3, 1) := by decide +kernel
theorem dX1_leave_38 : decode cX1_leave 38 = .ok (.iconst 1, 1) := by decide +kernel
theorem dX1_leave_39 : decode cX1_leave 39 = .ok (.isub, 1) := by decide +kernel
theorem dX1_leave_40 : decode cX1_leave 40 = .ok (.aload_n 0, 1) := by decide +kernel
theorem dX1_leave_41 : decode cX1_leave 41 = .ok (.getfield 30, 3) := by decide +kernel
theorem dX1_leave_44 : decode cX1_leave 44 = .ok (.iload_n 3, 1) := by decide +kernel
theorem dX1_leave_45 : decode cX1_leave 45 = .ok (.iaload, 1) := by decide +kernel
theorem dX1_leave_46 : decode cX1_leave 46 = .ok (.iastore, 1) := by decide +kernel
theorem dX1_leave_47 : decode cX1_leave 47 = .ok (.iinc 3 1, 3) := by decide +kernel
theorem dX1_leave_50 : decode cX1_leave 50 = .ok (.goto (-31), 3) := by decide +kernel
theorem dX1_leave_53 : decode cX1_leave 53 = .ok (.aload_n 0, 1) := by decide +kernel
theorem dX1_leave_54 : decode cX1_leave 54 = .ok (.dup, 1) := by decide +kernel
theorem dX1_leave_55 : decode cX1_leave 55 = .ok (.getfield 49, 3) := by decide +kernel
theorem dX1_leave_58 : decode cX1_leave 58 = .ok (.iconst 1, 1) := by decide +kernel
theorem dX1_leave_59 : decode cX1_leave 59 = .ok (.isub, 1) := by decide +kernel
theorem dX1_leave_60 : decode cX1_leave 60 = .ok (.putfield 49, 3) := by decide +kernel
theorem dX1_leave_63 : decode cX1_leave 63 = .ok (.iload_n 2, 1) := by decide +kernel
theorem dX1_leave_64 : decode cX1_leave 64 = .ok (.ireturn, 1) := by decide +kernel
theorem dX1_swapFirst_0 : decode cX1_swapFirst 0 = .ok (.aload_n 0, 1) := by decide +kernel
theorem dX1_swapFirst_1 : decode cX1_swapFirst 1 = .ok (.getfield 49, 3) := by decide +kernel
theorem dX1_swapFirst_4 : decode cX1_swapFirst 4 = .ok (.iconst 2, 1) := by decide +kernel
theorem dX1_swapFirst_5 : decode cX1_swapFirst 5 = .ok (.if_icmp .lt 29, 3) := by decide +kernel
theorem dX1_swapFirst_8 : decode cX1_swapFirst 8 = .ok (.aload_n 0, 1) := by decide +kernel
theorem dX1_swapFirst_9 : decode cX1_swapFirst 9 = .ok (.getfield 30, 3) := by decide +kernel
theorem dX1_swapFirst_12 : decode cX1_swapFirst 12 = .ok (.iconst 0, 1) := by decide +kernel
theorem dX1_swapFirst_13 : decode cX1_swapFirst 13 = .ok (.iaload, 1) := by decide +kernel
theorem dX1_swapFirst_14 : decode cX1_swapFirst 14 = .ok (.istore_n 1, 1) := by decide +kernel
theorem dX1_swapFirst_15 : decode cX1_swapFirst 15 = .ok (.aload_n 0, 1) := by decide +kernel
theorem dX1_swapFirst_16 : decode cX1_swapFirst 16 = .ok (.getfield 30, 3) := by decide +kernel
theorem dX1_swapFirst_19 : decode cX1_swapFirst 19 = .ok (.iconst 0, 1) := by decide +kernel
theorem dX1_swapFirst_20 : decode cX1_swapFirst 20 = .ok (.aload_n 0, 1) := by decide +kernel
theorem dX1_swapFirst_21 : decode cX1_swapFirst 21 = .ok (.getfield 30, 3) := by decide +kernel
theorem dX1_swapFirst_24 : decode cX1_swapFirst 24 = .ok (.iconst 1, 1) := by decide +kernel
theorem dX1_swapFirst_25 : decode cX1_swapFirst 25 = .ok (.iaload, 1) := by decide +kernel
theorem dX1_swapFirst_26 : decode cX1_swapFirst 26 = .ok (.iastore, 1) := by decide +kernel
theorem dX1_swapFirst_27 : decode cX1_swapFirst 27 = .ok (.aload_n 0, 1) := by decide +kernel
theorem dX1_swapFirst_28 : decode cX1_swapFirst 28 = .ok (.getfield 30, 3) := by decide +kernel
theorem dX1_swapFirst_31 : decode cX1_swapFirst 31 = .ok (.iconst 1, 1) := by decide +kernel
theorem dX1_swapFirst_32 : decode cX1_swapFirst 32 = .ok (.iload_n 1, 1) := by decide +kernel
theorem dX1_swapFirst_33 : decode cX1_swapFirst 33 = .ok (.iastore, 1) := by decide +kernel
theorem dX1_swapFirst_34 : decode cX1_swapFirst 34 = .ok (.return_, 1) := by decide +kernel
theorem dX1_costTo_0 : decode cX1_costTo 0 = .ok (.iload_n 1, 1) := by decide +kernel
theorem dX1_costTo_1 : decode cX1_costTo 1 = .ok (.ifCond .lt 8, 3) := by decide +kernel
theorem dX1_costTo_4 : decode cX1_costTo 4 = .ok (.iload_n 1, 1) := by decide +kernel
theorem dX1_costTo_5 : decode cX1_costTo 5 = .ok (.iconst 4, 1) := by decide +kernel
theorem dX1_costTo_6 : decode cX1_costTo 6 = .ok (.if_icmp .lt 5, 3) := by decide +kernel
theorem dX1_costTo_9 : decode cX1_costTo 9 = .ok (.iconst 0, 1) := by decide +kernel
theorem dX1_costTo_10 : decode cX1_costTo 10 = .ok (.ireturn, 1) := by decide +kernel
theorem dX1_costTo_11 : decode cX1_costTo 11 = .ok (.iload_n 2, 1) := by decide +kernel
theorem dX1_costTo_12 : decode cX1_costTo 12 = .ok (.aload_n 0, 1) := by decide +kernel
theorem dX1_costTo_13 : decode cX1_costTo 13 = .ok (.getfield 18, 3) := by decide +kernel
theorem dX1_costTo_16 : decode cX1_costTo 16 = .ok (.iload_n 1, 1) := by decide +kernel
theorem dX1_costTo_17 : decode cX1_costTo 17 = .ok (.iaload, 1) := by decide +kernel
theorem dX1_costTo_18 : decode cX1_costTo 18 = .ok (.isub, 1) := by decide +kernel
theorem dX1_costTo_19 : decode cX1_costTo 19 = .ok (.iconst 1, 1) := by decide +kernel
theorem dX1_costTo_20 : decode cX1_costTo 20 = .ok (.if_icmp .le 14, 3) := by decide +kernel
theorem dX1_costTo_23 : decode cX1_costTo 23 = .ok (.iload_n 2, 1) := by decide +kernel
theorem dX1_costTo_24 : decode cX1_costTo 24 = .ok (.aload_n 0, 1) := by decide +kernel
theorem dX1_costTo_25 : decode cX1_costTo 25 = .ok (.getfield 18, 3) := by decide +kernel
theorem dX1_costTo_28 : decode cX1_costTo 28 = .ok (.iload_n 1, 1) := by decide +kernel
theorem dX1_costTo_29 : decode cX1_costTo 29 = .ok (.iaload, 1) := by decide +kernel
theorem dX1_costTo_30 : decode cX1_costTo 30 = .ok (.isub, 1) := by decide +kernel
theorem dX1_costTo_31 : decode cX1_costTo 31 = .ok (.goto 4, 3) := by decide +kernel
theorem dX1_costTo_34 : decode cX1_costTo 34 = .ok (.iconst 1, 1) := by decide +kernel
theorem dX1_costTo_35 : decode cX1_costTo 35 = .ok (.istore_n 3, 1) := by decide +kernel
theorem dX1_costTo_36 : decode cX1_costTo 36 = .ok (.aload_n 0, 1) := by decide +kernel
theorem dX1_costTo_37 : decode cX1_costTo 37 = .ok (.getfield 9, 3) := by decide +kernel
theorem dX1_costTo_40 : decode cX1_costTo 40 = .ok (.iload_n 1, 1) := by decide +kernel
theorem dX1_costTo_41 : decode cX1_costTo 41 = .ok (.iaload, 1) := by decide +kernel
theorem dX1_costTo_42 : decode cX1_costTo 42 = .ok (.tableswitch 55 2 5 #[30, 36, 40, 42], 30) := by decide +kernel
theorem dX1_costTo_72 : decode cX1_costTo 72 = .ok (.iload_n 3, 1) := by decide +kernel
theorem dX1_costTo_73 : decode cX1_costTo 73 = .ok (.iconst 2, 1) := by decide +kernel
theorem dX1_costTo_74 : decode cX1_costTo 74 = .ok (.idiv, 1) := by decide +kernel
theorem dX1_costTo_75 : decode cX1_costTo 75 = .ok (.iconst 1, 1) := by decide +kernel
theorem dX1_costTo_76 : decode cX1_costTo 76 = .ok (.iadd, 1) := by decide +kernel
theorem dX1_costTo_77 : decode cX1_costTo 77 = .ok (.ireturn, 1) := by decide +kernel
theorem dX1_costTo_78 : decode cX1_costTo 78 = .ok (.iload_n 3, 1) := by decide +kernel
theorem dX1_costTo_79 : decode cX1_costTo 79 = .ok (.iconst 2, 1) := by decide +kernel
theorem dX1_costTo_80 : decode cX1_costTo 80 = .ok (.iadd, 1) := by decide +kernel
theorem dX1_costTo_81 : decode cX1_costTo 81 = .ok (.ireturn, 1) := by decide +kernel
theorem dX1_costTo_82 : decode cX1_costTo 82 = .ok (.iload_n 2, 1) := by decide +kernel
theorem dX1_costTo_83 : decode cX1_costTo 83 = .ok (.ireturn, 1) := by decide +kernel
theorem dX1_costTo_84 : decode cX1_costTo 84 = .ok (.iload_n 2, 1) := by decide +kernel
theorem dX1_costTo_85 : decode cX1_costTo 85 = .ok (.bipush 9, 2) := by decide +kernel
theorem dX1_costTo_87 : decode cX1_costTo 87 = .ok (.if_icmp .le 8, 3) := by decide +kernel
theorem dX1_costTo_90 : decode cX1_costTo 90 = .ok (.bipush 9, 2) := by decide +kernel
theorem dX1_costTo_92 : decode cX1_costTo 92 = .ok (.goto 4, 3) := by decide +kernel
theorem dX1_costTo_95 : decode cX1_costTo 95 = .ok (.iload_n 2, 1) := by decide +kernel
theorem dX1_costTo_96 : decode cX1_costTo 96 = .ok (.ireturn, 1) := by decide +kernel
theorem dX1_costTo_97 : decode cX1_costTo 97 = .ok (.iload_n 3, 1) := by decide +kernel
theorem dX1_costTo_98 : decode cX1_costTo 98 = .ok (.ireturn, 1) := by decide +kernel
theorem dX1_canPay_0 : decode cX1_canPay 0 = .ok (.aload_n 0, 1) := by decide +kernel
theorem dX1_canPay_1 : decode cX1_canPay 1 = .ok (.iload_n 1, 1) := by decide +kernel
theorem dX1_canPay_2 : decode cX1_canPay 2 = .ok (.invokevirtual 77, 3) := by decide +kernel
theorem dX1_canPay_5 : decode cX1_canPay 5 = .ok (.ifCond .eq 27, 3) := by decide +kernel
theorem dX1_canPay_8 : decode cX1_canPay 8 = .ok (.aload_n 0, 1) := by decide +kernel
theorem dX1_canPay_9 : decode cX1_canPay 9 = .ok (.getfield 21, 3) := by decide +kernel
theorem dX1_canPay_12 : decode cX1_canPay 12 = .ok (.iload_n 1, 1) := by decide +kernel
theorem dX1_canPay_13 : decode cX1_canPay 13 = .ok (.iaload, 1) := by decide +kernel
theorem dX1_canPay_14 : decode cX1_canPay 14 = .ok (.aload_n 0, 1) := by decide +kernel
theorem dX1_canPay_15 : decode cX1_canPay 15 = .ok (.iload_n 1, 1) := by decide +kernel
theorem dX1_canPay_16 : decode cX1_canPay 16 = .ok (.iload_n 2, 1) := by decide +kernel
theorem dX1_canPay_17 : decode cX1_canPay 17 = .ok (.invokevirtual 81, 3) := by decide +kernel
theorem dX1_canPay_20 : decode cX1_canPay 20 = .ok (.isub, 1) := by decide +kernel
theorem dX1_canPay_21 : decode cX1_canPay 21 = .ok (.aload_n 0, 1) := by decide +kernel
theorem dX1_canPay_22 : decode cX1_canPay 22 = .ok (.getfield 58, 3) := by decide +kernel
theorem dX1_canPay_25 : decode cX1_canPay 25 = .ok (.if_icmp .lt 7, 3) := by decide +kernel
theorem dX1_canPay_28 : decode cX1_canPay 28 = .ok (.iconst 1, 1) := by decide +kernel
theorem dX1_canPay_29 : decode cX1_canPay 29 = .ok (.goto 4, 3) := by decide +kernel
theorem dX1_canPay_32 : decode cX1_canPay 32 = .ok (.iconst 0, 1) := by decide +kernel
theorem dX1_canPay_33 : decode cX1_canPay 33 = .ok (.ireturn, 1) := by decide +kernel
theorem dX1_drawerOf_0 : decode cX1_drawerOf 0 = .ok (.ldc 68, 2) := by decide +kernel
theorem dX1_drawerOf_2 : decode cX1_drawerOf 2 = .ok (.istore_n 2, 1) := by decide +kernel
theorem dX1_drawerOf_3 : decode cX1_drawerOf 3 = .ok (.iconst 0, 1) := by decide +kernel
theorem dX1_drawerOf_4 : decode cX1_drawerOf 4 = .ok (.istore_n 3, 1) := by decide +kernel
theorem dX1_drawerOf_5 : decode cX1_drawerOf 5 = .ok (.iload_n 3, 1) := by decide +kernel
theorem dX1_drawerOf_6 : decode cX1_drawerOf 6 = .ok (.aload_n 0, 1) := by decide +kernel
theorem dX1_drawerOf_7 : decode cX1_drawerOf 7 = .ok (.getfield 33, 3) := by decide +kernel
theorem dX1_drawerOf_10 : decode cX1_drawerOf 10 = .ok (.if_icmp .ge 77, 3) := by decide +kernel
theorem dX1_drawerOf_13 : decode cX1_drawerOf 13 = .ok (.iload_n 3, 1) := by decide +kernel
theorem dX1_drawerOf_14 : decode cX1_drawerOf 14 = .ok (.iconst 4, 1) := by decide +kernel
theorem dX1_drawerOf_15 : decode cX1_drawerOf 15 = .ok (.if_icmp .ge 72, 3) := by decide +kernel
theorem dX1_drawerOf_18 : decode cX1_drawerOf 18 = .ok (.iload_n 2, 1) := by decide +kernel
theorem dX1_drawerOf_19 : decode cX1_drawerOf 19 = .ok (.ldc 68, 2) := by decide +kernel
theorem dX1_drawerOf_21 : decode cX1_drawerOf 21 = .ok (.if_icmp .eq 18, 3) := by decide +kernel
theorem dX1_drawerOf_24 : decode cX1_drawerOf 24 = .ok (.aload_n 0, 1) := by decide +kernel
theorem dX1_drawerOf_25 : decode cX1_drawerOf 25 = .ok (.getfield 21, 3) := by decide +kernel
theorem dX1_drawerOf_28 : decode cX1_drawerOf 28 = .ok (.iload_n 3, 1) := by decide +kernel
theorem dX1_drawerOf_29 : decode cX1_drawerOf 29 = .ok (.iaload, 1) := by decide +kernel
theorem dX1_drawerOf_30 : decode cX1_drawerOf 30 = .ok (.aload_n 0, 1) := by decide +kernel
theorem dX1_drawerOf_31 : decode cX1_drawerOf 31 = .ok (.getfield 21, 3) := by decide +kernel
theorem dX1_drawerOf_34 : decode cX1_drawerOf 34 = .ok (.iload_n 2, 1) := by decide +kernel
theorem dX1_drawerOf_35 : decode cX1_drawerOf 35 = .ok (.iaload, 1) := by decide +kernel
theorem dX1_drawerOf_36 : decode cX1_drawerOf 36 = .ok (.if_icmp .le 7, 3) := by decide +kernel
theorem dX1_drawerOf_39 : decode cX1_drawerOf 39 = .ok (.iconst 1, 1) := by decide +kernel
theorem dX1_drawerOf_40 : decode cX1_drawerOf 40 = .ok (.goto 4, 3) := by decide +kernel
theorem dX1_drawerOf_43 : decode cX1_drawerOf 43 = .ok (.iconst 0, 1) := by decide +kernel
theorem dX1_drawerOf_44 : decode cX1_drawerOf 44 = .ok (.istore 4, 2) := by decide +kernel
theorem dX1_drawerOf_46 : decode cX1_drawerOf 46 = .ok (.iload 4, 2) := by decide +kernel
theorem dX1_drawerOf_48 : decode cX1_drawerOf 48 = .ok (.ifCond .eq 33, 3) := by decide +kernel
theorem dX1_drawerOf_51 : decode cX1_drawerOf 51 = .ok (.aload_n 0, 1) := by decide +kernel
theorem dX1_drawerOf_52 : decode cX1_drawerOf 52 = .ok (.iload_n 3, 1) := by decide +kernel
theorem dX1_drawerOf_53 : decode cX1_drawerOf 53 = .ok (.invokevirtual 85, 3) := by decide +kernel
theorem dX1_drawerOf_56 : decode cX1_drawerOf 56 = .ok (.ifCond .eq 25, 3) := by decide +kernel
theorem dX1_drawerOf_59 : decode cX1_drawerOf 59 = .ok (.aload_n 0, 1) := by decide +kernel
theorem dX1_drawerOf_60 : decode cX1_drawerOf 60 = .ok (.getfield 21, 3) := by decide +kernel
theorem dX1_drawerOf_63 : decode cX1_drawerOf 63 = .ok (.iload_n 3, 1) := by decide +kernel
theorem dX1_drawerOf_64 : decode cX1_drawerOf 64 = .ok (.iaload, 1) := by decide +kernel
theorem dX1_drawerOf_65 : decode cX1_drawerOf 65 = .ok (.aload_n 0, 1) := by decide +kernel
theorem dX1_drawerOf_66 : decode cX1_drawerOf 66 = .ok (.iload_n 3, 1) := by decide +kernel
theorem dX1_drawerOf_67 : decode cX1_drawerOf 67 = .ok (.iload_n 1, 1) := by decide +kernel
theorem dX1_drawerOf_68 : decode cX1_drawerOf 68 = .ok (.invokevirtual 81, 3) := by decide +kernel
theorem dX1_drawerOf_71 : decode cX1_drawerOf 71 = .ok (.isub, 1) := by decide +kernel
theorem dX1_drawerOf_72 : decode cX1_drawerOf 72 = .ok (.aload_n 0, 1) := by decide +kernel
theorem dX1_drawerOf_73 : decode cX1_drawerOf 73 = .ok (.getfield 58, 3) := by decide +kernel
theorem dX1_drawerOf_76 : decode cX1_drawerOf 76 = .ok (.if_icmp .lt 5, 3) := by decide +kernel
theorem dX1_drawerOf_79 : decode cX1_drawerOf 79 = .ok (.iload_n 3, 1) := by decide +kernel
theorem dX1_drawerOf_80 : decode cX1_drawerOf 80 = .ok (.istore_n 2, 1) := by decide +kernel
theorem dX1_drawerOf_81 : decode cX1_drawerOf 81 = .ok (.iinc 3 1, 3) := by decide +kernel
theorem dX1_drawerOf_84 : decode cX1_drawerOf 84 = .ok (.goto (-79), 3) := by decide +kernel
theorem dX1_drawerOf_87 : decode cX1_drawerOf 87 = .ok (.iload_n 2, 1) := by decide +kernel
theorem dX1_drawerOf_88 : decode cX1_drawerOf 88 = .ok (.ireturn, 1) := by decide +kernel
theorem dX1_poorestOpen_0 : decode cX1_poorestOpen 0 = .ok (.ldc 68, 2) := by decide +kernel
theorem dX1_poorestOpen_2 : decode cX1_poorestOpen 2 = .ok (.istore_n 1, 1) := by decide +kernel
theorem dX1_poorestOpen_3 : decode cX1_poorestOpen 3 = .ok (.iconst 0, 1) := by decide +kernel
theorem dX1_poorestOpen_4 : decode cX1_poorestOpen 4 = .ok (.istore_n 2, 1) := by decide +kernel
theorem dX1_poorestOpen_5 : decode cX1_poorestOpen 5 = .ok (.iload_n 2, 1) := by decide +kernel
theorem dX1_poorestOpen_6 : decode cX1_poorestOpen 6 = .ok (.aload_n 0, 1) := by decide +kernel
theorem dX1_poorestOpen_7 : decode cX1_poorestOpen 7 = .ok (.getfield 33, 3) := by decide +kernel
theorem dX1_poorestOpen_10 : decode cX1_poorestOpen 10 = .ok (.if_icmp .ge 45, 3) := by decide +kernel
theorem dX1_poorestOpen_13 : decode cX1_poorestOpen 13 = .ok (.iload_n 2, 1) := by decide +kernel
theorem dX1_poorestOpen_14 : decode cX1_poorestOpen 14 = .ok (.iconst 4, 1) := by decide +kernel
theorem dX1_poorestOpen_15 : decode cX1_poorestOpen 15 = .ok (.if_icmp .ge 40, 3) := by decide +kernel
theorem dX1_poorestOpen_18 : decode cX1_poorestOpen 18 = .ok (.aload_n 0, 1) := by decide +kernel
theorem dX1_poorestOpen_19 : decode cX1_poorestOpen 19 = .ok (.iload_n 2, 1) := by decide +kernel
theorem dX1_poorestOpen_20 : decode cX1_poorestOpen 20 = .ok (.invokevirtual 85, 3) := by decide +kernel
theorem dX1_poorestOpen_23 : decode cX1_poorestOpen 23 = .ok (.ifCond .eq 26, 3) := by decide +kernel
theorem dX1_poorestOpen_26 : decode cX1_poorestOpen 26 = .ok (.iload_n 1, 1) := by decide +kernel
theorem dX1_poorestOpen_27 : decode cX1_poorestOpen 27 = .ok (.ldc 68, 2) := by decide +kernel
theorem dX1_poorestOpen_29 : decode cX1_poorestOpen 29 = .ok (.if_icmp .eq 18, 3) := by decide +kernel
theorem dX1_poorestOpen_32 : decode cX1_poorestOpen 32 = .ok (.aload_n 0, 1) := by decide +kernel
theorem dX1_poorestOpen_33 : decode cX1_poorestOpen 33 = .ok (.getfield 21, 3) := by decide +kernel
theorem dX1_poorestOpen_36 : decode cX1_poorestOpen 36 = .ok (.iload_n 2, 1) := by decide +kernel
theorem dX1_poorestOpen_37 : decode cX1_poorestOpen 37 = .ok (.iaload, 1) := by decide +kernel
theorem dX1_poorestOpen_38 : decode cX1_poorestOpen 38 = .ok (.aload_n 0, 1) := by decide +kernel
theorem dX1_poorestOpen_39 : decode cX1_poorestOpen 39 = .ok (.getfield 21, 3) := by decide +kernel
theorem dX1_poorestOpen_42 : decode cX1_poorestOpen 42 = .ok (.iload_n 1, 1) := by decide +kernel
theorem dX1_poorestOpen_43 : decode cX1_poorestOpen 43 = .ok (.iaload, 1) := by decide +kernel
theorem dX1_poorestOpen_44 : decode cX1_poorestOpen 44 = .ok (.if_icmp .ge 5, 3) := by decide +kernel
theorem dX1_poorestOpen_47 : decode cX1_poorestOpen 47 = .ok (.iload_n 2, 1) := by decide +kernel
theorem dX1_poorestOpen_48 : decode cX1_poorestOpen 48 = .ok (.istore_n 1, 1) := by decide +kernel
theorem dX1_poorestOpen_49 : decode cX1_poorestOpen 49 = .ok (.iinc 2 1, 3) := by decide +kernel
theorem dX1_poorestOpen_52 : decode cX1_poorestOpen 52 = .ok (.goto (-47), 3) := by decide +kernel
theorem dX1_poorestOpen_55 : decode cX1_poorestOpen 55 = .ok (.iload_n 1, 1) := by decide +kernel
theorem dX1_poorestOpen_56 : decode cX1_poorestOpen 56 = .ok (.ireturn, 1) := by decide +kernel
theorem dX1_attend_0 : decode cX1_attend 0 = .ok (.aload_n 0, 1) := by decide +kernel
theorem dX1_attend_1 : decode cX1_attend 1 = .ok (.iload_n 1, 1) := by decide +kernel
theorem dX1_attend_2 : decode cX1_attend 2 = .ok (.invokevirtual 88, 3) := by decide +kernel
theorem dX1_attend_5 : decode cX1_attend 5 = .ok (.ifCond .eq 15, 3) := by decide +kernel
theorem dX1_attend_8 : decode cX1_attend 8 = .ok (.aload_n 0, 1) := by decide +kernel
theorem dX1_attend_9 : decode cX1_attend 9 = .ok (.aload_n 0, 1) := by decide +kernel
theorem dX1_attend_10 : decode cX1_attend 10 = .ok (.iload_n 1, 1) := by decide +kernel
theorem dX1_attend_11 : decode cX1_attend 11 = .ok (.invokevirtual 91, 3) := by decide +kernel
theorem dX1_attend_14 : decode cX1_attend 14 = .ok (.invokevirtual 94, 3) := by decide +kernel
theorem dX1_attend_17 : decode cX1_attend 17 = .ok (.goto 7, 3) := by decide +kernel
theorem dX1_attend_20 : decode cX1_attend 20 = .ok (.aload_n 0, 1) := by decide +kernel
theorem dX1_attend_21 : decode cX1_attend 21 = .ok (.invokevirtual 97, 3) := by decide +kernel
theorem dX1_attend_24 : decode cX1_attend 24 = .ok (.istore_n 2, 1) := by decide +kernel
theorem dX1_attend_25 : decode cX1_attend 25 = .ok (.iload_n 2, 1) := by decide +kernel
theorem dX1_attend_26 : decode cX1_attend 26 = .ok (.ldc 68, 2) := by decide +kernel
theorem dX1_attend_28 : decode cX1_attend 28 = .ok (.if_icmp .ne 16, 3) := by decide +kernel
theorem dX1_attend_31 : decode cX1_attend 31 = .ok (.aload_n 0, 1) := by decide +kernel
theorem dX1_attend_32 : decode cX1_attend 32 = .ok (.dup, 1) := by decide +kernel
theorem dX1_attend_33 : decode cX1_attend 33 = .ok (.getfield 46, 3) := by decide +kernel
theorem dX1_attend_36 : decode cX1_attend 36 = .ok (.iconst 1, 1) := by decide +kernel
theorem dX1_attend_37 : decode cX1_attend 37 = .ok (.iadd, 1) := by decide +kernel
theorem dX1_attend_38 : decode cX1_attend 38 = .ok (.putfield 46, 3) := by decide +kernel
theorem dX1_attend_41 : decode cX1_attend 41 = .ok (.goto 9, 3) := by decide +kernel
theorem dX1_attend_44 : decode cX1_attend 44 = .ok (.aload_n 0, 1) := by decide +kernel
theorem dX1_attend_45 : decode cX1_attend 45 = .ok (.iload_n 2, 1) := by decide +kernel
theorem dX1_attend_46 : decode cX1_attend 46 = .ok (.iload_n 1, 1) := by decide +kernel
theorem dX1_attend_47 : decode cX1_attend 47 = .ok (.invokevirtual 100, 3) := by decide +kernel
theorem dX1_attend_50 : decode cX1_attend 50 = .ok (.iload_n 2, 1) := by decide +kernel
theorem dX1_attend_51 : decode cX1_attend 51 = .ok (.ireturn, 1) := by decide +kernel
theorem dX1_handOver_0 : decode cX1_handOver 0 = .ok (.aload_n 0, 1) := by decide +kernel
theorem dX1_handOver_1 : decode cX1_handOver 1 = .ok (.iload_n 1, 1) := by decide +kernel
theorem dX1_handOver_2 : decode cX1_handOver 2 = .ok (.invokevirtual 77, 3) := by decide +kernel
theorem dX1_handOver_5 : decode cX1_handOver 5 = .ok (.ifCond .ne 4, 3) := by decide +kernel
theorem dX1_handOver_8 : decode cX1_handOver 8 = .ok (.return_, 1) := by decide +kernel
theorem dX1_handOver_9 : decode cX1_handOver 9 = .ok (.aload_n 0, 1) := by decide +kernel
theorem dX1_handOver_10 : decode cX1_handOver 10 = .ok (.iload_n 2, 1) := by decide +kernel
theorem dX1_handOver_11 : decode cX1_handOver 11 = .ok (.invokevirtual 88, 3) := by decide +kernel
theorem dX1_handOver_14 : decode cX1_handOver 14 = .ok (.ifCond .eq 25, 3) := by decide +kernel
theorem dX1_handOver_17 : decode cX1_handOver 17 = .ok (.aload_n 0, 1) := by decide +kernel
theorem dX1_handOver_18 : decode cX1_handOver 18 = .ok (.getfield 21, 3) := by decide +kernel
theorem dX1_handOver_21 : decode cX1_handOver 21 = .ok (.iload_n 1, 1) := by decide +kernel
theorem dX1_handOver_22 : decode cX1_handOver 22 = .ok (.dup2, 1) := by decide +kernel
theorem dX1_handOver_23 : decode cX1_handOver 23 = .ok (.iaload, 1) := by decide +kernel
theorem dX1_handOver_24 : decode cX1_handOver 24 = .ok (.aload_n 0, 1) := by decide +kernel
theorem dX1_handOver_25 : decode cX1_handOver 25 = .ok (.iload_n 1, 1) := by decide +kernel
theorem dX1_handOver_26 : decode cX1_handOver 26 = .ok (.aload_n 0, 1) := by decide +kernel
theorem dX1_handOver_27 : decode cX1_handOver 27 = .ok (.iload_n 2, 1) := by decide +kernel
theorem dX1_handOver_28 : decode cX1_handOver 28 = .ok (.invokevirtual 91, 3) := by decide +kernel
theorem dX1_handOver_31 : decode cX1_handOver 31 = .ok (.invokevirtual 81, 3) := by decide +kernel
theorem dX1_handOver_34 : decode cX1_handOver 34 = .ok (.isub, 1) := by decide +kernel
theorem dX1_handOver_35 : decode cX1_handOver 35 = .ok (.iastore, 1) := by decide +kernel
theorem dX1_handOver_36 : decode cX1_handOver 36 = .ok (.goto 26, 3) := by decide +kernel
theorem dX1_handOver_39 : decode cX1_handOver 39 = .ok (.aload_n 0, 1) := by decide +kernel
theorem dX1_handOver_40 : decode cX1_handOver 40 = .ok (.getfield 21, 3) := by decide +kernel
theorem dX1_handOver_43 : decode cX1_handOver 43 = .ok (.iload_n 1, 1) := by decide +kernel
theorem dX1_handOver_44 : decode cX1_handOver 44 = .ok (.aload_n 0, 1) := by decide +kernel
theorem dX1_handOver_45 : decode cX1_handOver 45 = .ok (.getfield 21, 3) := by decide +kernel
theorem dX1_handOver_48 : decode cX1_handOver 48 = .ok (.iload_n 1, 1) := by decide +kernel
theorem dX1_handOver_49 : decode cX1_handOver 49 = .ok (.iaload, 1) := by decide +kernel
theorem dX1_handOver_50 : decode cX1_handOver 50 = .ok (.aload_n 0, 1) := by decide +kernel
theorem dX1_handOver_51 : decode cX1_handOver 51 = .ok (.iload_n 2, 1) := by decide +kernel
theorem dX1_handOver_52 : decode cX1_handOver 52 = .ok (.invokevirtual 91, 3) := by decide +kernel
theorem dX1_handOver_55 : decode cX1_handOver 55 = .ok (.iadd, 1) := by decide +kernel
theorem dX1_handOver_56 : decode cX1_handOver 56 = .ok (.bipush 99, 2) := by decide +kernel
theorem dX1_handOver_58 : decode cX1_handOver 58 = .ok (.invokestatic 104, 3) := by decide +kernel
theorem dX1_handOver_61 : decode cX1_handOver 61 = .ok (.iastore, 1) := by decide +kernel
theorem dX1_handOver_62 : decode cX1_handOver 62 = .ok (.aload_n 0, 1) := by decide +kernel
theorem dX1_handOver_63 : decode cX1_handOver 63 = .ok (.getfield 24, 3) := by decide +kernel
theorem dX1_handOver_66 : decode cX1_handOver 66 = .ok (.iload_n 1, 1) := by decide +kernel
theorem dX1_handOver_67 : decode cX1_handOver 67 = .ok (.dup2, 1) := by decide +kernel
theorem dX1_handOver_68 : decode cX1_handOver 68 = .ok (.iaload, 1) := by decide +kernel
theorem dX1_handOver_69 : decode cX1_handOver 69 = .ok (.iconst 1, 1) := by decide +kernel
theorem dX1_handOver_70 : decode cX1_handOver 70 = .ok (.iadd, 1) := by decide +kernel
theorem dX1_handOver_71 : decode cX1_handOver 71 = .ok (.iastore, 1) := by decide +kernel
theorem dX1_handOver_72 : decode cX1_handOver 72 = .ok (.aload_n 0, 1) := by decide +kernel
theorem dX1_handOver_73 : decode cX1_handOver 73 = .ok (.dup, 1) := by decide +kernel
theorem dX1_handOver_74 : decode cX1_handOver 74 = .ok (.getfield 43, 3) := by decide +kernel
theorem dX1_handOver_77 : decode cX1_handOver 77 = .ok (.iconst 1, 1) := by decide +kernel
theorem dX1_handOver_78 : decode cX1_handOver 78 = .ok (.iadd, 1) := by decide +kernel
theorem dX1_handOver_79 : decode cX1_handOver 79 = .ok (.putfield 43, 3) := by decide +kernel
theorem dX1_handOver_82 : decode cX1_handOver 82 = .ok (.return_, 1) := by decide +kernel
theorem dX1_endTurn_0 : decode cX1_endTurn 0 = .ok (.aload_n 0, 1) := by decide +kernel
theorem dX1_endTurn_1 : decode cX1_endTurn 1 = .ok (.getfield 61, 3) := by decide +kernel
theorem dX1_endTurn_4 : decode cX1_endTurn 4 = .ok (.ifCond .le 73, 3) := by decide +kernel
theorem dX1_endTurn_7 : decode cX1_endTurn 7 = .ok (.aload_n 0, 1) := by decide +kernel
theorem dX1_endTurn_8 : decode cX1_endTurn 8 = .ok (.getfield 40, 3) := by decide +kernel
theorem dX1_endTurn_11 : decode cX1_endTurn 11 = .ok (.iconst 1, 1) := by decide +kernel
theorem dX1_endTurn_12 : decode cX1_endTurn 12 = .ok (.iadd, 1) := by decide +kernel
theorem dX1_endTurn_13 : decode cX1_endTurn 13 = .ok (.aload_n 0, 1) := by decide +kernel
theorem dX1_endTurn_14 : decode cX1_endTurn 14 = .ok (.getfield 61, 3) := by decide +kernel
theorem dX1_endTurn_17 : decode cX1_endTurn 17 = .ok (.irem, 1) := by decide +kernel
theorem dX1_endTurn_18 : decode cX1_endTurn 18 = .ok (.ifCond .ne 59, 3) := by decide +kernel
theorem dX1_endTurn_21 : decode cX1_endTurn 21 = .ok (.iconst 0, 1) := by decide +kernel
theorem dX1_endTurn_22 : decode cX1_endTurn 22 = .ok (.istore_n 1, 1) := by decide +kernel
theorem dX1_endTurn_23 : decode cX1_endTurn 23 = .ok (.iload_n 1, 1) := by decide +kernel
theorem dX1_endTurn_24 : decode cX1_endTurn 24 = .ok (.aload_n 0, 1) := by decide +kernel
theorem dX1_endTurn_25 : decode cX1_endTurn 25 = .ok (.getfield 33, 3) := by decide +kernel
theorem dX1_endTurn_28 : decode cX1_endTurn 28 = .ok (.if_icmp .ge 49, 3) := by decide +kernel
theorem dX1_endTurn_31 : decode cX1_endTurn 31 = .ok (.iload_n 1, 1) := by decide +kernel
theorem dX1_endTurn_32 : decode cX1_endTurn 32 = .ok (.iconst 4, 1) := by decide +kernel
theorem dX1_endTurn_33 : decode cX1_endTurn 33 = .ok (.if_icmp .ge 44, 3) := by decide +kernel
theorem dX1_endTurn_36 : decode cX1_endTurn 36 = .ok (.aload_n 0, 1) := by decide +kernel
theorem dX1_endTurn_37 : decode cX1_endTurn 37 = .ok (.getfield 9, 3) := by decide +kernel
theorem dX1_endTurn_40 : decode cX1_endTurn 40 = .ok (.iload_n 1, 1) := by decide +kernel
theorem dX1_endTurn_41 : decode cX1_endTurn 41 = .ok (.iaload, 1) := by decide +kernel
theorem dX1_endTurn_42 : decode cX1_endTurn 42 = .ok (.iconst 5, 1) := by decide +kernel
theorem dX1_endTurn_43 : decode cX1_endTurn 43 = .ok (.if_icmp .ne 28, 3) := by decide +kernel
theorem dX1_endTurn_46 : decode cX1_endTurn 46 = .ok (.aload_n 0, 1) := by decide +kernel
theorem dX1_endTurn_47 : decode cX1_endTurn 47 = .ok (.getfield 21, 3) := by decide +kernel
theorem dX1_endTurn_50 : decode cX1_endTurn 50 = .ok (.iload_n 1, 1) := by decide +kernel
theorem dX1_endTurn_51 : decode cX1_endTurn 51 = .ok (.iaload, 1) := by decide +kernel
theorem dX1_endTurn_52 : decode cX1_endTurn 52 = .ok (.aload_n 0, 1) := by decide +kernel
theorem dX1_endTurn_53 : decode cX1_endTurn 53 = .ok (.getfield 15, 3) := by decide +kernel
theorem dX1_endTurn_56 : decode cX1_endTurn 56 = .ok (.iload_n 1, 1) := by decide +kernel
theorem dX1_endTurn_57 : decode cX1_endTurn 57 = .ok (.iaload, 1) := by decide +kernel
theorem dX1_endTurn_58 : decode cX1_endTurn 58 = .ok (.if_icmp .ge 13, 3) := by decide +kernel
theorem dX1_endTurn_61 : decode cX1_endTurn 61 = .ok (.aload_n 0, 1) := by decide +kernel
theorem dX1_endTurn_62 : decode cX1_endTurn 62 = .ok (.getfield 21, 3) := by decide +kernel
theorem dX1_endTurn_65 : decode cX1_endTurn 65 = .ok (.iload_n 1, 1) := by decide +kernel
theorem dX1_endTurn_66 : decode cX1_endTurn 66 = .ok (.dup2, 1) := by decide +kernel
theorem dX1_endTurn_67 : decode cX1_endTurn 67 = .ok (.iaload, 1) := by decide +kernel
theorem dX1_endTurn_68 : decode cX1_endTurn 68 = .ok (.iconst 1, 1) := by decide +kernel
theorem dX1_endTurn_69 : decode cX1_endTurn 69 = .ok (.iadd, 1) := by decide +kernel
theorem dX1_endTurn_70 : decode cX1_endTurn 70 = .ok (.iastore, 1) := by decide +kernel
theorem dX1_endTurn_71 : decode cX1_endTurn 71 = .ok (.iinc 1 1, 3) := by decide +kernel
theorem dX1_endTurn_74 : decode cX1_endTurn 74 = .ok (.goto (-51), 3) := by decide +kernel
theorem dX1_endTurn_77 : decode cX1_endTurn 77 = .ok (.aload_n 0, 1) := by decide +kernel
theorem dX1_endTurn_78 : decode cX1_endTurn 78 = .ok (.dup, 1) := by decide +kernel
theorem dX1_endTurn_79 : decode cX1_endTurn 79 = .ok (.getfield 40, 3) := by decide +kernel
theorem dX1_endTurn_82 : decode cX1_endTurn 82 = .ok (.iconst 1, 1) := by decide +kernel
theorem dX1_endTurn_83 : decode cX1_endTurn 83 = .ok (.iadd, 1) := by decide +kernel
theorem dX1_endTurn_84 : decode cX1_endTurn 84 = .ok (.putfield 40, 3) := by decide +kernel
theorem dX1_endTurn_87 : decode cX1_endTurn 87 = .ok (.return_, 1) := by decide +kernel
theorem dX1_passTurn_0 : decode cX1_passTurn 0 = .ok (.aload_n 0, 1) := by decide +kernel
theorem dX1_passTurn_1 : decode cX1_passTurn 1 = .ok (.getfield 49, 3) := by decide +kernel
theorem dX1_passTurn_4 : decode cX1_passTurn 4 = .ok (.ifCond .le 15, 3) := by decide +kernel
theorem dX1_passTurn_7 : decode cX1_passTurn 7 = .ok (.aload_n 0, 1) := by decide +kernel
theorem dX1_passTurn_8 : decode cX1_passTurn 8 = .ok (.aload_n 0, 1) := by decide +kernel
theorem dX1_passTurn_9 : decode cX1_passTurn 9 = .ok (.iconst 0, 1) := by decide +kernel
theorem dX1_passTurn_10 : decode cX1_passTurn 10 = .ok (.invokevirtual 109, 3) := by decide +kernel
theorem dX1_passTurn_13 : decode cX1_passTurn 13 = .ok (.invokevirtual 112, 3) := by decide +kernel
theorem dX1_passTurn_16 : decode cX1_passTurn 16 = .ok (.goto 5, 3) := by decide +kernel
theorem dX1_passTurn_19 : decode cX1_passTurn 19 = .ok (.ldc 68, 2) := by decide +kernel
theorem dX1_passTurn_21 : decode cX1_passTurn 21 = .ok (.istore_n 1, 1) := by decide +kernel
theorem dX1_passTurn_22 : decode cX1_passTurn 22 = .ok (.aload_n 0, 1) := by decide +kernel
theorem dX1_passTurn_23 : decode cX1_passTurn 23 = .ok (.invokevirtual 115, 3) := by decide +kernel
theorem dX1_passTurn_26 : decode cX1_passTurn 26 = .ok (.iload_n 1, 1) := by decide +kernel
theorem dX1_passTurn_27 : decode cX1_passTurn 27 = .ok (.ireturn, 1) := by decide +kernel
theorem dX1_leftTogether_0 : decode cX1_leftTogether 0 = .ok (.iconst 0, 1) := by decide +kernel
theorem dX1_leftTogether_1 : decode cX1_leftTogether 1 = .ok (.istore_n 1, 1) := by decide +kernel
theorem dX1_leftTogether_2 : decode cX1_leftTogether 2 = .ok (.iconst 0, 1) := by decide +kernel
theorem dX1_leftTogether_3 : decode cX1_leftTogether 3 = .ok (.istore_n 2, 1) := by decide +kernel
theorem dX1_leftTogether_4 : decode cX1_leftTogether 4 = .ok (.iload_n 2, 1) := by decide +kernel
theorem dX1_leftTogether_5 : decode cX1_leftTogether 5 = .ok (.aload_n 0, 1) := by decide +kernel
theorem dX1_leftTogether_6 : decode cX1_leftTogether 6 = .ok (.getfield 33, 3) := by decide +kernel
theorem dX1_leftTogether_9 : decode cX1_leftTogether 9 = .ok (.if_icmp .ge 23, 3) := by decide +kernel
theorem dX1_leftTogether_12 : decode cX1_leftTogether 12 = .ok (.iload_n 2, 1) := by decide +kernel
theorem dX1_leftTogether_13 : decode cX1_leftTogether 13 = .ok (.iconst 4, 1) := by decide +kernel
theorem dX1_leftTogether_14 : decode cX1_leftTogether 14 = .ok (.if_icmp .ge 18, 3) := by decide +kernel
theorem dX1_leftTogether_17 : decode cX1_leftTogether 17 = .ok (.iload_n 1, 1) := by decide +kernel
theorem dX1_leftTogether_18 : decode cX1_leftTogether 18 = .ok (.aload_n 0, 1) := by decide +kernel
theorem dX1_leftTogether_19 : decode cX1_leftTogether 19 = .ok (.getfield 21, 3) := by decide +kernel
theorem dX1_leftTogether_22 : decode cX1_leftTogether 22 = .ok (.iload_n 2, 1) := by decide +kernel
theorem dX1_leftTogether_23 : decode cX1_leftTogether 23 = .ok (.iaload, 1) := by decide +kernel
theorem dX1_leftTogether_24 : decode cX1_leftTogether 24 = .ok (.iadd, 1) := by decide +kernel
theorem dX1_leftTogether_25 : decode cX1_leftTogether 25 = .ok (.istore_n 1, 1) := by decide +kernel
theorem dX1_leftTogether_26 : decode cX1_leftTogether 26 = .ok (.iinc 2 1, 3) := by decide +kernel
theorem dX1_leftTogether_29 : decode cX1_leftTogether 29 = .ok (.goto (-25), 3) := by decide +kernel
theorem dX1_leftTogether_32 : decode cX1_leftTogether 32 = .ok (.iload_n 1, 1) := by decide +kernel
theorem dX1_leftTogether_33 : decode cX1_leftTogether 33 = .ok (.ireturn, 1) := by decide +kernel
theorem dX1_leastLeft_0 : decode cX1_leastLeft 0 = .ok (.bipush 99, 2) := by decide +kernel
theorem dX1_leastLeft_2 : decode cX1_leastLeft 2 = .ok (.istore_n 1, 1) := by decide +kernel
theorem dX1_leastLeft_3 : decode cX1_leastLeft 3 = .ok (.iconst 0, 1) := by decide +kernel
theorem dX1_leastLeft_4 : decode cX1_leastLeft 4 = .ok (.istore_n 2, 1) := by decide +kernel
theorem dX1_leastLeft_5 : decode cX1_leastLeft 5 = .ok (.iload_n 2, 1) := by decide +kernel
theorem dX1_leastLeft_6 : decode cX1_leastLeft 6 = .ok (.aload_n 0, 1) := by decide +kernel
theorem dX1_leastLeft_7 : decode cX1_leastLeft 7 = .ok (.getfield 33, 3) := by decide +kernel
theorem dX1_leastLeft_10 : decode cX1_leastLeft 10 = .ok (.if_icmp .ge 25, 3) := by decide +kernel
theorem dX1_leastLeft_13 : decode cX1_leastLeft 13 = .ok (.iload_n 2, 1) := by decide +kernel
theorem dX1_leastLeft_14 : decode cX1_leastLeft 14 = .ok (.iconst 4, 1) := by decide +kernel
theorem dX1_leastLeft_15 : decode cX1_leastLeft 15 = .ok (.if_icmp .ge 20, 3) := by decide +kernel
theorem dX1_leastLeft_18 : decode cX1_leastLeft 18 = .ok (.iload_n 1, 1) := by decide +kernel
theorem dX1_leastLeft_19 : decode cX1_leastLeft 19 = .ok (.aload_n 0, 1) := by decide +kernel
theorem dX1_leastLeft_20 : decode cX1_leastLeft 20 = .ok (.getfield 21, 3) := by decide +kernel
theorem dX1_leastLeft_23 : decode cX1_leastLeft 23 = .ok (.iload_n 2, 1) := by decide +kernel
theorem dX1_leastLeft_24 : decode cX1_leastLeft 24 = .ok (.iaload, 1) := by decide +kernel
theorem dX1_leastLeft_25 : decode cX1_leastLeft 25 = .ok (.invokestatic 104, 3) := by decide +kernel
theorem dX1_leastLeft_28 : decode cX1_leastLeft 28 = .ok (.istore_n 1, 1) := by decide +kernel
theorem dX1_leastLeft_29 : decode cX1_leastLeft 29 = .ok (.iinc 2 1, 3) := by decide +kernel
theorem dX1_leastLeft_32 : decode cX1_leastLeft 32 = .ok (.goto (-27), 3) := by decide +kernel
theorem dX1_leastLeft_35 : decode cX1_leastLeft 35 = .ok (.iload_n 1, 1) := by decide +kernel
theorem dX1_leastLeft_36 : decode cX1_leastLeft 36 = .ok (.ireturn, 1) := by decide +kernel
theorem dX1_firstWithInfancy_0 : decode cX1_firstWithInfancy 0 = .ok (.iconst 0, 1) := by decide +kernel
theorem dX1_firstWithInfancy_1 : decode cX1_firstWithInfancy 1 = .ok (.istore_n 1, 1) := by decide +kernel
theorem dX1_firstWithInfancy_2 : decode cX1_firstWithInfancy 2 = .ok (.iload_n 1, 1) := by decide +kernel
theorem dX1_firstWithInfancy_3 : decode cX1_firstWithInfancy 3 = .ok (.aload_n 0, 1) := by decide +kernel
theorem dX1_firstWithInfancy_4 : decode cX1_firstWithInfancy 4 = .ok (.getfield 33, 3) := by decide +kernel
theorem dX1_firstWithInfancy_7 : decode cX1_firstWithInfancy 7 = .ok (.if_icmp .ge 29, 3) := by decide +kernel
theorem dX1_firstWithInfancy_10 : decode cX1_firstWithInfancy 10 = .ok (.iload_n 1, 1) := by decide +kernel
theorem dX1_firstWithInfancy_11 : decode cX1_firstWithInfancy 11 = .ok (.iconst 4, 1) := by decide +kernel
theorem dX1_firstWithInfancy_12 : decode cX1_firstWithInfancy 12 = .ok (.if_icmp .ge 24, 3) := by decide +kernel
theorem dX1_firstWithInfancy_15 : decode cX1_firstWithInfancy 15 = .ok (.aload_n 0, 1) := by decide +kernel
theorem dX1_firstWithInfancy_16 : decode cX1_firstWithInfancy 16 = .ok (.getfield 21, 3) := by decide +kernel
theorem dX1_firstWithInfancy_19 : decode cX1_firstWithInfancy 19 = .ok (.iload_n 1, 1) := by decide +kernel
theorem dX1_firstWithInfancy_20 : decode cX1_firstWithInfancy 20 = .ok (.iaload, 1) := by decide +kernel
theorem dX1_firstWithInfancy_21 : decode cX1_firstWithInfancy 21 = .ok (.aload_n 0, 1) := by decide +kernel
theorem dX1_firstWithInfancy_22 : decode cX1_firstWithInfancy 22 = .ok (.getfield 58, 3) := by decide +kernel
theorem dX1_firstWithInfancy_25 : decode cX1_firstWithInfancy 25 = .ok (.if_icmp .gt 5, 3) := by decide +kernel
theorem dX1_firstWithInfancy_28 : decode cX1_firstWithInfancy 28 = .ok (.iload_n 1, 1) := by decide +kernel
theorem dX1_firstWithInfancy_29 : decode cX1_firstWithInfancy 29 = .ok (.ireturn, 1) := by decide +kernel
theorem dX1_firstWithInfancy_30 : decode cX1_firstWithInfancy 30 = .ok (.iinc 1 1, 3) := by decide +kernel
theorem dX1_firstWithInfancy_33 : decode cX1_firstWithInfancy 33 = .ok (.goto (-31), 3) := by decide +kernel
theorem dX1_firstWithInfancy_36 : decode cX1_firstWithInfancy 36 = .ok (.ldc 68, 2) := by decide +kernel
theorem dX1_firstWithInfancy_38 : decode cX1_firstWithInfancy 38 = .ok (.ireturn, 1) := by decide +kernel
theorem dX1_cheapestFor_0 : decode cX1_cheapestFor 0 = .ok (.iconst 0, 1) := by decide +kernel
theorem dX1_cheapestFor_1 : decode cX1_cheapestFor 1 = .ok (.istore_n 2, 1) := by decide +kernel
theorem dX1_cheapestFor_2 : decode cX1_cheapestFor 2 = .ok (.iconst 1, 1) := by decide +kernel
theorem dX1_cheapestFor_3 : decode cX1_cheapestFor 3 = .ok (.istore_n 3, 1) := by decide +kernel
theorem dX1_cheapestFor_4 : decode cX1_cheapestFor 4 = .ok (.iload_n 3, 1) := by decide +kernel
theorem dX1_cheapestFor_5 : decode cX1_cheapestFor 5 = .ok (.aload_n 0, 1) := by decide +kernel
theorem dX1_cheapestFor_6 : decode cX1_cheapestFor 6 = .ok (.getfield 33, 3) := by decide +kernel
theorem dX1_cheapestFor_9 : decode cX1_cheapestFor 9 = .ok (.if_icmp .ge 31, 3) := by decide +kernel
theorem dX1_cheapestFor_12 : decode cX1_cheapestFor 12 = .ok (.iload_n 3, 1) := by decide +kernel
theorem dX1_cheapestFor_13 : decode cX1_cheapestFor 13 = .ok (.iconst 4, 1) := by decide +kernel
theorem dX1_cheapestFor_14 : decode cX1_cheapestFor 14 = .ok (.if_icmp .ge 26, 3) := by decide +kernel
theorem dX1_cheapestFor_17 : decode cX1_cheapestFor 17 = .ok (.aload_n 0, 1) := by decide +kernel
theorem dX1_cheapestFor_18 : decode cX1_cheapestFor 18 = .ok (.iload_n 3, 1) := by decide +kernel
theorem dX1_cheapestFor_19 : decode cX1_cheapestFor 19 = .ok (.iload_n 1, 1) := by decide +kernel
theorem dX1_cheapestFor_20 : decode cX1_cheapestFor 20 = .ok (.invokevirtual 81, 3) := by decide +kernel
theorem dX1_cheapestFor_23 : decode cX1_cheapestFor 23 = .ok (.aload_n 0, 1) := by decide +kernel
theorem dX1_cheapestFor_24 : decode cX1_cheapestFor 24 = .ok (.iload_n 2, 1) := by decide +kernel
theorem dX1_cheapestFor_25 : decode cX1_cheapestFor 25 = .ok (.iload_n 1, 1) := by decide +kernel
theorem dX1_cheapestFor_26 : decode cX1_cheapestFor 26 = .ok (.invokevirtual 81, 3) := by decide +kernel
theorem dX1_cheapestFor_29 : decode cX1_cheapestFor 29 = .ok (.if_icmp .ge 5, 3) := by decide +kernel
theorem dX1_cheapestFor_32 : decode cX1_cheapestFor 32 = .ok (.iload_n 3, 1) := by decide +kernel
theorem dX1_cheapestFor_33 : decode cX1_cheapestFor 33 = .ok (.istore_n 2, 1) := by decide +kernel
theorem dX1_cheapestFor_34 : decode cX1_cheapestFor 34 = .ok (.iinc 3 1, 3) := by decide +kernel
theorem dX1_cheapestFor_37 : decode cX1_cheapestFor 37 = .ok (.goto (-33), 3) := by decide +kernel
theorem dX1_cheapestFor_40 : decode cX1_cheapestFor 40 = .ok (.iload_n 2, 1) := by decide +kernel
theorem dX1_cheapestFor_41 : decode cX1_cheapestFor 41 = .ok (.ireturn, 1) := by decide +kernel
theorem dX1_greatestSum_0 : decode cX1_greatestSum 0 = .ok (.bipush 99, 2) := by decide +kernel
theorem dX1_greatestSum_2 : decode cX1_greatestSum 2 = .ok (.istore_n 1, 1) := by decide +kernel
theorem dX1_greatestSum_3 : decode cX1_greatestSum 3 = .ok (.iload_n 1, 1) := by decide +kernel
theorem dX1_greatestSum_4 : decode cX1_greatestSum 4 = .ok (.iconst 1, 1) := by decide +kernel
theorem dX1_greatestSum_5 : decode cX1_greatestSum 5 = .ok (.if_icmp .lt 21, 3) := by decide +kernel
theorem dX1_greatestSum_8 : decode cX1_greatestSum 8 = .ok (.aload_n 0, 1) := by decide +kernel
theorem dX1_greatestSum_9 : decode cX1_greatestSum 9 = .ok (.iload_n 1, 1) := by decide +kernel
theorem dX1_greatestSum_10 : decode cX1_greatestSum 10 = .ok (.invokevirtual 94, 3) := by decide +kernel
theorem dX1_greatestSum_13 : decode cX1_greatestSum 13 = .ok (.ldc 68, 2) := by decide +kernel
theorem dX1_greatestSum_15 : decode cX1_greatestSum 15 = .ok (.if_icmp .eq 5, 3) := by decide +kernel
theorem dX1_greatestSum_18 : decode cX1_greatestSum 18 = .ok (.iload_n 1, 1) := by decide +kernel
theorem dX1_greatestSum_19 : decode cX1_greatestSum 19 = .ok (.ireturn, 1) := by decide +kernel
theorem dX1_greatestSum_20 : decode cX1_greatestSum 20 = .ok (.iinc 1 (-1), 3) := by decide +kernel
theorem dX1_greatestSum_23 : decode cX1_greatestSum 23 = .ok (.goto (-20), 3) := by decide +kernel
theorem dX1_greatestSum_26 : decode cX1_greatestSum 26 = .ok (.ldc 68, 2) := by decide +kernel
theorem dX1_greatestSum_28 : decode cX1_greatestSum 28 = .ok (.ireturn, 1) := by decide +kernel
theorem dX1_twinPairs_0 : decode cX1_twinPairs 0 = .ok (.iconst 0, 1) := by decide +kernel
theorem dX1_twinPairs_1 : decode cX1_twinPairs 1 = .ok (.istore_n 1, 1) := by decide +kernel
theorem dX1_twinPairs_2 : decode cX1_twinPairs 2 = .ok (.iconst 0, 1) := by decide +kernel
theorem dX1_twinPairs_3 : decode cX1_twinPairs 3 = .ok (.istore_n 2, 1) := by decide +kernel
theorem dX1_twinPairs_4 : decode cX1_twinPairs 4 = .ok (.iload_n 2, 1) := by decide +kernel
theorem dX1_twinPairs_5 : decode cX1_twinPairs 5 = .ok (.aload_n 0, 1) := by decide +kernel
theorem dX1_twinPairs_6 : decode cX1_twinPairs 6 = .ok (.getfield 33, 3) := by decide +kernel
theorem dX1_twinPairs_9 : decode cX1_twinPairs 9 = .ok (.if_icmp .ge 55, 3) := by decide +kernel
theorem dX1_twinPairs_12 : decode cX1_twinPairs 12 = .ok (.iload_n 2, 1) := by decide +kernel
theorem dX1_twinPairs_13 : decode cX1_twinPairs 13 = .ok (.iconst 4, 1) := by decide +kernel
theorem dX1_twinPairs_14 : decode cX1_twinPairs 14 = .ok (.if_icmp .ge 50, 3) := by decide +kernel
theorem dX1_twinPairs_17 : decode cX1_twinPairs 17 = .ok (.iload_n 2, 1) := by decide +kernel
theorem dX1_twinPairs_18 : decode cX1_twinPairs 18 = .ok (.iconst 1, 1) := by decide +kernel
theorem dX1_twinPairs_19 : decode cX1_twinPairs 19 = .ok (.iadd, 1) := by decide +kernel
theorem dX1_twinPairs_20 : decode cX1_twinPairs 20 = .ok (.istore_n 3, 1) := by decide +kernel
theorem dX1_twinPairs_21 : decode cX1_twinPairs 21 = .ok (.iload_n 3, 1) := by decide +kernel
theorem dX1_twinPairs_22 : decode cX1_twinPairs 22 = .ok (.aload_n 0, 1) := by decide +kernel
theorem dX1_twinPairs_23 : decode cX1_twinPairs 23 = .ok (.getfield 33, 3) := by decide +kernel
theorem dX1_twinPairs_26 : decode cX1_twinPairs 26 = .ok (.if_icmp .ge 32, 3) := by decide +kernel
theorem dX1_twinPairs_29 : decode cX1_twinPairs 29 = .ok (.iload_n 3, 1) := by decide +kernel
theorem dX1_twinPairs_30 : decode cX1_twinPairs 30 = .ok (.iconst 4, 1) := by decide +kernel
theorem dX1_twinPairs_31 : decode cX1_twinPairs 31 = .ok (.if_icmp .ge 27, 3) := by decide +kernel
theorem dX1_twinPairs_34 : decode cX1_twinPairs 34 = .ok (.aload_n 0, 1) := by decide +kernel
theorem dX1_twinPairs_35 : decode cX1_twinPairs 35 = .ok (.getfield 21, 3) := by decide +kernel
theorem dX1_twinPairs_38 : decode cX1_twinPairs 38 = .ok (.iload_n 2, 1) := by decide +kernel
theorem dX1_twinPairs_39 : decode cX1_twinPairs 39 = .ok (.iaload, 1) := by decide +kernel
theorem dX1_twinPairs_40 : decode cX1_twinPairs 40 = .ok (.aload_n 0, 1) := by decide +kernel
theorem dX1_twinPairs_41 : decode cX1_twinPairs 41 = .ok (.getfield 21, 3) := by decide +kernel
theorem dX1_twinPairs_44 : decode cX1_twinPairs 44 = .ok (.iload_n 3, 1) := by decide +kernel
theorem dX1_twinPairs_45 : decode cX1_twinPairs 45 = .ok (.iaload, 1) := by decide +kernel
theorem dX1_twinPairs_46 : decode cX1_twinPairs 46 = .ok (.if_icmp .ne 6, 3) := by decide +kernel
theorem dX1_twinPairs_49 : decode cX1_twinPairs 49 = .ok (.iinc 1 1, 3) := by decide +kernel
theorem dX1_twinPairs_52 : decode cX1_twinPairs 52 = .ok (.iinc 3 1, 3) := by decide +kernel
theorem dX1_twinPairs_55 : decode cX1_twinPairs 55 = .ok (.goto (-34), 3) := by decide +kernel
theorem dX1_twinPairs_58 : decode cX1_twinPairs 58 = .ok (.iinc 2 1, 3) := by decide +kernel
theorem dX1_twinPairs_61 : decode cX1_twinPairs 61 = .ok (.goto (-57), 3) := by decide +kernel
theorem dX1_twinPairs_64 : decode cX1_twinPairs 64 = .ok (.iload_n 1, 1) := by decide +kernel
theorem dX1_twinPairs_65 : decode cX1_twinPairs 65 = .ok (.ireturn, 1) := by decide +kernel
theorem dX1_firstTwins_0 : decode cX1_firstTwins 0 = .ok (.iconst 0, 1) := by decide +kernel
theorem dX1_firstTwins_1 : decode cX1_firstTwins 1 = .ok (.istore_n 1, 1) := by decide +kernel
theorem dX1_firstTwins_2 : decode cX1_firstTwins 2 = .ok (.iload_n 1, 1) := by decide +kernel
theorem dX1_firstTwins_3 : decode cX1_firstTwins 3 = .ok (.aload_n 0, 1) := by decide +kernel
theorem dX1_firstTwins_4 : decode cX1_firstTwins 4 = .ok (.getfield 33, 3) := by decide +kernel
theorem dX1_firstTwins_7 : decode cX1_firstTwins 7 = .ok (.if_icmp .ge 59, 3) := by decide +kernel
theorem dX1_firstTwins_10 : decode cX1_firstTwins 10 = .ok (.iload_n 1, 1) := by decide +kernel
theorem dX1_firstTwins_11 : decode cX1_firstTwins 11 = .ok (.iconst 4, 1) := by decide +kernel
theorem dX1_firstTwins_12 : decode cX1_firstTwins 12 = .ok (.if_icmp .ge 54, 3) := by decide +kernel
theorem dX1_firstTwins_15 : decode cX1_firstTwins 15 = .ok (.iload_n 1, 1) := by decide +kernel
theorem dX1_firstTwins_16 : decode cX1_firstTwins 16 = .ok (.iconst 1, 1) := by decide +kernel
theorem dX1_firstTwins_17 : decode cX1_firstTwins 17 = .ok (.iadd, 1) := by decide +kernel
theorem dX1_firstTwins_18 : decode cX1_firstTwins 18 = .ok (.istore_n 2, 1) := by decide +kernel
theorem dX1_firstTwins_19 : decode cX1_firstTwins 19 = .ok (.iload_n 2, 1) := by decide +kernel
theorem dX1_firstTwins_20 : decode cX1_firstTwins 20 = .ok (.aload_n 0, 1) := by decide +kernel
theorem dX1_firstTwins_21 : decode cX1_firstTwins 21 = .ok (.getfield 33, 3) := by decide +kernel
theorem dX1_firstTwins_24 : decode cX1_firstTwins 24 = .ok (.if_icmp .ge 36, 3) := by decide +kernel
theorem dX1_firstTwins_27 : decode cX1_firstTwins 27 = .ok (.iload_n 2, 1) := by decide +kernel
theorem dX1_firstTwins_28 : decode cX1_firstTwins 28 = .ok (.iconst 4, 1) := by decide +kernel
theorem dX1_firstTwins_29 : decode cX1_firstTwins 29 = .ok (.if_icmp .ge 31, 3) := by decide +kernel
theorem dX1_firstTwins_32 : decode cX1_firstTwins 32 = .ok (.aload_n 0, 1) := by decide +kernel
theorem dX1_firstTwins_33 : decode cX1_firstTwins 33 = .ok (.getfield 21, 3) := by decide +kernel
theorem dX1_firstTwins_36 : decode cX1_firstTwins 36 = .ok (.iload_n 1, 1) := by decide +kernel
theorem dX1_firstTwins_37 : decode cX1_firstTwins 37 = .ok (.iaload, 1) := by decide +kernel
theorem dX1_firstTwins_38 : decode cX1_firstTwins 38 = .ok (.aload_n 0, 1) := by decide +kernel
theorem dX1_firstTwins_39 : decode cX1_firstTwins 39 = .ok (.getfield 21, 3) := by decide +kernel
theorem dX1_firstTwins_42 : decode cX1_firstTwins 42 = .ok (.iload_n 2, 1) := by decide +kernel
theorem dX1_firstTwins_43 : decode cX1_firstTwins 43 = .ok (.iaload, 1) := by decide +kernel
theorem dX1_firstTwins_44 : decode cX1_firstTwins 44 = .ok (.if_icmp .ne 10, 3) := by decide +kernel
theorem dX1_firstTwins_47 : decode cX1_firstTwins 47 = .ok (.bipush 10, 2) := by decide +kernel
theorem dX1_firstTwins_49 : decode cX1_firstTwins 49 = .ok (.iload_n 1, 1) := by decide +kernel
theorem dX1_firstTwins_50 : decode cX1_firstTwins 50 = .ok (.imul, 1) := by decide +kernel
theorem dX1_firstTwins_51 : decode cX1_firstTwins 51 = .ok (.iload_n 2, 1) := by decide +kernel
theorem dX1_firstTwins_52 : decode cX1_firstTwins 52 = .ok (.iadd, 1) := by decide +kernel
theorem dX1_firstTwins_53 : decode cX1_firstTwins 53 = .ok (.ireturn, 1) := by decide +kernel
theorem dX1_firstTwins_54 : decode cX1_firstTwins 54 = .ok (.iinc 2 1, 3) := by decide +kernel
theorem dX1_firstTwins_57 : decode cX1_firstTwins 57 = .ok (.goto (-38), 3) := by decide +kernel
theorem dX1_firstTwins_60 : decode cX1_firstTwins 60 = .ok (.iinc 1 1, 3) := by decide +kernel
theorem dX1_firstTwins_63 : decode cX1_firstTwins 63 = .ok (.goto (-61), 3) := by decide +kernel
theorem dX1_firstTwins_66 : decode cX1_firstTwins 66 = .ok (.ldc 68, 2) := by decide +kernel
theorem dX1_firstTwins_68 : decode cX1_firstTwins 68 = .ok (.ireturn, 1) := by decide +kernel
theorem dX2_init_0 : decode cX2_init 0 = .ok (.aload_n 0, 1) := by decide +kernel
theorem dX2_init_1 : decode cX2_init 1 = .ok (.invokespecial 3, 3) := by decide +kernel
theorem dX2_init_4 : decode cX2_init 4 = .ok (.aload_n 0, 1) := by decide +kernel
theorem dX2_init_5 : decode cX2_init 5 = .ok (.new 9, 3) := by decide +kernel
theorem dX2_init_8 : decode cX2_init 8 = .ok (.dup, 1) := by decide +kernel
theorem dX2_init_9 : decode cX2_init 9 = .ok (.invokespecial 11, 3) := by decide +kernel
theorem dX2_init_12 : decode cX2_init 12 = .ok (.putfield 12, 3) := by decide +kernel
theorem dX2_init_15 : decode cX2_init 15 = .ok (.aload_n 0, 1) := by decide +kernel
theorem dX2_init_16 : decode cX2_init 16 = .ok (.bipush 12, 2) := by decide +kernel
theorem dX2_init_18 : decode cX2_init 18 = .ok (.newarray .int, 2) := by decide +kernel
theorem dX2_init_20 : decode cX2_init 20 = .ok (.putfield 18, 3) := by decide +kernel
theorem dX2_init_23 : decode cX2_init 23 = .ok (.return_, 1) := by decide +kernel
theorem dX2_after_0 : decode cX2_after 0 = .ok (.aload_n 0, 1) := by decide +kernel
theorem dX2_after_1 : decode cX2_after 1 = .ok (.getfield 12, 3) := by decide +kernel
theorem dX2_after_4 : decode cX2_after 4 = .ok (.aload_n 1, 1) := by decide +kernel
theorem dX2_after_5 : decode cX2_after 5 = .ok (.invokevirtual 22, 3) := by decide +kernel
theorem dX2_after_8 : decode cX2_after 8 = .ok (.iconst 0, 1) := by decide +kernel
theorem dX2_after_9 : decode cX2_after 9 = .ok (.istore_n 3, 1) := by decide +kernel
theorem dX2_after_10 : decode cX2_after 10 = .ok (.iload_n 3, 1) := by decide +kernel
theorem dX2_after_11 : decode cX2_after 11 = .ok (.iload_n 2, 1) := by decide +kernel
theorem dX2_after_12 : decode cX2_after 12 = .ok (.if_icmp .ge 17, 3) := by decide +kernel
theorem dX2_after_15 : decode cX2_after 15 = .ok (.aload_n 0, 1) := by decide +kernel
theorem dX2_after_16 : decode cX2_after 16 = .ok (.getfield 12, 3) := by decide +kernel
theorem dX2_after_19 : decode cX2_after 19 = .ok (.invokevirtual 26, 3) := by decide +kernel
theorem dX2_after_22 : decode cX2_after 22 = .ok (.pop, 1) := by decide +kernel
theorem dX2_after_23 : decode cX2_after 23 = .ok (.iinc 3 1, 3) := by decide +kernel
theorem dX2_after_26 : decode cX2_after 26 = .ok (.goto (-16), 3) := by decide +kernel
theorem dX2_after_29 : decode cX2_after 29 = .ok (.aload_n 0, 1) := by decide +kernel
theorem dX2_after_30 : decode cX2_after 30 = .ok (.getfield 12, 3) := by decide +kernel
theorem dX2_after_33 : decode cX2_after 33 = .ok (.areturn, 1) := by decide +kernel
theorem dX2_serverOf_0 : decode cX2_serverOf 0 = .ok (.aload_n 1, 1) := by decide +kernel
theorem dX2_serverOf_1 : decode cX2_serverOf 1 = .ok (.iload_n 2, 1) := by decide +kernel
theorem dX2_serverOf_2 : decode cX2_serverOf 2 = .ok (.invokevirtual 30, 3) := by decide +kernel
theorem dX2_serverOf_5 : decode cX2_serverOf 5 = .ok (.istore_n 3, 1) := by decide +kernel
theorem dX2_serverOf_6 : decode cX2_serverOf 6 = .ok (.ldc 34, 2) := by decide +kernel
theorem dX2_serverOf_8 : decode cX2_serverOf 8 = .ok (.istore 4, 2) := by decide +kernel
theorem dX2_serverOf_10 : decode cX2_serverOf 10 = .ok (.aload_n 0, 1) := by decide +kernel
theorem dX2_serverOf_11 : decode cX2_serverOf 11 = .ok (.getfield 12, 3) := by decide +kernel
theorem dX2_serverOf_14 : decode cX2_serverOf 14 = .ok (.aload_n 1, 1) := by decide +kernel
theorem dX2_serverOf_15 : decode cX2_serverOf 15 = .ok (.invokevirtual 22, 3) := by decide +kernel
theorem dX2_serverOf_18 : decode cX2_serverOf 18 = .ok (.iconst 0, 1) := by decide +kernel
theorem dX2_serverOf_19 : decode cX2_serverOf 19 = .ok (.istore 5, 2) := by decide +kernel
theorem dX2_serverOf_21 : decode cX2_serverOf 21 = .ok (.iload 5, 2) := by decide +kernel
theorem dX2_serverOf_23 : decode cX2_serverOf 23 = .ok (.iload_n 3, 1) := by decide +kernel
theorem dX2_serverOf_24 : decode cX2_serverOf 24 = .ok (.if_icmp .gt 18, 3) := by decide +kernel
theorem dX2_serverOf_27 : decode cX2_serverOf 27 = .ok (.aload_n 0, 1) := by decide +kernel
theorem dX2_serverOf_28 : decode cX2_serverOf 28 = .ok (.getfield 12, 3) := by decide +kernel
theorem dX2_serverOf_31 : decode cX2_serverOf 31 = .ok (.invokevirtual 26, 3) := by decide +kernel
theorem dX2_serverOf_34 : decode cX2_serverOf 34 = .ok (.istore 4, 2) := by decide +kernel
theorem dX2_serverOf_36 : decode cX2_serverOf 36 = .ok (.iinc 5 1, 3) := by decide +kernel
theorem dX2_serverOf_39 : decode cX2_serverOf 39 = .ok (.goto (-18), 3) := by decide +kernel
theorem dX2_serverOf_42 : decode cX2_serverOf 42 = .ok (.iload 4, 2) := by decide +kernel
theorem dX2_serverOf_44 : decode cX2_serverOf 44 = .ok (.ireturn, 1) := by decide +kernel
theorem dX2_paidAhead_0 : decode cX2_paidAhead 0 = .ok (.aload_n 0, 1) := by decide +kernel
theorem dX2_paidAhead_1 : decode cX2_paidAhead 1 = .ok (.getfield 12, 3) := by decide +kernel
theorem dX2_paidAhead_4 : decode cX2_paidAhead 4 = .ok (.aload_n 1, 1) := by decide +kernel
theorem dX2_paidAhead_5 : decode cX2_paidAhead 5 = .ok (.invokevirtual 22, 3) := by decide +kernel
theorem dX2_paidAhead_8 : decode cX2_paidAhead 8 = .ok (.aload_n 0, 1) := by decide +kernel
theorem dX2_paidAhead_9 : decode cX2_paidAhead 9 = .ok (.invokevirtual 35, 3) := by decide +kernel
theorem dX2_paidAhead_12 : decode cX2_paidAhead 12 = .ok (.ireturn, 1) := by decide +kernel
theorem dX2_ghostPaidAhead_0 : decode cX2_ghostPaidAhead 0 = .ok (.aload_n 0, 1) := by decide +kernel
theorem dX2_ghostPaidAhead_1 : decode cX2_ghostPaidAhead 1 = .ok (.getfield 12, 3) := by decide +kernel
theorem dX2_ghostPaidAhead_4 : decode cX2_ghostPaidAhead 4 = .ok (.getfield 38, 3) := by decide +kernel
theorem dX2_ghostPaidAhead_7 : decode cX2_ghostPaidAhead 7 = .ok (.istore_n 1, 1) := by decide +kernel
theorem dX2_ghostPaidAhead_8 : decode cX2_ghostPaidAhead 8 = .ok (.iconst 0, 1) := by decide +kernel
theorem dX2_ghostPaidAhead_9 : decode cX2_ghostPaidAhead 9 = .ok (.istore_n 2, 1) := by decide +kernel
theorem dX2_ghostPaidAhead_10 : decode cX2_ghostPaidAhead 10 = .ok (.iload_n 2, 1) := by decide +kernel
theorem dX2_ghostPaidAhead_11 : decode cX2_ghostPaidAhead 11 = .ok (.iload_n 1, 1) := by decide +kernel
theorem dX2_ghostPaidAhead_12 : decode cX2_ghostPaidAhead 12 = .ok (.if_icmp .ge 23, 3) := by decide +kernel
theorem dX2_ghostPaidAhead_15 : decode cX2_ghostPaidAhead 15 = .ok (.aload_n 0, 1) := by decide +kernel
theorem dX2_ghostPaidAhead_16 : decode cX2_ghostPaidAhead 16 = .ok (.getfield 12, 3) := by decide +kernel
theorem dX2_ghostPaidAhead_19 : decode cX2_ghostPaidAhead 19 = .ok (.invokevirtual 26, 3) := by decide +kernel
theorem dX2_ghostPaidAhead_22 : decode cX2_ghostPaidAhead 22 = .ok (.ldc 34, 2) := by decide +kernel
theorem dX2_ghostPaidAhead_24 : decode cX2_ghostPaidAhead 24 = .ok (.if_icmp .ne 5, 3) := by decide +kernel
theorem dX2_ghostPaidAhead_27 : decode cX2_ghostPaidAhead 27 = .ok (.iload_n 2, 1) := by decide +kernel
theorem dX2_ghostPaidAhead_28 : decode cX2_ghostPaidAhead 28 = .ok (.ireturn, 1) := by decide +kernel
theorem dX2_ghostPaidAhead_29 : decode cX2_ghostPaidAhead 29 = .ok (.iinc 2 1, 3) := by decide +kernel
theorem dX2_ghostPaidAhead_32 : decode cX2_ghostPaidAhead 32 = .ok (.goto (-22), 3) := by decide +kernel
theorem dX2_ghostPaidAhead_35 : decode cX2_ghostPaidAhead 35 = .ok (.iload_n 1, 1) := by decide +kernel
theorem dX2_ghostPaidAhead_36 : decode cX2_ghostPaidAhead 36 = .ok (.ireturn, 1) := by decide +kernel
theorem dX2_firstInfant_0 : decode cX2_firstInfant 0 = .ok (.aload_n 0, 1) := by decide +kernel
theorem dX2_firstInfant_1 : decode cX2_firstInfant 1 = .ok (.getfield 12, 3) := by decide +kernel
theorem dX2_firstInfant_4 : decode cX2_firstInfant 4 = .ok (.aload_n 1, 1) := by decide +kernel
theorem dX2_firstInfant_5 : decode cX2_firstInfant 5 = .ok (.invokevirtual 22, 3) := by decide +kernel
theorem dX2_firstInfant_8 : decode cX2_firstInfant 8 = .ok (.iconst 0, 1) := by decide +kernel
theorem dX2_firstInfant_9 : decode cX2_firstInfant 9 = .ok (.istore_n 2, 1) := by decide +kernel
theorem dX2_firstInfant_10 : decode cX2_firstInfant 10 = .ok (.iload_n 2, 1) := by decide +kernel
theorem dX2_firstInfant_11 : decode cX2_firstInfant 11 = .ok (.aload_n 1, 1) := by decide +kernel
theorem dX2_firstInfant_12 : decode cX2_firstInfant 12 = .ok (.getfield 38, 3) := by decide +kernel
theorem dX2_firstInfant_15 : decode cX2_firstInfant 15 = .ok (.if_icmp .ge 29, 3) := by decide +kernel
theorem dX2_firstInfant_18 : decode cX2_firstInfant 18 = .ok (.aload_n 0, 1) := by decide +kernel
theorem dX2_firstInfant_19 : decode cX2_firstInfant 19 = .ok (.getfield 12, 3) := by decide +kernel
theorem dX2_firstInfant_22 : decode cX2_firstInfant 22 = .ok (.invokevirtual 42, 3) := by decide +kernel
theorem dX2_firstInfant_25 : decode cX2_firstInfant 25 = .ok (.ldc 34, 2) := by decide +kernel
theorem dX2_firstInfant_27 : decode cX2_firstInfant 27 = .ok (.if_icmp .ne 17, 3) := by decide +kernel
theorem dX2_firstInfant_30 : decode cX2_firstInfant 30 = .ok (.aload_n 0, 1) := by decide +kernel
theorem dX2_firstInfant_31 : decode cX2_firstInfant 31 = .ok (.getfield 12, 3) := by decide +kernel
theorem dX2_firstInfant_34 : decode cX2_firstInfant 34 = .ok (.invokevirtual 26, 3) := by decide +kernel
theorem dX2_firstInfant_37 : decode cX2_firstInfant 37 = .ok (.pop, 1) := by decide +kernel
theorem dX2_firstInfant_38 : decode cX2_firstInfant 38 = .ok (.iinc 2 1, 3) := by decide +kernel
theorem dX2_firstInfant_41 : decode cX2_firstInfant 41 = .ok (.goto (-31), 3) := by decide +kernel
theorem dX2_firstInfant_44 : decode cX2_firstInfant 44 = .ok (.aload_n 0, 1) := by decide +kernel
theorem dX2_firstInfant_45 : decode cX2_firstInfant 45 = .ok (.getfield 12, 3) := by decide +kernel
theorem dX2_firstInfant_48 : decode cX2_firstInfant 48 = .ok (.invokevirtual 42, 3) := by decide +kernel
theorem dX2_firstInfant_51 : decode cX2_firstInfant 51 = .ok (.ireturn, 1) := by decide +kernel
theorem dX2_fewestCounters_0 : decode cX2_fewestCounters 0 = .ok (.ldc 34, 2) := by decide +kernel
theorem dX2_fewestCounters_2 : decode cX2_fewestCounters 2 = .ok (.istore_n 2, 1) := by decide +kernel
theorem dX2_fewestCounters_3 : decode cX2_fewestCounters 3 = .ok (.iconst 0, 1) := by decide +kernel
theorem dX2_fewestCounters_4 : decode cX2_fewestCounters 4 = .ok (.istore_n 3, 1) := by decide +kernel
theorem dX2_fewestCounters_5 : decode cX2_fewestCounters 5 = .ok (.iload_n 3, 1) := by decide +kernel
theorem dX2_fewestCounters_6 : decode cX2_fewestCounters 6 = .ok (.bipush 16, 2) := by decide +kernel
theorem dX2_fewestCounters_8 : decode cX2_fewestCounters 8 = .ok (.if_icmp .ge 68, 3) := by decide +kernel
theorem dX2_fewestCounters_11 : decode cX2_fewestCounters 11 = .ok (.iload_n 3, 1) := by decide +kernel
theorem dX2_fewestCounters_12 : decode cX2_fewestCounters 12 = .ok (.iconst 1, 1) := by decide +kernel
theorem dX2_fewestCounters_13 : decode cX2_fewestCounters 13 = .ok (.aload_n 1, 1) := by decide +kernel
theorem dX2_fewestCounters_14 : decode cX2_fewestCounters 14 = .ok (.getfield 45, 3) := by decide +kernel
theorem dX2_fewestCounters_17 : decode cX2_fewestCounters 17 = .ok (.ishl, 1) := by decide +kernel
theorem dX2_fewestCounters_18 : decode cX2_fewestCounters 18 = .ok (.if_icmp .ge 58, 3) := by decide +kernel
theorem dX2_fewestCounters_21 : decode cX2_fewestCounters 21 = .ok (.iload_n 2, 1) := by decide +kernel
theorem dX2_fewestCounters_22 : decode cX2_fewestCounters 22 = .ok (.ldc 34, 2) := by decide +kernel
theorem dX2_fewestCounters_24 : decode cX2_fewestCounters 24 = .ok (.if_icmp .eq 17, 3) := by decide +kernel
theorem dX2_fewestCounters_27 : decode cX2_fewestCounters 27 = .ok (.iload_n 3, 1) := by decide +kernel
theorem dX2_fewestCounters_28 : decode cX2_fewestCounters 28 = .ok (.invokestatic 48, 3) := by decide +kernel
theorem dX2_fewestCounters_31 : decode cX2_fewestCounters 31 = .ok (.iload_n 2, 1) := by decide +kernel
theorem dX2_fewestCounters_32 : decode cX2_fewestCounters 32 = .ok (.invokestatic 48, 3) := by decide +kernel
theorem dX2_fewestCounters_35 : decode cX2_fewestCounters 35 = .ok (.if_icmp .lt 6, 3) := by decide +kernel
theorem dX2_fewestCounters_38 : decode cX2_fewestCounters 38 = .ok (.goto 32, 3) := by decide +kernel
theorem dX2_fewestCounters_41 : decode cX2_fewestCounters 41 = .ok (.aload_n 0, 1) := by decide +kernel
theorem dX2_fewestCounters_42 : decode cX2_fewestCounters 42 = .ok (.getfield 12, 3) := by decide +kernel
theorem dX2_fewestCounters_45 : decode cX2_fewestCounters 45 = .ok (.aload_n 1, 1) := by decide +kernel
theorem dX2_fewestCounters_46 : decode cX2_fewestCounters 46 = .ok (.invokevirtual 22, 3) := by decide +kernel
theorem dX2_fewestCounters_49 : decode cX2_fewestCounters 49 = .ok (.aload_n 0, 1) := by decide +kernel
theorem dX2_fewestCounters_50 : decode cX2_fewestCounters 50 = .ok (.getfield 12, 3) := by decide +kernel
theorem dX2_fewestCounters_53 : decode cX2_fewestCounters 53 = .ok (.iload_n 3, 1) := by decide +kernel
theorem dX2_fewestCounters_54 : decode cX2_fewestCounters 54 = .ok (.putfield 53, 3) := by decide +kernel
theorem dX2_fewestCounters_57 : decode cX2_fewestCounters 57 = .ok (.aload_n 0, 1) := by decide +kernel
theorem dX2_fewestCounters_58 : decode cX2_fewestCounters 58 = .ok (.invokevirtual 35, 3) := by decide +kernel
theorem dX2_fewestCounters_61 : decode cX2_fewestCounters 61 = .ok (.aload_n 1, 1) := by decide +kernel
theorem dX2_fewestCounters_62 : decode cX2_fewestCounters 62 = .ok (.getfield 38, 3) := by decide +kernel
theorem dX2_fewestCounters_65 : decode cX2_fewestCounters 65 = .ok (.if_icmp .ne 5, 3) := by decide +kernel
theorem dX2_fewestCounters_68 : decode cX2_fewestCounters 68 = .ok (.iload_n 3, 1) := by decide +kernel
theorem dX2_fewestCounters_69 : decode cX2_fewestCounters 69 = .ok (.istore_n 2, 1) := by decide +kernel
theorem dX2_fewestCounters_70 : decode cX2_fewestCounters 70 = .ok (.iinc 3 1, 3) := by decide +kernel
theorem dX2_fewestCounters_73 : decode cX2_fewestCounters 73 = .ok (.goto (-68), 3) := by decide +kernel
theorem dX2_fewestCounters_76 : decode cX2_fewestCounters 76 = .ok (.iload_n 2, 1) := by decide +kernel
theorem dX2_fewestCounters_77 : decode cX2_fewestCounters 77 = .ok (.ireturn, 1) := by decide +kernel
theorem dX2_watch_0 : decode cX2_watch 0 = .ok (.aload_n 0, 1) := by decide +kernel
theorem dX2_watch_1 : decode cX2_watch 1 = .ok (.iload_n 1, 1) := by decide +kernel
theorem dX2_watch_2 : decode cX2_watch 2 = .ok (.putfield 56, 3) := by decide +kernel
theorem dX2_watch_5 : decode cX2_watch 5 = .ok (.aload_n 0, 1) := by decide +kernel
theorem dX2_watch_6 : decode cX2_watch 6 = .ok (.iload 5, 2) := by decide +kernel
theorem dX2_watch_8 : decode cX2_watch 8 = .ok (.bipush 12, 2) := by decide +kernel
theorem dX2_watch_10 : decode cX2_watch 10 = .ok (.invokestatic 59, 3) := by decide +kernel
theorem dX2_watch_13 : decode cX2_watch 13 = .ok (.putfield 65, 3) := by decide +kernel
theorem dX2_watch_16 : decode cX2_watch 16 = .ok (.iconst 0, 1) := by decide +kernel
theorem dX2_watch_17 : decode cX2_watch 17 = .ok (.istore 6, 2) := by decide +kernel
theorem dX2_watch_19 : decode cX2_watch 19 = .ok (.iload 6, 2) := by decide +kernel
theorem dX2_watch_21 : decode cX2_watch 21 = .ok (.aload_n 0, 1) := by decide +kernel
theorem dX2_watch_22 : decode cX2_watch 22 = .ok (.getfield 65, 3) := by decide +kernel
theorem dX2_watch_25 : decode cX2_watch 25 = .ok (.if_icmp .ge 26, 3) := by decide +kernel
theorem dX2_watch_28 : decode cX2_watch 28 = .ok (.aload_n 0, 1) := by decide +kernel
theorem dX2_watch_29 : decode cX2_watch 29 = .ok (.getfield 18, 3) := by decide +kernel
theorem dX2_watch_32 : decode cX2_watch 32 = .ok (.iload 6, 2) := by decide +kernel
theorem dX2_watch_34 : decode cX2_watch 34 = .ok (.aload_n 2, 1) := by decide +kernel
theorem dX2_watch_35 : decode cX2_watch 35 = .ok (.iload_n 3, 1) := by decide +kernel
theorem dX2_watch_36 : decode cX2_watch 36 = .ok (.iload 4, 2) := by decide +kernel
theorem dX2_watch_38 : decode cX2_watch 38 = .ok (.iload 6, 2) := by decide +kernel
theorem dX2_watch_40 : decode cX2_watch 40 = .ok (.iadd, 1) := by decide +kernel
theorem dX2_watch_41 : decode cX2_watch 41 = .ok (.invokevirtual 68, 3) := by decide +kernel
theorem dX2_watch_44 : decode cX2_watch 44 = .ok (.iastore, 1) := by decide +kernel
theorem dX2_watch_45 : decode cX2_watch 45 = .ok (.iinc 6 1, 3) := by decide +kernel
theorem dX2_watch_48 : decode cX2_watch 48 = .ok (.goto (-29), 3) := by decide +kernel
theorem dX2_watch_51 : decode cX2_watch 51 = .ok (.return_, 1) := by decide +kernel
theorem dX2_ghostIsAsTold_0 : decode cX2_ghostIsAsTold 0 = .ok (.iconst 0, 1) := by decide +kernel
theorem dX2_ghostIsAsTold_1 : decode cX2_ghostIsAsTold 1 = .ok (.istore_n 1, 1) := by decide +kernel
theorem dX2_ghostIsAsTold_2 : decode cX2_ghostIsAsTold 2 = .ok (.iload_n 1, 1) := by decide +kernel
theorem dX2_ghostIsAsTold_3 : decode cX2_ghostIsAsTold 3 = .ok (.aload_n 0, 1) := by decide +kernel
theorem dX2_ghostIsAsTold_4 : decode cX2_ghostIsAsTold 4 = .ok (.getfield 65, 3) := by decide +kernel
theorem dX2_ghostIsAsTold_7 : decode cX2_ghostIsAsTold 7 = .ok (.if_icmp .ge 60, 3) := by decide +kernel
theorem dX2_ghostIsAsTold_10 : decode cX2_ghostIsAsTold 10 = .ok (.iload_n 1, 1) := by decide +kernel
theorem dX2_ghostIsAsTold_11 : decode cX2_ghostIsAsTold 11 = .ok (.bipush 12, 2) := by decide +kernel
theorem dX2_ghostIsAsTold_13 : decode cX2_ghostIsAsTold 13 = .ok (.if_icmp .ge 54, 3) := by decide +kernel
theorem dX2_ghostIsAsTold_16 : decode cX2_ghostIsAsTold 16 = .ok (.aload_n 0, 1) := by decide +kernel
theorem dX2_ghostIsAsTold_17 : decode cX2_ghostIsAsTold 17 = .ok (.getfield 12, 3) := by decide +kernel
theorem dX2_ghostIsAsTold_20 : decode cX2_ghostIsAsTold 20 = .ok (.invokevirtual 26, 3) := by decide +kernel
theorem dX2_ghostIsAsTold_23 : decode cX2_ghostIsAsTold 23 = .ok (.pop, 1) := by decide +kernel
theorem dX2_ghostIsAsTold_24 : decode cX2_ghostIsAsTold 24 = .ok (.aload_n 0, 1) := by decide +kernel
theorem dX2_ghostIsAsTold_25 : decode cX2_ghostIsAsTold 25 = .ok (.getfield 12, 3) := by decide +kernel
theorem dX2_ghostIsAsTold_28 : decode cX2_ghostIsAsTold 28 = .ok (.aload_n 0, 1) := by decide +kernel
theorem dX2_ghostIsAsTold_29 : decode cX2_ghostIsAsTold 29 = .ok (.getfield 56, 3) := by decide +kernel
theorem dX2_ghostIsAsTold_32 : decode cX2_ghostIsAsTold 32 = .ok (.invokevirtual 73, 3) := by decide +kernel
theorem dX2_ghostIsAsTold_35 : decode cX2_ghostIsAsTold 35 = .ok (.ifCond .eq 24, 3) := by decide +kernel
theorem dX2_ghostIsAsTold_38 : decode cX2_ghostIsAsTold 38 = .ok (.aload_n 0, 1) := by decide +kernel
theorem dX2_ghostIsAsTold_39 : decode cX2_ghostIsAsTold 39 = .ok (.getfield 12, 3) := by decide +kernel
theorem dX2_ghostIsAsTold_42 : decode cX2_ghostIsAsTold 42 = .ok (.getfield 77, 3) := by decide +kernel
theorem dX2_ghostIsAsTold_45 : decode cX2_ghostIsAsTold 45 = .ok (.aload_n 0, 1) := by decide +kernel
theorem dX2_ghostIsAsTold_46 : decode cX2_ghostIsAsTold 46 = .ok (.getfield 56, 3) := by decide +kernel
theorem dX2_ghostIsAsTold_49 : decode cX2_ghostIsAsTold 49 = .ok (.iaload, 1) := by decide +kernel
theorem dX2_ghostIsAsTold_50 : decode cX2_ghostIsAsTold 50 = .ok (.aload_n 0, 1) := by decide +kernel
theorem dX2_ghostIsAsTold_51 : decode cX2_ghostIsAsTold 51 = .ok (.getfield 18, 3) := by decide +kernel
theorem dX2_ghostIsAsTold_54 : decode cX2_ghostIsAsTold 54 = .ok (.iload_n 1, 1) := by decide +kernel
theorem dX2_ghostIsAsTold_55 : decode cX2_ghostIsAsTold 55 = .ok (.iaload, 1) := by decide +kernel
theorem dX2_ghostIsAsTold_56 : decode cX2_ghostIsAsTold 56 = .ok (.if_icmp .eq 5, 3) := by decide +kernel
theorem dX2_ghostIsAsTold_59 : decode cX2_ghostIsAsTold 59 = .ok (.iconst 0, 1) := by decide +kernel
theorem dX2_ghostIsAsTold_60 : decode cX2_ghostIsAsTold 60 = .ok (.ireturn, 1) := by decide +kernel
theorem dX2_ghostIsAsTold_61 : decode cX2_ghostIsAsTold 61 = .ok (.iinc 1 1, 3) := by decide +kernel
theorem dX2_ghostIsAsTold_64 : decode cX2_ghostIsAsTold 64 = .ok (.goto (-62), 3) := by decide +kernel
theorem dX2_ghostIsAsTold_67 : decode cX2_ghostIsAsTold 67 = .ok (.iconst 1, 1) := by decide +kernel
theorem dX2_ghostIsAsTold_68 : decode cX2_ghostIsAsTold 68 = .ok (.ireturn, 1) := by decide +kernel
theorem dX2_kindsOf_0 : decode cX2_kindsOf 0 = .ok (.iconst 0, 1) := by decide +kernel
theorem dX2_kindsOf_1 : decode cX2_kindsOf 1 = .ok (.istore_n 3, 1) := by decide +kernel
theorem dX2_kindsOf_2 : decode cX2_kindsOf 2 = .ok (.iconst 1, 1) := by decide +kernel
theorem dX2_kindsOf_3 : decode cX2_kindsOf 3 = .ok (.istore 4, 2) := by decide +kernel
theorem dX2_kindsOf_5 : decode cX2_kindsOf 5 = .ok (.iload 4, 2) := by decide +kernel
theorem dX2_kindsOf_7 : decode cX2_kindsOf 7 = .ok (.iconst 5, 1) := by decide +kernel
theorem dX2_kindsOf_8 : decode cX2_kindsOf 8 = .ok (.if_icmp .gt 50, 3) := by decide +kernel
theorem dX2_kindsOf_11 : decode cX2_kindsOf 11 = .ok (.aload_n 1, 1) := by decide +kernel
theorem dX2_kindsOf_12 : decode cX2_kindsOf 12 = .ok (.iload_n 2, 1) := by decide +kernel
theorem dX2_kindsOf_13 : decode cX2_kindsOf 13 = .ok (.invokevirtual 73, 3) := by decide +kernel
theorem dX2_kindsOf_16 : decode cX2_kindsOf 16 = .ok (.ifCond .eq 42, 3) := by decide +kernel
theorem dX2_kindsOf_19 : decode cX2_kindsOf 19 = .ok (.aload_n 0, 1) := by decide +kernel
theorem dX2_kindsOf_20 : decode cX2_kindsOf 20 = .ok (.getfield 12, 3) := by decide +kernel
theorem dX2_kindsOf_23 : decode cX2_kindsOf 23 = .ok (.aload_n 1, 1) := by decide +kernel
theorem dX2_kindsOf_24 : decode cX2_kindsOf 24 = .ok (.invokevirtual 22, 3) := by decide +kernel
theorem dX2_kindsOf_27 : decode cX2_kindsOf 27 = .ok (.aload_n 0, 1) := by decide +kernel
theorem dX2_kindsOf_28 : decode cX2_kindsOf 28 = .ok (.getfield 12, 3) := by decide +kernel
theorem dX2_kindsOf_31 : decode cX2_kindsOf 31 = .ok (.getfield 80, 3) := by decide +kernel
theorem dX2_kindsOf_34 : decode cX2_kindsOf 34 = .ok (.iload_n 2, 1) := by decide +kernel
theorem dX2_kindsOf_35 : decode cX2_kindsOf 35 = .ok (.iload 4, 2) := by decide +kernel
theorem dX2_kindsOf_37 : decode cX2_kindsOf 37 = .ok (.iastore, 1) := by decide +kernel
theorem dX2_kindsOf_38 : decode cX2_kindsOf 38 = .ok (.aload_n 0, 1) := by decide +kernel
theorem dX2_kindsOf_39 : decode cX2_kindsOf 39 = .ok (.invokevirtual 83, 3) := by decide +kernel
theorem dX2_kindsOf_42 : decode cX2_kindsOf 42 = .ok (.ifCond .eq 10, 3) := by decide +kernel
theorem dX2_kindsOf_45 : decode cX2_kindsOf 45 = .ok (.iload_n 3, 1) := by decide +kernel
theorem dX2_kindsOf_46 : decode cX2_kindsOf 46 = .ok (.iconst 1, 1) := by decide +kernel
theorem dX2_kindsOf_47 : decode cX2_kindsOf 47 = .ok (.iload 4, 2) := by decide +kernel
theorem dX2_kindsOf_49 : decode cX2_kindsOf 49 = .ok (.ishl, 1) := by decide +kernel
theorem dX2_kindsOf_50 : decode cX2_kindsOf 50 = .ok (.ior, 1) := by decide +kernel
theorem dX2_kindsOf_51 : decode cX2_kindsOf 51 = .ok (.istore_n 3, 1) := by decide +kernel
theorem dX2_kindsOf_52 : decode cX2_kindsOf 52 = .ok (.iinc 4 1, 3) := by decide +kernel
theorem dX2_kindsOf_55 : decode cX2_kindsOf 55 = .ok (.goto (-50), 3) := by decide +kernel
theorem dX2_kindsOf_58 : decode cX2_kindsOf 58 = .ok (.iload_n 3, 1) := by decide +kernel
theorem dX2_kindsOf_59 : decode cX2_kindsOf 59 = .ok (.ireturn, 1) := by decide +kernel
theorem dX2_caresOf_0 : decode cX2_caresOf 0 = .ok (.iconst 0, 1) := by decide +kernel
theorem dX2_caresOf_1 : decode cX2_caresOf 1 = .ok (.istore_n 3, 1) := by decide +kernel
theorem dX2_caresOf_2 : decode cX2_caresOf 2 = .ok (.iconst 1, 1) := by decide +kernel
theorem dX2_caresOf_3 : decode cX2_caresOf 3 = .ok (.istore 4, 2) := by decide +kernel
theorem dX2_caresOf_5 : decode cX2_caresOf 5 = .ok (.iload 4, 2) := by decide +kernel
theorem dX2_caresOf_7 : decode cX2_caresOf 7 = .ok (.bipush 9, 2) := by decide +kernel
theorem dX2_caresOf_9 : decode cX2_caresOf 9 = .ok (.if_icmp .gt 50, 3) := by decide +kernel
theorem dX2_caresOf_12 : decode cX2_caresOf 12 = .ok (.aload_n 1, 1) := by decide +kernel
theorem dX2_caresOf_13 : decode cX2_caresOf 13 = .ok (.iload_n 2, 1) := by decide +kernel
theorem dX2_caresOf_14 : decode cX2_caresOf 14 = .ok (.invokevirtual 73, 3) := by decide +kernel
theorem dX2_caresOf_17 : decode cX2_caresOf 17 = .ok (.ifCond .eq 42, 3) := by decide +kernel
theorem dX2_caresOf_20 : decode cX2_caresOf 20 = .ok (.aload_n 0, 1) := by decide +kernel
theorem dX2_caresOf_21 : decode cX2_caresOf 21 = .ok (.getfield 12, 3) := by decide +kernel
theorem dX2_caresOf_24 : decode cX2_caresOf 24 = .ok (.aload_n 1, 1) := by decide +kernel
theorem dX2_caresOf_25 : decode cX2_caresOf 25 = .ok (.invokevirtual 22, 3) := by decide +kernel
theorem dX2_caresOf_28 : decode cX2_caresOf 28 = .ok (.aload_n 0, 1) := by decide +kernel
theorem dX2_caresOf_29 : decode cX2_caresOf 29 = .ok (.getfield 12, 3) := by decide +kernel
theorem dX2_caresOf_32 : decode cX2_caresOf 32 = .ok (.getfield 87, 3) := by decide +kernel
theorem dX2_caresOf_35 : decode cX2_caresOf 35 = .ok (.iload_n 2, 1) := by decide +kernel
theorem dX2_caresOf_36 : decode cX2_caresOf 36 = .ok (.iload 4, 2) := by decide +kernel
theorem dX2_caresOf_38 : decode cX2_caresOf 38 = .ok (.iastore, 1) := by decide +kernel
theorem dX2_caresOf_39 : decode cX2_caresOf 39 = .ok (.aload_n 0, 1) := by decide +kernel
theorem dX2_caresOf_40 : decode cX2_caresOf 40 = .ok (.invokevirtual 83, 3) := by decide +kernel
theorem dX2_caresOf_43 : decode cX2_caresOf 43 = .ok (.ifCond .eq 10, 3) := by decide +kernel
theorem dX2_caresOf_46 : decode cX2_caresOf 46 = .ok (.iload_n 3, 1) := by decide +kernel
theorem dX2_caresOf_47 : decode cX2_caresOf 47 = .ok (.iconst 1, 1) := by decide +kernel
theorem dX2_caresOf_48 : decode cX2_caresOf 48 = .ok (.iload 4, 2) := by decide +kernel
theorem dX2_caresOf_50 : decode cX2_caresOf 50 = .ok (.ishl, 1) := by decide +kernel
theorem dX2_caresOf_51 : decode cX2_caresOf 51 = .ok (.ior, 1) := by decide +kernel
theorem dX2_caresOf_52 : decode cX2_caresOf 52 = .ok (.istore_n 3, 1) := by decide +kernel
theorem dX2_caresOf_53 : decode cX2_caresOf 53 = .ok (.iinc 4 1, 3) := by decide +kernel
theorem dX2_caresOf_56 : decode cX2_caresOf 56 = .ok (.goto (-51), 3) := by decide +kernel
theorem dX2_caresOf_59 : decode cX2_caresOf 59 = .ok (.iload_n 3, 1) := by decide +kernel
theorem dX2_caresOf_60 : decode cX2_caresOf 60 = .ok (.ireturn, 1) := by decide +kernel
theorem dX2_sumsOfFirst_0 : decode cX2_sumsOfFirst 0 = .ok (.iconst 0, 1) := by decide +kernel
theorem dX2_sumsOfFirst_1 : decode cX2_sumsOfFirst 1 = .ok (.istore_n 2, 1) := by decide +kernel
theorem dX2_sumsOfFirst_2 : decode cX2_sumsOfFirst 2 = .ok (.aload_n 1, 1) := by decide +kernel
theorem dX2_sumsOfFirst_3 : decode cX2_sumsOfFirst 3 = .ok (.iconst 0, 1) := by decide +kernel
theorem dX2_sumsOfFirst_4 : decode cX2_sumsOfFirst 4 = .ok (.invokevirtual 90, 3) := by decide +kernel
theorem dX2_sumsOfFirst_7 : decode cX2_sumsOfFirst 7 = .ok (.istore_n 3, 1) := by decide +kernel
theorem dX2_sumsOfFirst_8 : decode cX2_sumsOfFirst 8 = .ok (.iconst 1, 1) := by decide +kernel
theorem dX2_sumsOfFirst_9 : decode cX2_sumsOfFirst 9 = .ok (.istore 4, 2) := by decide +kernel
theorem dX2_sumsOfFirst_11 : decode cX2_sumsOfFirst 11 = .ok (.iload 4, 2) := by decide +kernel
theorem dX2_sumsOfFirst_13 : decode cX2_sumsOfFirst 13 = .ok (.bipush 30, 2) := by decide +kernel
theorem dX2_sumsOfFirst_15 : decode cX2_sumsOfFirst 15 = .ok (.if_icmp .gt 50, 3) := by decide +kernel
theorem dX2_sumsOfFirst_18 : decode cX2_sumsOfFirst 18 = .ok (.aload_n 1, 1) := by decide +kernel
theorem dX2_sumsOfFirst_19 : decode cX2_sumsOfFirst 19 = .ok (.iload_n 3, 1) := by decide +kernel
theorem dX2_sumsOfFirst_20 : decode cX2_sumsOfFirst 20 = .ok (.invokevirtual 93, 3) := by decide +kernel
theorem dX2_sumsOfFirst_23 : decode cX2_sumsOfFirst 23 = .ok (.ifCond .eq 42, 3) := by decide +kernel
theorem dX2_sumsOfFirst_26 : decode cX2_sumsOfFirst 26 = .ok (.aload_n 0, 1) := by decide +kernel
theorem dX2_sumsOfFirst_27 : decode cX2_sumsOfFirst 27 = .ok (.getfield 12, 3) := by decide +kernel
theorem dX2_sumsOfFirst_30 : decode cX2_sumsOfFirst 30 = .ok (.aload_n 1, 1) := by decide +kernel
theorem dX2_sumsOfFirst_31 : decode cX2_sumsOfFirst 31 = .ok (.invokevirtual 22, 3) := by decide +kernel
theorem dX2_sumsOfFirst_34 : decode cX2_sumsOfFirst 34 = .ok (.aload_n 0, 1) := by decide +kernel
theorem dX2_sumsOfFirst_35 : decode cX2_sumsOfFirst 35 = .ok (.getfield 12, 3) := by decide +kernel
theorem dX2_sumsOfFirst_38 : decode cX2_sumsOfFirst 38 = .ok (.getfield 96, 3) := by decide +kernel
theorem dX2_sumsOfFirst_41 : decode cX2_sumsOfFirst 41 = .ok (.iload_n 3, 1) := by decide +kernel
theorem dX2_sumsOfFirst_42 : decode cX2_sumsOfFirst 42 = .ok (.iload 4, 2) := by decide +kernel
theorem dX2_sumsOfFirst_44 : decode cX2_sumsOfFirst 44 = .ok (.iastore, 1) := by decide +kernel
theorem dX2_sumsOfFirst_45 : decode cX2_sumsOfFirst 45 = .ok (.aload_n 0, 1) := by decide +kernel
theorem dX2_sumsOfFirst_46 : decode cX2_sumsOfFirst 46 = .ok (.invokevirtual 83, 3) := by decide +kernel
theorem dX2_sumsOfFirst_49 : decode cX2_sumsOfFirst 49 = .ok (.ifCond .eq 10, 3) := by decide +kernel
theorem dX2_sumsOfFirst_52 : decode cX2_sumsOfFirst 52 = .ok (.iload_n 2, 1) := by decide +kernel
theorem dX2_sumsOfFirst_53 : decode cX2_sumsOfFirst 53 = .ok (.iconst 1, 1) := by decide +kernel
theorem dX2_sumsOfFirst_54 : decode cX2_sumsOfFirst 54 = .ok (.iload 4, 2) := by decide +kernel
theorem dX2_sumsOfFirst_56 : decode cX2_sumsOfFirst 56 = .ok (.ishl, 1) := by decide +kernel
theorem dX2_sumsOfFirst_57 : decode cX2_sumsOfFirst 57 = .ok (.ior, 1) := by decide +kernel
theorem dX2_sumsOfFirst_58 : decode cX2_sumsOfFirst 58 = .ok (.istore_n 2, 1) := by decide +kernel
theorem dX2_sumsOfFirst_59 : decode cX2_sumsOfFirst 59 = .ok (.iinc 4 1, 3) := by decide +kernel
theorem dX2_sumsOfFirst_62 : decode cX2_sumsOfFirst 62 = .ok (.goto (-51), 3) := by decide +kernel
theorem dX2_sumsOfFirst_65 : decode cX2_sumsOfFirst 65 = .ok (.iload_n 2, 1) := by decide +kernel
theorem dX2_sumsOfFirst_66 : decode cX2_sumsOfFirst 66 = .ok (.ireturn, 1) := by decide +kernel
theorem dX2_absentPapers_0 : decode cX2_absentPapers 0 = .ok (.aload_n 0, 1) := by decide +kernel
theorem dX2_absentPapers_1 : decode cX2_absentPapers 1 = .ok (.getfield 12, 3) := by decide +kernel
theorem dX2_absentPapers_4 : decode cX2_absentPapers 4 = .ok (.aload_n 1, 1) := by decide +kernel
theorem dX2_absentPapers_5 : decode cX2_absentPapers 5 = .ok (.invokevirtual 22, 3) := by decide +kernel
theorem dX2_absentPapers_8 : decode cX2_absentPapers 8 = .ok (.aload_n 0, 1) := by decide +kernel
theorem dX2_absentPapers_9 : decode cX2_absentPapers 9 = .ok (.invokevirtual 83, 3) := by decide +kernel
theorem dX2_absentPapers_12 : decode cX2_absentPapers 12 = .ok (.ifCond .eq 9, 3) := by decide +kernel
theorem dX2_absentPapers_15 : decode cX2_absentPapers 15 = .ok (.sipush 128, 3) := by decide +kernel
theorem dX2_absentPapers_18 : decode cX2_absentPapers 18 = .ok (.goto 4, 3) := by decide +kernel
theorem dX2_absentPapers_21 : decode cX2_absentPapers 21 = .ok (.iconst 0, 1) := by decide +kernel
theorem dX2_absentPapers_22 : decode cX2_absentPapers 22 = .ok (.istore_n 2, 1) := by decide +kernel
theorem dX2_absentPapers_23 : decode cX2_absentPapers 23 = .ok (.iconst 0, 1) := by decide +kernel
theorem dX2_absentPapers_24 : decode cX2_absentPapers 24 = .ok (.istore_n 3, 1) := by decide +kernel
theorem dX2_absentPapers_25 : decode cX2_absentPapers 25 = .ok (.iload_n 3, 1) := by decide +kernel
theorem dX2_absentPapers_26 : decode cX2_absentPapers 26 = .ok (.aload_n 1, 1) := by decide +kernel
theorem dX2_absentPapers_27 : decode cX2_absentPapers 27 = .ok (.getfield 38, 3) := by decide +kernel
theorem dX2_absentPapers_30 : decode cX2_absentPapers 30 = .ok (.if_icmp .ge 48, 3) := by decide +kernel
theorem dX2_absentPapers_33 : decode cX2_absentPapers 33 = .ok (.aload_n 0, 1) := by decide +kernel
theorem dX2_absentPapers_34 : decode cX2_absentPapers 34 = .ok (.getfield 12, 3) := by decide +kernel
theorem dX2_absentPapers_37 : decode cX2_absentPapers 37 = .ok (.aload_n 1, 1) := by decide +kernel
theorem dX2_absentPapers_38 : decode cX2_absentPapers 38 = .ok (.invokevirtual 22, 3) := by decide +kernel
theorem dX2_absentPapers_41 : decode cX2_absentPapers 41 = .ok (.aload_n 0, 1) := by decide +kernel
theorem dX2_absentPapers_42 : decode cX2_absentPapers 42 = .ok (.getfield 12, 3) := by decide +kernel
theorem dX2_absentPapers_45 : decode cX2_absentPapers 45 = .ok (.iload_n 3, 1) := by decide +kernel
theorem dX2_absentPapers_46 : decode cX2_absentPapers 46 = .ok (.invokevirtual 99, 3) := by decide +kernel
theorem dX2_absentPapers_49 : decode cX2_absentPapers 49 = .ok (.istore 4, 2) := by decide +kernel
theorem dX2_absentPapers_51 : decode cX2_absentPapers 51 = .ok (.iload 4, 2) := by decide +kernel
theorem dX2_absentPapers_53 : decode cX2_absentPapers 53 = .ok (.ldc 34, 2) := by decide +kernel
theorem dX2_absentPapers_55 : decode cX2_absentPapers 55 = .ok (.if_icmp .eq 17, 3) := by decide +kernel
theorem dX2_absentPapers_58 : decode cX2_absentPapers 58 = .ok (.aload_n 0, 1) := by decide +kernel
theorem dX2_absentPapers_59 : decode cX2_absentPapers 59 = .ok (.invokevirtual 83, 3) := by decide +kernel
theorem dX2_absentPapers_62 : decode cX2_absentPapers 62 = .ok (.ifCond .eq 10, 3) := by decide +kernel
theorem dX2_absentPapers_65 : decode cX2_absentPapers 65 = .ok (.iload_n 2, 1) := by decide +kernel
theorem dX2_absentPapers_66 : decode cX2_absentPapers 66 = .ok (.iconst 1, 1) := by decide +kernel
theorem dX2_absentPapers_67 : decode cX2_absentPapers 67 = .ok (.iload 4, 2) := by decide +kernel
theorem dX2_absentPapers_69 : decode cX2_absentPapers 69 = .ok (.ishl, 1) := by decide +kernel
theorem dX2_absentPapers_70 : decode cX2_absentPapers 70 = .ok (.ior, 1) := by decide +kernel
theorem dX2_absentPapers_71 : decode cX2_absentPapers 71 = .ok (.istore_n 2, 1) := by decide +kernel
theorem dX2_absentPapers_72 : decode cX2_absentPapers 72 = .ok (.iinc 3 1, 3) := by decide +kernel
theorem dX2_absentPapers_75 : decode cX2_absentPapers 75 = .ok (.goto (-50), 3) := by decide +kernel
theorem dX2_absentPapers_78 : decode cX2_absentPapers 78 = .ok (.iload_n 2, 1) := by decide +kernel
theorem dX2_absentPapers_79 : decode cX2_absentPapers 79 = .ok (.ireturn, 1) := by decide +kernel
theorem dX2_casesAllPaid_0 : decode cX2_casesAllPaid 0 = .ok (.lconst 0, 1) := by decide +kernel
theorem dX2_casesAllPaid_1 : decode cX2_casesAllPaid 1 = .ok (.lstore_n 3, 1) := by decide +kernel
theorem dX2_casesAllPaid_2 : decode cX2_casesAllPaid 2 = .ok (.iconst 0, 1) := by decide +kernel
theorem dX2_casesAllPaid_3 : decode cX2_casesAllPaid 3 = .ok (.istore 5, 2) := by decide +kernel
theorem dX2_casesAllPaid_5 : decode cX2_casesAllPaid 5 = .ok (.iload 5, 2) := by decide +kernel
theorem dX2_casesAllPaid_7 : decode cX2_casesAllPaid 7 = .ok (.sipush 128, 3) := by decide +kernel
theorem dX2_casesAllPaid_10 : decode cX2_casesAllPaid 10 = .ok (.if_icmp .ge 110, 3) := by decide +kernel
theorem dX2_casesAllPaid_13 : decode cX2_casesAllPaid 13 = .ok (.iload 5, 2) := by decide +kernel
theorem dX2_casesAllPaid_15 : decode cX2_casesAllPaid 15 = .ok (.iconst 1, 1) := by decide +kernel
theorem dX2_casesAllPaid_16 : decode cX2_casesAllPaid 16 = .ok (.aload_n 1, 1) := by decide +kernel
theorem dX2_casesAllPaid_17 : decode cX2_casesAllPaid 17 = .ok (.getfield 38, 3) := by decide +kernel
theorem dX2_casesAllPaid_20 : decode cX2_casesAllPaid 20 = .ok (.ishl, 1) := by decide +kernel
theorem dX2_casesAllPaid_21 : decode cX2_casesAllPaid 21 = .ok (.if_icmp .ge 99, 3) := by decide +kernel
theorem dX2_casesAllPaid_24 : decode cX2_casesAllPaid 24 = .ok (.aload_n 0, 1) := by decide +kernel
theorem dX2_casesAllPaid_25 : decode cX2_casesAllPaid 25 = .ok (.getfield 12, 3) := by decide +kernel
theorem dX2_casesAllPaid_28 : decode cX2_casesAllPaid 28 = .ok (.aload_n 1, 1) := by decide +kernel
theorem dX2_casesAllPaid_29 : decode cX2_casesAllPaid 29 = .ok (.invokevirtual 22, 3) := by decide +kernel
theorem dX2_casesAllPaid_32 : decode cX2_casesAllPaid 32 = .ok (.aload_n 1, 1) := by decide +kernel
theorem dX2_casesAllPaid_33 : decode cX2_casesAllPaid 33 = .ok (.getfield 38, 3) := by decide +kernel
theorem dX2_casesAllPaid_36 : decode cX2_casesAllPaid 36 = .ok (.iconst 1, 1) := by decide +kernel
theorem dX2_casesAllPaid_37 : decode cX2_casesAllPaid 37 = .ok (.isub, 1) := by decide +kernel
theorem dX2_casesAllPaid_38 : decode cX2_casesAllPaid 38 = .ok (.istore 6, 2) := by decide +kernel
theorem dX2_casesAllPaid_40 : decode cX2_casesAllPaid 40 = .ok (.iload 6, 2) := by decide +kernel
theorem dX2_casesAllPaid_42 : decode cX2_casesAllPaid 42 = .ok (.ifCond .lt 30, 3) := by decide +kernel
theorem dX2_casesAllPaid_45 : decode cX2_casesAllPaid 45 = .ok (.iload 5, 2) := by decide +kernel
theorem dX2_casesAllPaid_47 : decode cX2_casesAllPaid 47 = .ok (.iload 6, 2) := by decide +kernel
theorem dX2_casesAllPaid_49 : decode cX2_casesAllPaid 49 = .ok (.ishr, 1) := by decide +kernel
theorem dX2_casesAllPaid_50 : decode cX2_casesAllPaid 50 = .ok (.iconst 1, 1) := by decide +kernel
theorem dX2_casesAllPaid_51 : decode cX2_casesAllPaid 51 = .ok (.iand, 1) := by decide +kernel
theorem dX2_casesAllPaid_52 : decode cX2_casesAllPaid 52 = .ok (.iconst 1, 1) := by decide +kernel
theorem dX2_casesAllPaid_53 : decode cX2_casesAllPaid 53 = .ok (.if_icmp .ne 13, 3) := by decide +kernel
theorem dX2_casesAllPaid_56 : decode cX2_casesAllPaid 56 = .ok (.aload_n 0, 1) := by decide +kernel
theorem dX2_casesAllPaid_57 : decode cX2_casesAllPaid 57 = .ok (.getfield 12, 3) := by decide +kernel
theorem dX2_casesAllPaid_60 : decode cX2_casesAllPaid 60 = .ok (.iload 6, 2) := by decide +kernel
theorem dX2_casesAllPaid_62 : decode cX2_casesAllPaid 62 = .ok (.invokevirtual 99, 3) := by decide +kernel
theorem dX2_casesAllPaid_65 : decode cX2_casesAllPaid 65 = .ok (.pop, 1) := by decide +kernel
theorem dX2_casesAllPaid_66 : decode cX2_casesAllPaid 66 = .ok (.iinc 6 (-1), 3) := by decide +kernel
theorem dX2_casesAllPaid_69 : decode cX2_casesAllPaid 69 = .ok (.goto (-29), 3) := by decide +kernel
theorem dX2_casesAllPaid_72 : decode cX2_casesAllPaid 72 = .ok (.aload_n 0, 1) := by decide +kernel
theorem dX2_casesAllPaid_73 : decode cX2_casesAllPaid 73 = .ok (.getfield 12, 3) := by decide +kernel
theorem dX2_casesAllPaid_76 : decode cX2_casesAllPaid 76 = .ok (.getfield 38, 3) := by decide +kernel
theorem dX2_casesAllPaid_79 : decode cX2_casesAllPaid 79 = .ok (.istore 6, 2) := by decide +kernel
theorem dX2_casesAllPaid_81 : decode cX2_casesAllPaid 81 = .ok (.aload_n 0, 1) := by decide +kernel
theorem dX2_casesAllPaid_82 : decode cX2_casesAllPaid 82 = .ok (.invokevirtual 35, 3) := by decide +kernel
theorem dX2_casesAllPaid_85 : decode cX2_casesAllPaid 85 = .ok (.iload 6, 2) := by decide +kernel
theorem dX2_casesAllPaid_87 : decode cX2_casesAllPaid 87 = .ok (.if_icmp .ne 27, 3) := by decide +kernel
theorem dX2_casesAllPaid_90 : decode cX2_casesAllPaid 90 = .ok (.lload_n 3, 1) := by decide +kernel
theorem dX2_casesAllPaid_91 : decode cX2_casesAllPaid 91 = .ok (.iload_n 2, 1) := by decide +kernel
theorem dX2_casesAllPaid_92 : decode cX2_casesAllPaid 92 = .ok (.aload_n 1, 1) := by decide +kernel
theorem dX2_casesAllPaid_93 : decode cX2_casesAllPaid 93 = .ok (.getfield 38, 3) := by decide +kernel
theorem dX2_casesAllPaid_96 : decode cX2_casesAllPaid 96 = .ok (.iload 6, 2) := by decide +kernel
theorem dX2_casesAllPaid_98 : decode cX2_casesAllPaid 98 = .ok (.isub, 1) := by decide +kernel
theorem dX2_casesAllPaid_99 : decode cX2_casesAllPaid 99 = .ok (.invokestatic 102, 3) := by decide +kernel
theorem dX2_casesAllPaid_102 : decode cX2_casesAllPaid 102 = .ok (.bipush 10, 2) := by decide +kernel
theorem dX2_casesAllPaid_104 : decode cX2_casesAllPaid 104 = .ok (.iload_n 2, 1) := by decide +kernel
theorem dX2_casesAllPaid_105 : decode cX2_casesAllPaid 105 = .ok (.isub, 1) := by decide +kernel
theorem dX2_casesAllPaid_106 : decode cX2_casesAllPaid 106 = .ok (.iload 6, 2) := by decide +kernel
theorem dX2_casesAllPaid_108 : decode cX2_casesAllPaid 108 = .ok (.invokestatic 102, 3) := by decide +kernel
theorem dX2_casesAllPaid_111 : decode cX2_casesAllPaid 111 = .ok (.lmul, 1) := by decide +kernel
theorem dX2_casesAllPaid_112 : decode cX2_casesAllPaid 112 = .ok (.ladd, 1) := by decide +kernel
theorem dX2_casesAllPaid_113 : decode cX2_casesAllPaid 113 = .ok (.lstore_n 3, 1) := by decide +kernel
theorem dX2_casesAllPaid_114 : decode cX2_casesAllPaid 114 = .ok (.iinc 5 1, 3) := by decide +kernel
theorem dX2_casesAllPaid_117 : decode cX2_casesAllPaid 117 = .ok (.goto (-112), 3) := by decide +kernel
theorem dX2_casesAllPaid_120 : decode cX2_casesAllPaid 120 = .ok (.lload_n 3, 1) := by decide +kernel
theorem dX2_casesAllPaid_121 : decode cX2_casesAllPaid 121 = .ok (.lreturn, 1) := by decide +kernel
theorem dX2_weeks_0 : decode cX2_weeks 0 = .ok (.iload_n 3, 1) := by decide +kernel
theorem dX2_weeks_1 : decode cX2_weeks 1 = .ok (.i2l, 1) := by decide +kernel
theorem dX2_weeks_2 : decode cX2_weeks 2 = .ok (.lstore 4, 2) := by decide +kernel
theorem dX2_weeks_4 : decode cX2_weeks 4 = .ok (.aload_n 0, 1) := by decide +kernel
theorem dX2_weeks_5 : decode cX2_weeks 5 = .ok (.getfield 12, 3) := by decide +kernel
theorem dX2_weeks_8 : decode cX2_weeks 8 = .ok (.aload_n 1, 1) := by decide +kernel
theorem dX2_weeks_9 : decode cX2_weeks 9 = .ok (.invokevirtual 22, 3) := by decide +kernel
theorem dX2_weeks_12 : decode cX2_weeks 12 = .ok (.iconst 0, 1) := by decide +kernel
theorem dX2_weeks_13 : decode cX2_weeks 13 = .ok (.istore 6, 2) := by decide +kernel
theorem dX2_weeks_15 : decode cX2_weeks 15 = .ok (.iload 6, 2) := by decide +kernel
theorem dX2_weeks_17 : decode cX2_weeks 17 = .ok (.iload_n 2, 1) := by decide +kernel
theorem dX2_weeks_18 : decode cX2_weeks 18 = .ok (.if_icmp .ge 62, 3) := by decide +kernel
theorem dX2_weeks_21 : decode cX2_weeks 21 = .ok (.lload 4, 2) := by decide +kernel
theorem dX2_weeks_23 : decode cX2_weeks 23 = .ok (.ldc2_w 106, 3) := by decide +kernel
theorem dX2_weeks_26 : decode cX2_weeks 26 = .ok (.lmul, 1) := by decide +kernel
theorem dX2_weeks_27 : decode cX2_weeks 27 = .ok (.ldc2_w 108, 3) := by decide +kernel
theorem dX2_weeks_30 : decode cX2_weeks 30 = .ok (.lrem, 1) := by decide +kernel
theorem dX2_weeks_31 : decode cX2_weeks 31 = .ok (.lstore 4, 2) := by decide +kernel
theorem dX2_weeks_33 : decode cX2_weeks 33 = .ok (.aload_n 0, 1) := by decide +kernel
theorem dX2_weeks_34 : decode cX2_weeks 34 = .ok (.getfield 12, 3) := by decide +kernel
theorem dX2_weeks_37 : decode cX2_weeks 37 = .ok (.lload 4, 2) := by decide +kernel
theorem dX2_weeks_39 : decode cX2_weeks 39 = .ok (.ldc2_w 110, 3) := by decide +kernel
theorem dX2_weeks_42 : decode cX2_weeks 42 = .ok (.lrem, 1) := by decide +kernel
theorem dX2_weeks_43 : decode cX2_weeks 43 = .ok (.lconst 0, 1) := by decide +kernel
theorem dX2_weeks_44 : decode cX2_weeks 44 = .ok (.lcmp, 1) := by decide +kernel
theorem dX2_weeks_45 : decode cX2_weeks 45 = .ok (.ifCond .eq 7, 3) := by decide +kernel
theorem dX2_weeks_48 : decode cX2_weeks 48 = .ok (.iconst 1, 1) := by decide +kernel
theorem dX2_weeks_49 : decode cX2_weeks 49 = .ok (.goto 4, 3) := by decide +kernel
theorem dX2_weeks_52 : decode cX2_weeks 52 = .ok (.iconst 0, 1) := by decide +kernel
theorem dX2_weeks_53 : decode cX2_weeks 53 = .ok (.lload 4, 2) := by decide +kernel
theorem dX2_weeks_55 : decode cX2_weeks 55 = .ok (.ldc2_w 112, 3) := by decide +kernel
theorem dX2_weeks_58 : decode cX2_weeks 58 = .ok (.lrem, 1) := by decide +kernel
theorem dX2_weeks_59 : decode cX2_weeks 59 = .ok (.l2i, 1) := by decide +kernel
theorem dX2_weeks_60 : decode cX2_weeks 60 = .ok (.iconst 1, 1) := by decide +kernel
theorem dX2_weeks_61 : decode cX2_weeks 61 = .ok (.iadd, 1) := by decide +kernel
theorem dX2_weeks_62 : decode cX2_weeks 62 = .ok (.invokevirtual 114, 3) := by decide +kernel
theorem dX2_weeks_65 : decode cX2_weeks 65 = .ok (.pop, 1) := by decide +kernel
theorem dX2_weeks_66 : decode cX2_weeks 66 = .ok (.aload_n 0, 1) := by decide +kernel
theorem dX2_weeks_67 : decode cX2_weeks 67 = .ok (.getfield 12, 3) := by decide +kernel
theorem dX2_weeks_70 : decode cX2_weeks 70 = .ok (.invokevirtual 26, 3) := by decide +kernel
theorem dX2_weeks_73 : decode cX2_weeks 73 = .ok (.pop, 1) := by decide +kernel
theorem dX2_weeks_74 : decode cX2_weeks 74 = .ok (.iinc 6 1, 3) := by decide +kernel
theorem dX2_weeks_77 : decode cX2_weeks 77 = .ok (.goto (-62), 3) := by decide +kernel
theorem dX2_weeks_80 : decode cX2_weeks 80 = .ok (.aload_n 0, 1) := by decide +kernel
theorem dX2_weeks_81 : decode cX2_weeks 81 = .ok (.getfield 12, 3) := by decide +kernel
theorem dX2_weeks_84 : decode cX2_weeks 84 = .ok (.areturn, 1) := by decide +kernel
theorem dX3_init_0 : decode cX3_init 0 = .ok (.aload_n 0, 1) := by decide +kernel
theorem dX3_init_1 : decode cX3_init 1 = .ok (.invokespecial 3, 3) := by decide +kernel
theorem dX3_init_4 : decode cX3_init 4 = .ok (.aload_n 0, 1) := by decide +kernel
theorem dX3_init_5 : decode cX3_init 5 = .ok (.bipush 24, 2) := by decide +kernel
theorem dX3_init_7 : decode cX3_init 7 = .ok (.anewarray 9, 3) := by decide +kernel
theorem dX3_init_10 : decode cX3_init 10 = .ok (.putfield 11, 3) := by decide +kernel
theorem dX3_init_13 : decode cX3_init 13 = .ok (.iconst 0, 1) := by decide +kernel
theorem dX3_init_14 : decode cX3_init 14 = .ok (.istore_n 1, 1) := by decide +kernel
theorem dX3_init_15 : decode cX3_init 15 = .ok (.iload_n 1, 1) := by decide +kernel
theorem dX3_init_16 : decode cX3_init 16 = .ok (.bipush 24, 2) := by decide +kernel
theorem dX3_init_18 : decode cX3_init 18 = .ok (.if_icmp .ge 22, 3) := by decide +kernel
theorem dX3_init_21 : decode cX3_init 21 = .ok (.aload_n 0, 1) := by decide +kernel
theorem dX3_init_22 : decode cX3_init 22 = .ok (.getfield 11, 3) := by decide +kernel
theorem dX3_init_25 : decode cX3_init 25 = .ok (.iload_n 1, 1) := by decide +kernel
theorem dX3_init_26 : decode cX3_init 26 = .ok (.new 9, 3) := by decide +kernel
theorem dX3_init_29 : decode cX3_init 29 = .ok (.dup, 1) := by decide +kernel
theorem dX3_init_30 : decode cX3_init 30 = .ok (.invokespecial 17, 3) := by decide +kernel
theorem dX3_init_33 : decode cX3_init 33 = .ok (.aastore, 1) := by decide +kernel
theorem dX3_init_34 : decode cX3_init 34 = .ok (.iinc 1 1, 3) := by decide +kernel
theorem dX3_init_37 : decode cX3_init 37 = .ok (.goto (-22), 3) := by decide +kernel
theorem dX3_init_40 : decode cX3_init 40 = .ok (.return_, 1) := by decide +kernel
theorem dX3_keep_0 : decode cX3_keep 0 = .ok (.aload_n 0, 1) := by decide +kernel
theorem dX3_keep_1 : decode cX3_keep 1 = .ok (.aload_n 0, 1) := by decide +kernel
theorem dX3_keep_2 : decode cX3_keep 2 = .ok (.getfield 18, 3) := by decide +kernel
theorem dX3_keep_5 : decode cX3_keep 5 = .ok (.iconst 1, 1) := by decide +kernel
theorem dX3_keep_6 : decode cX3_keep 6 = .ok (.iadd, 1) := by decide +kernel
theorem dX3_keep_7 : decode cX3_keep 7 = .ok (.bipush 24, 2) := by decide +kernel
theorem dX3_keep_9 : decode cX3_keep 9 = .ok (.irem, 1) := by decide +kernel
theorem dX3_keep_10 : decode cX3_keep 10 = .ok (.putfield 18, 3) := by decide +kernel
theorem dX3_keep_13 : decode cX3_keep 13 = .ok (.aload_n 0, 1) := by decide +kernel
theorem dX3_keep_14 : decode cX3_keep 14 = .ok (.getfield 11, 3) := by decide +kernel
theorem dX3_keep_17 : decode cX3_keep 17 = .ok (.aload_n 0, 1) := by decide +kernel
theorem dX3_keep_18 : decode cX3_keep 18 = .ok (.getfield 18, 3) := by decide +kernel
theorem dX3_keep_21 : decode cX3_keep 21 = .ok (.aaload, 1) := by decide +kernel
theorem dX3_keep_22 : decode cX3_keep 22 = .ok (.aload_n 1, 1) := by decide +kernel
theorem dX3_keep_23 : decode cX3_keep 23 = .ok (.invokevirtual 22, 3) := by decide +kernel
theorem dX3_keep_26 : decode cX3_keep 26 = .ok (.aload_n 0, 1) := by decide +kernel
theorem dX3_keep_27 : decode cX3_keep 27 = .ok (.aload_n 0, 1) := by decide +kernel
theorem dX3_keep_28 : decode cX3_keep 28 = .ok (.getfield 26, 3) := by decide +kernel
theorem dX3_keep_31 : decode cX3_keep 31 = .ok (.iconst 1, 1) := by decide +kernel
theorem dX3_keep_32 : decode cX3_keep 32 = .ok (.iadd, 1) := by decide +kernel
theorem dX3_keep_33 : decode cX3_keep 33 = .ok (.bipush 24, 2) := by decide +kernel
theorem dX3_keep_35 : decode cX3_keep 35 = .ok (.invokestatic 29, 3) := by decide +kernel
theorem dX3_keep_38 : decode cX3_keep 38 = .ok (.putfield 26, 3) := by decide +kernel
theorem dX3_keep_41 : decode cX3_keep 41 = .ok (.return_, 1) := by decide +kernel
theorem dX3_goBack_0 : decode cX3_goBack 0 = .ok (.aload_n 0, 1) := by decide +kernel
theorem dX3_goBack_1 : decode cX3_goBack 1 = .ok (.getfield 26, 3) := by decide +kernel
theorem dX3_goBack_4 : decode cX3_goBack 4 = .ok (.ifCond .ne 4, 3) := by decide +kernel
theorem dX3_goBack_7 : decode cX3_goBack 7 = .ok (.return_, 1) := by decide +kernel
theorem dX3_goBack_8 : decode cX3_goBack 8 = .ok (.aload_n 1, 1) := by decide +kernel
theorem dX3_goBack_9 : decode cX3_goBack 9 = .ok (.aload_n 0, 1) := by decide +kernel
theorem dX3_goBack_10 : decode cX3_goBack 10 = .ok (.getfield 11, 3) := by decide +kernel
theorem dX3_goBack_13 : decode cX3_goBack 13 = .ok (.aload_n 0, 1) := by decide +kernel
theorem dX3_goBack_14 : decode cX3_goBack 14 = .ok (.getfield 18, 3) := by decide +kernel
theorem dX3_goBack_17 : decode cX3_goBack 17 = .ok (.aaload, 1) := by decide +kernel
theorem dX3_goBack_18 : decode cX3_goBack 18 = .ok (.invokevirtual 22, 3) := by decide +kernel
theorem dX3_goBack_21 : decode cX3_goBack 21 = .ok (.aload_n 0, 1) := by decide +kernel
theorem dX3_goBack_22 : decode cX3_goBack 22 = .ok (.aload_n 0, 1) := by decide +kernel
theorem dX3_goBack_23 : decode cX3_goBack 23 = .ok (.getfield 18, 3) := by decide +kernel
theorem dX3_goBack_26 : decode cX3_goBack 26 = .ok (.bipush 24, 2) := by decide +kernel
theorem dX3_goBack_28 : decode cX3_goBack 28 = .ok (.iadd, 1) := by decide +kernel
theorem dX3_goBack_29 : decode cX3_goBack 29 = .ok (.iconst 1, 1) := by decide +kernel
theorem dX3_goBack_30 : decode cX3_goBack 30 = .ok (.isub, 1) := by decide +kernel
theorem dX3_goBack_31 : decode cX3_goBack 31 = .ok (.bipush 24, 2) := by decide +kernel
theorem dX3_goBack_33 : decode cX3_goBack 33 = .ok (.irem, 1) := by decide +kernel
theorem dX3_goBack_34 : decode cX3_goBack 34 = .ok (.putfield 18, 3) := by decide +kernel
theorem dX3_goBack_37 : decode cX3_goBack 37 = .ok (.aload_n 0, 1) := by decide +kernel
theorem dX3_goBack_38 : decode cX3_goBack 38 = .ok (.dup, 1) := by decide +kernel
theorem dX3_goBack_39 : decode cX3_goBack 39 = .ok (.getfield 26, 3) := by decide +kernel
theorem dX3_goBack_42 : decode cX3_goBack 42 = .ok (.iconst 1, 1) := by decide +kernel
theorem dX3_goBack_43 : decode cX3_goBack 43 = .ok (.isub, 1) := by decide +kernel
theorem dX3_goBack_44 : decode cX3_goBack 44 = .ok (.putfield 26, 3) := by decide +kernel
theorem dX3_goBack_47 : decode cX3_goBack 47 = .ok (.return_, 1) := by decide +kernel
theorem dX3_clear_0 : decode cX3_clear 0 = .ok (.aload_n 0, 1) := by decide +kernel
theorem dX3_clear_1 : decode cX3_clear 1 = .ok (.iconst 0, 1) := by decide +kernel
theorem dX3_clear_2 : decode cX3_clear 2 = .ok (.putfield 26, 3) := by decide +kernel
theorem dX3_clear_5 : decode cX3_clear 5 = .ok (.return_, 1) := by decide +kernel
theorem dX4_init_0 : decode cX4_init 0 = .ok (.aload_n 0, 1) := by decide +kernel
theorem dX4_init_1 : decode cX4_init 1 = .ok (.invokespecial 3, 3) := by decide +kernel
theorem dX4_init_4 : decode cX4_init 4 = .ok (.aload_n 0, 1) := by decide +kernel
theorem dX4_init_5 : decode cX4_init 5 = .ok (.bipush 8, 2) := by decide +kernel
theorem dX4_init_7 : decode cX4_init 7 = .ok (.newarray .int, 2) := by decide +kernel
theorem dX4_init_9 : decode cX4_init 9 = .ok (.dup, 1) := by decide +kernel
theorem dX4_init_10 : decode cX4_init 10 = .ok (.iconst 0, 1) := by decide +kernel
theorem dX4_init_11 : decode cX4_init 11 = .ok (.ldc 9, 2) := by decide +kernel
theorem dX4_init_13 : decode cX4_init 13 = .ok (.iastore, 1) := by decide +kernel
theorem dX4_init_14 : decode cX4_init 14 = .ok (.dup, 1) := by decide +kernel
theorem dX4_init_15 : decode cX4_init 15 = .ok (.iconst 1, 1) := by decide +kernel
theorem dX4_init_16 : decode cX4_init 16 = .ok (.ldc 9, 2) := by decide +kernel
theorem dX4_init_18 : decode cX4_init 18 = .ok (.iastore, 1) := by decide +kernel
theorem dX4_init_19 : decode cX4_init 19 = .ok (.dup, 1) := by decide +kernel
theorem dX4_init_20 : decode cX4_init 20 = .ok (.iconst 2, 1) := by decide +kernel
theorem dX4_init_21 : decode cX4_init 21 = .ok (.ldc 9, 2) := by decide +kernel
theorem dX4_init_23 : decode cX4_init 23 = .ok (.iastore, 1) := by decide +kernel
theorem dX4_init_24 : decode cX4_init 24 = .ok (.dup, 1) := by decide +kernel
theorem dX4_init_25 : decode cX4_init 25 = .ok (.iconst 3, 1) := by decide +kernel
theorem dX4_init_26 : decode cX4_init 26 = .ok (.ldc 9, 2) := by decide +kernel
theorem dX4_init_28 : decode cX4_init 28 = .ok (.iastore, 1) := by decide +kernel
theorem dX4_init_29 : decode cX4_init 29 = .ok (.dup, 1) := by decide +kernel
theorem dX4_init_30 : decode cX4_init 30 = .ok (.iconst 4, 1) := by decide +kernel
theorem dX4_init_31 : decode cX4_init 31 = .ok (.ldc 9, 2) := by decide +kernel
theorem dX4_init_33 : decode cX4_init 33 = .ok (.iastore, 1) := by decide +kernel
theorem dX4_init_34 : decode cX4_init 34 = .ok (.dup, 1) := by decide +kernel
theorem dX4_init_35 : decode cX4_init 35 = .ok (.iconst 5, 1) := by decide +kernel
theorem dX4_init_36 : decode cX4_init 36 = .ok (.ldc 9, 2) := by decide +kernel
theorem dX4_init_38 : decode cX4_init 38 = .ok (.iastore, 1) := by decide +kernel
theorem dX4_init_39 : decode cX4_init 39 = .ok (.dup, 1) := by decide +kernel
theorem dX4_init_40 : decode cX4_init 40 = .ok (.bipush 6, 2) := by decide +kernel
theorem dX4_init_42 : decode cX4_init 42 = .ok (.ldc 9, 2) := by decide +kernel
theorem dX4_init_44 : decode cX4_init 44 = .ok (.iastore, 1) := by decide +kernel
theorem dX4_init_45 : decode cX4_init 45 = .ok (.dup, 1) := by decide +kernel
theorem dX4_init_46 : decode cX4_init 46 = .ok (.bipush 7, 2) := by decide +kernel
theorem dX4_init_48 : decode cX4_init 48 = .ok (.ldc 9, 2) := by decide +kernel
theorem dX4_init_50 : decode cX4_init 50 = .ok (.iastore, 1) := by decide +kernel
theorem dX4_init_51 : decode cX4_init 51 = .ok (.putfield 10, 3) := by decide +kernel
theorem dX4_init_54 : decode cX4_init 54 = .ok (.aload_n 0, 1) := by decide +kernel
theorem dX4_init_55 : decode cX4_init 55 = .ok (.bipush 8, 2) := by decide +kernel
theorem dX4_init_57 : decode cX4_init 57 = .ok (.newarray .int, 2) := by decide +kernel
theorem dX4_init_59 : decode cX4_init 59 = .ok (.putfield 16, 3) := by decide +kernel
theorem dX4_init_62 : decode cX4_init 62 = .ok (.aload_n 0, 1) := by decide +kernel
theorem dX4_init_63 : decode cX4_init 63 = .ok (.sipush 320, 3) := by decide +kernel
theorem dX4_init_66 : decode cX4_init 66 = .ok (.newarray .int, 2) := by decide +kernel
theorem dX4_init_68 : decode cX4_init 68 = .ok (.putfield 19, 3) := by decide +kernel
theorem dX4_init_71 : decode cX4_init 71 = .ok (.return_, 1) := by decide +kernel
theorem dX4_isMissing_0 : decode cX4_isMissing 0 = .ok (.iload_n 1, 1) := by decide +kernel
theorem dX4_isMissing_1 : decode cX4_isMissing 1 = .ok (.invokestatic 22, 3) := by decide +kernel
theorem dX4_isMissing_4 : decode cX4_isMissing 4 = .ok (.ifCond .eq 14, 3) := by decide +kernel
theorem dX4_isMissing_7 : decode cX4_isMissing 7 = .ok (.aload_n 0, 1) := by decide +kernel
theorem dX4_isMissing_8 : decode cX4_isMissing 8 = .ok (.getfield 10, 3) := by decide +kernel
theorem dX4_isMissing_11 : decode cX4_isMissing 11 = .ok (.iload_n 1, 1) := by decide +kernel
theorem dX4_isMissing_12 : decode cX4_isMissing 12 = .ok (.iaload, 1) := by decide +kernel
theorem dX4_isMissing_13 : decode cX4_isMissing 13 = .ok (.ldc 9, 2) := by decide +kernel
theorem dX4_isMissing_15 : decode cX4_isMissing 15 = .ok (.if_icmp .ne 7, 3) := by decide +kernel
theorem dX4_isMissing_18 : decode cX4_isMissing 18 = .ok (.iconst 1, 1) := by decide +kernel
theorem dX4_isMissing_19 : decode cX4_isMissing 19 = .ok (.goto 4, 3) := by decide +kernel
theorem dX4_isMissing_22 : decode cX4_isMissing 22 = .ok (.iconst 0, 1) := by decide +kernel
theorem dX4_isMissing_23 : decode cX4_isMissing 23 = .ok (.ireturn, 1) := by decide +kernel
theorem dX4_laneOf_0 : decode cX4_laneOf 0 = .ok (.iload_n 1, 1) := by decide +kernel
theorem dX4_laneOf_1 : decode cX4_laneOf 1 = .ok (.invokestatic 22, 3) := by decide +kernel
theorem dX4_laneOf_4 : decode cX4_laneOf 4 = .ok (.ifCond .eq 12, 3) := by decide +kernel
theorem dX4_laneOf_7 : decode cX4_laneOf 7 = .ok (.aload_n 0, 1) := by decide +kernel
theorem dX4_laneOf_8 : decode cX4_laneOf 8 = .ok (.getfield 10, 3) := by decide +kernel
theorem dX4_laneOf_11 : decode cX4_laneOf 11 = .ok (.iload_n 1, 1) := by decide +kernel
theorem dX4_laneOf_12 : decode cX4_laneOf 12 = .ok (.iaload, 1) := by decide +kernel
theorem dX4_laneOf_13 : decode cX4_laneOf 13 = .ok (.goto 5, 3) := by decide +kernel
theorem dX4_laneOf_16 : decode cX4_laneOf 16 = .ok (.ldc 9, 2) := by decide +kernel
theorem dX4_laneOf_18 : decode cX4_laneOf 18 = .ok (.ireturn, 1) := by decide +kernel
theorem dX4_hasSpan_0 : decode cX4_hasSpan 0 = .ok (.iload_n 1, 1) := by decide +kernel
theorem dX4_hasSpan_1 : decode cX4_hasSpan 1 = .ok (.invokestatic 22, 3) := by decide +kernel
theorem dX4_hasSpan_4 : decode cX4_hasSpan 4 = .ok (.ifCond .eq 27, 3) := by decide +kernel
theorem dX4_hasSpan_7 : decode cX4_hasSpan 7 = .ok (.iload_n 2, 1) := by decide +kernel
theorem dX4_hasSpan_8 : decode cX4_hasSpan 8 = .ok (.ifCond .lt 23, 3) := by decide +kernel
theorem dX4_hasSpan_11 : decode cX4_hasSpan 11 = .ok (.iload_n 3, 1) := by decide +kernel
theorem dX4_hasSpan_12 : decode cX4_hasSpan 12 = .ok (.ifCond .lt 19, 3) := by decide +kernel
theorem dX4_hasSpan_15 : decode cX4_hasSpan 15 = .ok (.iload_n 2, 1) := by decide +kernel
theorem dX4_hasSpan_16 : decode cX4_hasSpan 16 = .ok (.aload_n 0, 1) := by decide +kernel
theorem dX4_hasSpan_17 : decode cX4_hasSpan 17 = .ok (.getfield 16, 3) := by decide +kernel
theorem dX4_hasSpan_20 : decode cX4_hasSpan 20 = .ok (.iload_n 1, 1) := by decide +kernel
theorem dX4_hasSpan_21 : decode cX4_hasSpan 21 = .ok (.iaload, 1) := by decide +kernel
theorem dX4_hasSpan_22 : decode cX4_hasSpan 22 = .ok (.iload_n 3, 1) := by decide +kernel
theorem dX4_hasSpan_23 : decode cX4_hasSpan 23 = .ok (.isub, 1) := by decide +kernel
theorem dX4_hasSpan_24 : decode cX4_hasSpan 24 = .ok (.if_icmp .gt 7, 3) := by decide +kernel
theorem dX4_hasSpan_27 : decode cX4_hasSpan 27 = .ok (.iconst 1, 1) := by decide +kernel
theorem dX4_hasSpan_28 : decode cX4_hasSpan 28 = .ok (.goto 4, 3) := by decide +kernel
theorem dX4_hasSpan_31 : decode cX4_hasSpan 31 = .ok (.iconst 0, 1) := by decide +kernel
theorem dX4_hasSpan_32 : decode cX4_hasSpan 32 = .ok (.ireturn, 1) := by decide +kernel
theorem dX4_findingOf_0 : decode cX4_findingOf 0 = .ok (.aload_n 0, 1) := by decide +kernel
theorem dX4_findingOf_1 : decode cX4_findingOf 1 = .ok (.iload_n 1, 1) := by decide +kernel
theorem dX4_findingOf_2 : decode cX4_findingOf 2 = .ok (.invokevirtual 26, 3) := by decide +kernel
theorem dX4_findingOf_5 : decode cX4_findingOf 5 = .ok (.ifCond .eq 5, 3) := by decide +kernel
theorem dX4_findingOf_8 : decode cX4_findingOf 8 = .ok (.iconst 1, 1) := by decide +kernel
theorem dX4_findingOf_9 : decode cX4_findingOf 9 = .ok (.ireturn, 1) := by decide +kernel
theorem dX4_findingOf_10 : decode cX4_findingOf 10 = .ok (.aload_n 0, 1) := by decide +kernel
theorem dX4_findingOf_11 : decode cX4_findingOf 11 = .ok (.iload_n 1, 1) := by decide +kernel
theorem dX4_findingOf_12 : decode cX4_findingOf 12 = .ok (.iload_n 2, 1) := by decide +kernel
theorem dX4_findingOf_13 : decode cX4_findingOf 13 = .ok (.iload_n 3, 1) := by decide +kernel
theorem dX4_findingOf_14 : decode cX4_findingOf 14 = .ok (.invokevirtual 29, 3) := by decide +kernel
theorem dX4_findingOf_17 : decode cX4_findingOf 17 = .ok (.ifCond .eq 7, 3) := by decide +kernel
theorem dX4_findingOf_20 : decode cX4_findingOf 20 = .ok (.iconst 0, 1) := by decide +kernel
theorem dX4_findingOf_21 : decode cX4_findingOf 21 = .ok (.goto 4, 3) := by decide +kernel
theorem dX4_findingOf_24 : decode cX4_findingOf 24 = .ok (.iconst 2, 1) := by decide +kernel
theorem dX4_findingOf_25 : decode cX4_findingOf 25 = .ok (.ireturn, 1) := by decide +kernel
theorem dX4_make_0 : decode cX4_make 0 = .ok (.iload_n 1, 1) := by decide +kernel
theorem dX4_make_1 : decode cX4_make 1 = .ok (.invokestatic 22, 3) := by decide +kernel
theorem dX4_make_4 : decode cX4_make 4 = .ok (.ifCond .eq 13, 3) := by decide +kernel
theorem dX4_make_7 : decode cX4_make 7 = .ok (.iload_n 3, 1) := by decide +kernel
theorem dX4_make_8 : decode cX4_make 8 = .ok (.ifCond .lt 9, 3) := by decide +kernel
theorem dX4_make_11 : decode cX4_make 11 = .ok (.iload_n 3, 1) := by decide +kernel
theorem dX4_make_12 : decode cX4_make 12 = .ok (.bipush 40, 2) := by decide +kernel
theorem dX4_make_14 : decode cX4_make 14 = .ok (.if_icmp .le 4, 3) := by decide +kernel
theorem dX4_make_17 : decode cX4_make 17 = .ok (.return_, 1) := by decide +kernel
theorem dX4_make_18 : decode cX4_make 18 = .ok (.aload_n 0, 1) := by decide +kernel
theorem dX4_make_19 : decode cX4_make 19 = .ok (.getfield 10, 3) := by decide +kernel
theorem dX4_make_22 : decode cX4_make 22 = .ok (.iload_n 1, 1) := by decide +kernel
theorem dX4_make_23 : decode cX4_make 23 = .ok (.iload_n 2, 1) := by decide +kernel
theorem dX4_make_24 : decode cX4_make 24 = .ok (.iastore, 1) := by decide +kernel
theorem dX4_make_25 : decode cX4_make 25 = .ok (.aload_n 0, 1) := by decide +kernel
theorem dX4_make_26 : decode cX4_make 26 = .ok (.getfield 16, 3) := by decide +kernel
theorem dX4_make_29 : decode cX4_make 29 = .ok (.iload_n 1, 1) := by decide +kernel
theorem dX4_make_30 : decode cX4_make 30 = .ok (.iload_n 3, 1) := by decide +kernel
theorem dX4_make_31 : decode cX4_make 31 = .ok (.iastore, 1) := by decide +kernel
theorem dX4_make_32 : decode cX4_make 32 = .ok (.iconst 0, 1) := by decide +kernel
theorem dX4_make_33 : decode cX4_make 33 = .ok (.istore 4, 2) := by decide +kernel
theorem dX4_make_35 : decode cX4_make 35 = .ok (.iload 4, 2) := by decide +kernel
theorem dX4_make_37 : decode cX4_make 37 = .ok (.iload_n 3, 1) := by decide +kernel
theorem dX4_make_38 : decode cX4_make 38 = .ok (.if_icmp .ge 22, 3) := by decide +kernel
theorem dX4_make_41 : decode cX4_make 41 = .ok (.aload_n 0, 1) := by decide +kernel
theorem dX4_make_42 : decode cX4_make 42 = .ok (.getfield 19, 3) := by decide +kernel
theorem dX4_make_45 : decode cX4_make 45 = .ok (.iload_n 1, 1) := by decide +kernel
theorem dX4_make_46 : decode cX4_make 46 = .ok (.bipush 40, 2) := by decide +kernel
theorem dX4_make_48 : decode cX4_make 48 = .ok (.imul, 1) := by decide +kernel
theorem dX4_make_49 : decode cX4_make 49 = .ok (.iload 4, 2) := by decide +kernel
theorem dX4_make_51 : decode cX4_make 51 = .ok (.iadd, 1) := by decide +kernel
theorem dX4_make_52 : decode cX4_make 52 = .ok (.iconst 0, 1) := by decide +kernel
theorem dX4_make_53 : decode cX4_make 53 = .ok (.iastore, 1) := by decide +kernel
theorem dX4_make_54 : decode cX4_make 54 = .ok (.iinc 4 1, 3) := by decide +kernel
theorem dX4_make_57 : decode cX4_make 57 = .ok (.goto (-22), 3) := by decide +kernel
theorem dX4_make_60 : decode cX4_make 60 = .ok (.return_, 1) := by decide +kernel
theorem dX4_put_0 : decode cX4_put 0 = .ok (.aload_n 0, 1) := by decide +kernel
theorem dX4_put_1 : decode cX4_put 1 = .ok (.iload_n 1, 1) := by decide +kernel
theorem dX4_put_2 : decode cX4_put 2 = .ok (.iload_n 2, 1) := by decide +kernel
theorem dX4_put_3 : decode cX4_put 3 = .ok (.iconst 1, 1) := by decide +kernel
theorem dX4_put_4 : decode cX4_put 4 = .ok (.invokevirtual 29, 3) := by decide +kernel
theorem dX4_put_7 : decode cX4_put 7 = .ok (.ifCond .ne 5, 3) := by decide +kernel
theorem dX4_put_10 : decode cX4_put 10 = .ok (.iconst 0, 1) := by decide +kernel
theorem dX4_put_11 : decode cX4_put 11 = .ok (.ireturn, 1) := by decide +kernel
theorem dX4_put_12 : decode cX4_put 12 = .ok (.iload_n 3, 1) := by decide +kernel
theorem dX4_put_13 : decode cX4_put 13 = .ok (.istore 4, 2) := by decide +kernel
theorem dX4_put_15 : decode cX4_put 15 = .ok (.aload_n 0, 1) := by decide +kernel
theorem dX4_put_16 : decode cX4_put 16 = .ok (.getfield 10, 3) := by decide +kernel
theorem dX4_put_19 : decode cX4_put 19 = .ok (.iload_n 1, 1) := by decide +kernel
theorem dX4_put_20 : decode cX4_put 20 = .ok (.iaload, 1) := by decide +kernel
theorem dX4_put_21 : decode cX4_put 21 = .ok (.ifCond .ne 10, 3) := by decide +kernel
theorem dX4_put_24 : decode cX4_put 24 = .ok (.iload_n 3, 1) := by decide +kernel
theorem dX4_put_25 : decode cX4_put 25 = .ok (.i2b, 1) := by decide +kernel
theorem dX4_put_26 : decode cX4_put 26 = .ok (.istore 4, 2) := by decide +kernel
theorem dX4_put_28 : decode cX4_put 28 = .ok (.goto 17, 3) := by decide +kernel
theorem dX4_put_31 : decode cX4_put 31 = .ok (.aload_n 0, 1) := by decide +kernel
theorem dX4_put_32 : decode cX4_put 32 = .ok (.getfield 10, 3) := by decide +kernel
theorem dX4_put_35 : decode cX4_put 35 = .ok (.iload_n 1, 1) := by decide +kernel
theorem dX4_put_36 : decode cX4_put 36 = .ok (.iaload, 1) := by decide +kernel
theorem dX4_put_37 : decode cX4_put 37 = .ok (.iconst 1, 1) := by decide +kernel
theorem dX4_put_38 : decode cX4_put 38 = .ok (.if_icmp .ne 7, 3) := by decide +kernel
theorem dX4_put_41 : decode cX4_put 41 = .ok (.iload_n 3, 1) := by decide +kernel
theorem dX4_put_42 : decode cX4_put 42 = .ok (.i2s, 1) := by decide +kernel
theorem dX4_put_43 : decode cX4_put 43 = .ok (.istore 4, 2) := by decide +kernel
theorem dX4_put_45 : decode cX4_put 45 = .ok (.aload_n 0, 1) := by decide +kernel
theorem dX4_put_46 : decode cX4_put 46 = .ok (.getfield 19, 3) := by decide +kernel
theorem dX4_put_49 : decode cX4_put 49 = .ok (.iload_n 1, 1) := by decide +kernel
theorem dX4_put_50 : decode cX4_put 50 = .ok (.bipush 40, 2) := by decide +kernel
theorem dX4_put_52 : decode cX4_put 52 = .ok (.imul, 1) := by decide +kernel
theorem dX4_put_53 : decode cX4_put 53 = .ok (.iload_n 2, 1) := by decide +kernel
theorem dX4_put_54 : decode cX4_put 54 = .ok (.iadd, 1) := by decide +kernel
theorem dX4_put_55 : decode cX4_put 55 = .ok (.iload 4, 2) := by decide +kernel
theorem dX4_put_57 : decode cX4_put 57 = .ok (.iastore, 1) := by decide +kernel
theorem dX4_put_58 : decode cX4_put 58 = .ok (.iload 4, 2) := by decide +kernel
theorem dX4_put_60 : decode cX4_put 60 = .ok (.ireturn, 1) := by decide +kernel
theorem dX4_itemAt_0 : decode cX4_itemAt 0 = .ok (.aload_n 0, 1) := by decide +kernel
theorem dX4_itemAt_1 : decode cX4_itemAt 1 = .ok (.iload_n 1, 1) := by decide +kernel
theorem dX4_itemAt_2 : decode cX4_itemAt 2 = .ok (.iload_n 2, 1) := by decide +kernel
theorem dX4_itemAt_3 : decode cX4_itemAt 3 = .ok (.iconst 1, 1) := by decide +kernel
theorem dX4_itemAt_4 : decode cX4_itemAt 4 = .ok (.invokevirtual 29, 3) := by decide +kernel
theorem dX4_itemAt_7 : decode cX4_itemAt 7 = .ok (.ifCond .eq 17, 3) := by decide +kernel
theorem dX4_itemAt_10 : decode cX4_itemAt 10 = .ok (.aload_n 0, 1) := by decide +kernel
theorem dX4_itemAt_11 : decode cX4_itemAt 11 = .ok (.getfield 19, 3) := by decide +kernel
theorem dX4_itemAt_14 : decode cX4_itemAt 14 = .ok (.iload_n 1, 1) := by decide +kernel
theorem dX4_itemAt_15 : decode cX4_itemAt 15 = .ok (.bipush 40, 2) := by decide +kernel
theorem dX4_itemAt_17 : decode cX4_itemAt 17 = .ok (.imul, 1) := by decide +kernel
theorem dX4_itemAt_18 : decode cX4_itemAt 18 = .ok (.iload_n 2, 1) := by decide +kernel
theorem dX4_itemAt_19 : decode cX4_itemAt 19 = .ok (.iadd, 1) := by decide +kernel
theorem dX4_itemAt_20 : decode cX4_itemAt 20 = .ok (.iaload, 1) := by decide +kernel
theorem dX4_itemAt_21 : decode cX4_itemAt 21 = .ok (.goto 5, 3) := by decide +kernel
theorem dX4_itemAt_24 : decode cX4_itemAt 24 = .ok (.ldc 9, 2) := by decide +kernel
theorem dX4_itemAt_26 : decode cX4_itemAt 26 = .ok (.ireturn, 1) := by decide +kernel
theorem dX4_move_0 : decode cX4_move 0 = .ok (.aload_n 0, 1) := by decide +kernel
theorem dX4_move_1 : decode cX4_move 1 = .ok (.iload_n 1, 1) := by decide +kernel
theorem dX4_move_2 : decode cX4_move 2 = .ok (.iload_n 2, 1) := by decide +kernel
theorem dX4_move_3 : decode cX4_move 3 = .ok (.iload 5, 2) := by decide +kernel
theorem dX4_move_5 : decode cX4_move 5 = .ok (.invokevirtual 29, 3) := by decide +kernel
theorem dX4_move_8 : decode cX4_move 8 = .ok (.ifCond .eq 41, 3) := by decide +kernel
theorem dX4_move_11 : decode cX4_move 11 = .ok (.aload_n 0, 1) := by decide +kernel
theorem dX4_move_12 : decode cX4_move 12 = .ok (.iload_n 3, 1) := by decide +kernel
theorem dX4_move_13 : decode cX4_move 13 = .ok (.iload 4, 2) := by decide +kernel
theorem dX4_move_15 : decode cX4_move 15 = .ok (.iload 5, 2) := by decide +kernel
theorem dX4_move_17 : decode cX4_move 17 = .ok (.invokevirtual 29, 3) := by decide +kernel
theorem dX4_move_20 : decode cX4_move 20 = .ok (.ifCond .eq 29, 3) := by decide +kernel
theorem dX4_move_23 : decode cX4_move 23 = .ok (.aload_n 0, 1) := by decide +kernel
theorem dX4_move_24 : decode cX4_move 24 = .ok (.getfield 19, 3) := by decide +kernel
theorem dX4_move_27 : decode cX4_move 27 = .ok (.iload_n 1, 1) := by decide +kernel
theorem dX4_move_28 : decode cX4_move 28 = .ok (.bipush 40, 2) := by decide +kernel
theorem dX4_move_30 : decode cX4_move 30 = .ok (.imul, 1) := by decide +kernel
theorem dX4_move_31 : decode cX4_move 31 = .ok (.iload_n 2, 1) := by decide +kernel
theorem dX4_move_32 : decode cX4_move 32 = .ok (.iadd, 1) := by decide +kernel
theorem dX4_move_33 : decode cX4_move 33 = .ok (.aload_n 0, 1) := by decide +kernel
theorem dX4_move_34 : decode cX4_move 34 = .ok (.getfield 19, 3) := by decide +kernel
theorem dX4_move_37 : decode cX4_move 37 = .ok (.iload_n 3, 1) := by decide +kernel
theorem dX4_move_38 : decode cX4_move 38 = .ok (.bipush 40, 2) := by decide +kernel
theorem dX4_move_40 : decode cX4_move 40 = .ok (.imul, 1) := by decide +kernel
theorem dX4_move_41 : decode cX4_move 41 = .ok (.iload 4, 2) := by decide +kernel
theorem dX4_move_43 : decode cX4_move 43 = .ok (.iadd, 1) := by decide +kernel
theorem dX4_move_44 : decode cX4_move 44 = .ok (.iload 5, 2) := by decide +kernel
theorem dX4_move_46 : decode cX4_move 46 = .ok (.invokestatic 33, 3) := by decide +kernel
theorem dX4_move_49 : decode cX4_move 49 = .ok (.return_, 1) := by decide +kernel
theorem dX4_remove_0 : decode cX4_remove 0 = .ok (.aload_n 0, 1) := by decide +kernel
theorem dX4_remove_1 : decode cX4_remove 1 = .ok (.iload_n 1, 1) := by decide +kernel
theorem dX4_remove_2 : decode cX4_remove 2 = .ok (.invokevirtual 26, 3) := by decide +kernel
theorem dX4_remove_5 : decode cX4_remove 5 = .ok (.ifCond .eq 5, 3) := by decide +kernel
theorem dX4_remove_8 : decode cX4_remove 8 = .ok (.iconst 0, 1) := by decide +kernel
theorem dX4_remove_9 : decode cX4_remove 9 = .ok (.ireturn, 1) := by decide +kernel
theorem dX4_remove_10 : decode cX4_remove 10 = .ok (.aload_n 0, 1) := by decide +kernel
theorem dX4_remove_11 : decode cX4_remove 11 = .ok (.getfield 16, 3) := by decide +kernel
theorem dX4_remove_14 : decode cX4_remove 14 = .ok (.iload_n 1, 1) := by decide +kernel
theorem dX4_remove_15 : decode cX4_remove 15 = .ok (.iaload, 1) := by decide +kernel
theorem dX4_remove_16 : decode cX4_remove 16 = .ok (.istore_n 2, 1) := by decide +kernel
theorem dX4_remove_17 : decode cX4_remove 17 = .ok (.aload_n 0, 1) := by decide +kernel
theorem dX4_remove_18 : decode cX4_remove 18 = .ok (.getfield 10, 3) := by decide +kernel
theorem dX4_remove_21 : decode cX4_remove 21 = .ok (.iload_n 1, 1) := by decide +kernel
theorem dX4_remove_22 : decode cX4_remove 22 = .ok (.ldc 9, 2) := by decide +kernel
theorem dX4_remove_24 : decode cX4_remove 24 = .ok (.iastore, 1) := by decide +kernel
theorem dX4_remove_25 : decode cX4_remove 25 = .ok (.aload_n 0, 1) := by decide +kernel
theorem dX4_remove_26 : decode cX4_remove 26 = .ok (.getfield 16, 3) := by decide +kernel
theorem dX4_remove_29 : decode cX4_remove 29 = .ok (.iload_n 1, 1) := by decide +kernel
theorem dX4_remove_30 : decode cX4_remove 30 = .ok (.iconst 0, 1) := by decide +kernel
theorem dX4_remove_31 : decode cX4_remove 31 = .ok (.iastore, 1) := by decide +kernel
theorem dX4_remove_32 : decode cX4_remove 32 = .ok (.iload_n 2, 1) := by decide +kernel
theorem dX4_remove_33 : decode cX4_remove 33 = .ok (.ireturn, 1) := by decide +kernel
theorem dX4_amount_0 : decode cX4_amount 0 = .ok (.iconst 0, 1) := by decide +kernel
theorem dX4_amount_1 : decode cX4_amount 1 = .ok (.istore_n 1, 1) := by decide +kernel
theorem dX4_amount_2 : decode cX4_amount 2 = .ok (.iconst 0, 1) := by decide +kernel
theorem dX4_amount_3 : decode cX4_amount 3 = .ok (.istore_n 2, 1) := by decide +kernel
theorem dX4_amount_4 : decode cX4_amount 4 = .ok (.iload_n 2, 1) := by decide +kernel
theorem dX4_amount_5 : decode cX4_amount 5 = .ok (.bipush 8, 2) := by decide +kernel
theorem dX4_amount_7 : decode cX4_amount 7 = .ok (.if_icmp .ge 20, 3) := by decide +kernel
theorem dX4_amount_10 : decode cX4_amount 10 = .ok (.aload_n 0, 1) := by decide +kernel
theorem dX4_amount_11 : decode cX4_amount 11 = .ok (.iload_n 2, 1) := by decide +kernel
theorem dX4_amount_12 : decode cX4_amount 12 = .ok (.invokevirtual 26, 3) := by decide +kernel
theorem dX4_amount_15 : decode cX4_amount 15 = .ok (.ifCond .ne 6, 3) := by decide +kernel
theorem dX4_amount_18 : decode cX4_amount 18 = .ok (.iinc 1 1, 3) := by decide +kernel
theorem dX4_amount_21 : decode cX4_amount 21 = .ok (.iinc 2 1, 3) := by decide +kernel
theorem dX4_amount_24 : decode cX4_amount 24 = .ok (.goto (-20), 3) := by decide +kernel
theorem dX4_amount_27 : decode cX4_amount 27 = .ok (.iload_n 1, 1) := by decide +kernel
theorem dX4_amount_28 : decode cX4_amount 28 = .ok (.ireturn, 1) := by decide +kernel
theorem dX5_init_0 : decode cX5_init 0 = .ok (.aload_n 0, 1) := by decide +kernel
theorem dX5_init_1 : decode cX5_init 1 = .ok (.invokespecial 3, 3) := by decide +kernel
theorem dX5_init_4 : decode cX5_init 4 = .ok (.aload_n 0, 1) := by decide +kernel
theorem dX5_init_5 : decode cX5_init 5 = .ok (.bipush 8, 2) := by decide +kernel
theorem dX5_init_7 : decode cX5_init 7 = .ok (.anewarray 9, 3) := by decide +kernel
theorem dX5_init_10 : decode cX5_init 10 = .ok (.putfield 11, 3) := by decide +kernel
theorem dX5_init_13 : decode cX5_init 13 = .ok (.aload_n 0, 1) := by decide +kernel
theorem dX5_init_14 : decode cX5_init 14 = .ok (.bipush 7, 2) := by decide +kernel
theorem dX5_init_16 : decode cX5_init 16 = .ok (.newarray .int, 2) := by decide +kernel
theorem dX5_init_18 : decode cX5_init 18 = .ok (.putfield 17, 3) := by decide +kernel
theorem dX5_init_21 : decode cX5_init 21 = .ok (.aload_n 0, 1) := by decide +kernel
theorem dX5_init_22 : decode cX5_init 22 = .ok (.bipush 7, 2) := by decide +kernel
theorem dX5_init_24 : decode cX5_init 24 = .ok (.newarray .int, 2) := by decide +kernel
theorem dX5_init_26 : decode cX5_init 26 = .ok (.putfield 21, 3) := by decide +kernel
theorem dX5_init_29 : decode cX5_init 29 = .ok (.aload_n 0, 1) := by decide +kernel
theorem dX5_init_30 : decode cX5_init 30 = .ok (.bipush 7, 2) := by decide +kernel
theorem dX5_init_32 : decode cX5_init 32 = .ok (.newarray .int, 2) := by decide +kernel
theorem dX5_init_34 : decode cX5_init 34 = .ok (.putfield 24, 3) := by decide +kernel
theorem dX5_init_37 : decode cX5_init 37 = .ok (.iconst 0, 1) := by decide +kernel
theorem dX5_init_38 : decode cX5_init 38 = .ok (.istore_n 1, 1) := by decide +kernel
theorem dX5_init_39 : decode cX5_init 39 = .ok (.iload_n 1, 1) := by decide +kernel
theorem dX5_init_40 : decode cX5_init 40 = .ok (.bipush 7, 2) := by decide +kernel
theorem dX5_init_42 : decode cX5_init 42 = .ok (.if_icmp .gt 22, 3) := by decide +kernel
theorem dX5_init_45 : decode cX5_init 45 = .ok (.aload_n 0, 1) := by decide +kernel
theorem dX5_init_46 : decode cX5_init 46 = .ok (.getfield 11, 3) := by decide +kernel
theorem dX5_init_49 : decode cX5_init 49 = .ok (.iload_n 1, 1) := by decide +kernel
theorem dX5_init_50 : decode cX5_init 50 = .ok (.new 9, 3) := by decide +kernel
theorem dX5_init_53 : decode cX5_init 53 = .ok (.dup, 1) := by decide +kernel
theorem dX5_init_54 : decode cX5_init 54 = .ok (.invokespecial 27, 3) := by decide +kernel
theorem dX5_init_57 : decode cX5_init 57 = .ok (.aastore, 1) := by decide +kernel
theorem dX5_init_58 : decode cX5_init 58 = .ok (.iinc 1 1, 3) := by decide +kernel
theorem dX5_init_61 : decode cX5_init 61 = .ok (.goto (-22), 3) := by decide +kernel
theorem dX5_init_64 : decode cX5_init 64 = .ok (.return_, 1) := by decide +kernel
theorem dX5_forget_0 : decode cX5_forget 0 = .ok (.aload_n 0, 1) := by decide +kernel
theorem dX5_forget_1 : decode cX5_forget 1 = .ok (.iconst 0, 1) := by decide +kernel
theorem dX5_forget_2 : decode cX5_forget 2 = .ok (.putfield 28, 3) := by decide +kernel
theorem dX5_forget_5 : decode cX5_forget 5 = .ok (.aload_n 0, 1) := by decide +kernel
theorem dX5_forget_6 : decode cX5_forget 6 = .ok (.iconst 0, 1) := by decide +kernel
theorem dX5_forget_7 : decode cX5_forget 7 = .ok (.putfield 32, 3) := by decide +kernel
theorem dX5_forget_10 : decode cX5_forget 10 = .ok (.return_, 1) := by decide +kernel
theorem dX5_makeReady_0 : decode cX5_makeReady 0 = .ok (.aload_n 0, 1) := by decide +kernel
theorem dX5_makeReady_1 : decode cX5_makeReady 1 = .ok (.aload_n 1, 1) := by decide +kernel
theorem dX5_makeReady_2 : decode cX5_makeReady 2 = .ok (.getfield 35, 3) := by decide +kernel
theorem dX5_makeReady_5 : decode cX5_makeReady 5 = .ok (.bipush 7, 2) := by decide +kernel
theorem dX5_makeReady_7 : decode cX5_makeReady 7 = .ok (.invokestatic 39, 3) := by decide +kernel
theorem dX5_makeReady_10 : decode cX5_makeReady 10 = .ok (.putfield 45, 3) := by decide +kernel
theorem dX5_makeReady_13 : decode cX5_makeReady 13 = .ok (.aload_n 0, 1) := by decide +kernel
theorem dX5_makeReady_14 : decode cX5_makeReady 14 = .ok (.aload_n 1, 1) := by decide +kernel
theorem dX5_makeReady_15 : decode cX5_makeReady 15 = .ok (.getfield 48, 3) := by decide +kernel
theorem dX5_makeReady_18 : decode cX5_makeReady 18 = .ok (.putfield 51, 3) := by decide +kernel
theorem dX5_makeReady_21 : decode cX5_makeReady 21 = .ok (.iconst 0, 1) := by decide +kernel
theorem dX5_makeReady_22 : decode cX5_makeReady 22 = .ok (.istore_n 2, 1) := by decide +kernel
theorem dX5_makeReady_23 : decode cX5_makeReady 23 = .ok (.iload_n 2, 1) := by decide +kernel
theorem dX5_makeReady_24 : decode cX5_makeReady 24 = .ok (.aload_n 0, 1) := by decide +kernel
theorem dX5_makeReady_25 : decode cX5_makeReady 25 = .ok (.getfield 45, 3) := by decide +kernel
theorem dX5_makeReady_28 : decode cX5_makeReady 28 = .ok (.if_icmp .gt 19, 3) := by decide +kernel
theorem dX5_makeReady_31 : decode cX5_makeReady 31 = .ok (.aload_n 0, 1) := by decide +kernel
theorem dX5_makeReady_32 : decode cX5_makeReady 32 = .ok (.getfield 11, 3) := by decide +kernel
theorem dX5_makeReady_35 : decode cX5_makeReady 35 = .ok (.iload_n 2, 1) := by decide +kernel
theorem dX5_makeReady_36 : decode cX5_makeReady 36 = .ok (.aaload, 1) := by decide +kernel
theorem dX5_makeReady_37 : decode cX5_makeReady 37 = .ok (.aload_n 1, 1) := by decide +kernel
theorem dX5_makeReady_38 : decode cX5_makeReady 38 = .ok (.invokevirtual 54, 3) := by decide +kernel
theorem dX5_makeReady_41 : decode cX5_makeReady 41 = .ok (.iinc 2 1, 3) := by decide +kernel
theorem dX5_makeReady_44 : decode cX5_makeReady 44 = .ok (.goto (-21), 3) := by decide +kernel
theorem dX5_makeReady_47 : decode cX5_makeReady 47 = .ok (.return_, 1) := by decide +kernel
theorem dX5_findOrder_0 : decode cX5_findOrder 0 = .ok (.aload_n 0, 1) := by decide +kernel
theorem dX5_findOrder_1 : decode cX5_findOrder 1 = .ok (.getfield 28, 3) := by decide +kernel
theorem dX5_findOrder_4 : decode cX5_findOrder 4 = .ok (.ifCond .eq 4, 3) := by decide +kernel
theorem dX5_findOrder_7 : decode cX5_findOrder 7 = .ok (.return_, 1) := by decide +kernel
theorem dX5_findOrder_8 : decode cX5_findOrder 8 = .ok (.aload_n 0, 1) := by decide +kernel
theorem dX5_findOrder_9 : decode cX5_findOrder 9 = .ok (.aload_n 1, 1) := by decide +kernel
theorem dX5_findOrder_10 : decode cX5_findOrder 10 = .ok (.invokevirtual 58, 3) := by decide +kernel
theorem dX5_findOrder_13 : decode cX5_findOrder 13 = .ok (.aload_n 0, 1) := by decide +kernel
theorem dX5_findOrder_14 : decode cX5_findOrder 14 = .ok (.iconst (-1), 1) := by decide +kernel
theorem dX5_findOrder_15 : decode cX5_findOrder 15 = .ok (.putfield 61, 3) := by decide +kernel
theorem dX5_findOrder_18 : decode cX5_findOrder 18 = .ok (.aload_n 0, 1) := by decide +kernel
theorem dX5_findOrder_19 : decode cX5_findOrder 19 = .ok (.iconst (-1), 1) := by decide +kernel
theorem dX5_findOrder_20 : decode cX5_findOrder 20 = .ok (.putfield 64, 3) := by decide +kernel
theorem dX5_findOrder_23 : decode cX5_findOrder 23 = .ok (.aload_n 0, 1) := by decide +kernel
theorem dX5_findOrder_24 : decode cX5_findOrder 24 = .ok (.iconst 0, 1) := by decide +kernel
theorem dX5_findOrder_25 : decode cX5_findOrder 25 = .ok (.aload_n 1, 1) := by decide +kernel
theorem dX5_findOrder_26 : decode cX5_findOrder 26 = .ok (.invokevirtual 67, 3) := by decide +kernel
theorem dX5_findOrder_29 : decode cX5_findOrder 29 = .ok (.invokevirtual 71, 3) := by decide +kernel
theorem dX5_findOrder_32 : decode cX5_findOrder 32 = .ok (.aload_n 0, 1) := by decide +kernel
theorem dX5_findOrder_33 : decode cX5_findOrder 33 = .ok (.iconst 1, 1) := by decide +kernel
theorem dX5_findOrder_34 : decode cX5_findOrder 34 = .ok (.putfield 28, 3) := by decide +kernel
theorem dX5_findOrder_37 : decode cX5_findOrder 37 = .ok (.return_, 1) := by decide +kernel
theorem dX5_tryOrders_0 : decode cX5_tryOrders 0 = .ok (.iload_n 1, 1) := by decide +kernel
theorem dX5_tryOrders_1 : decode cX5_tryOrders 1 = .ok (.ifCond .lt 11, 3) := by decide +kernel
theorem dX5_tryOrders_4 : decode cX5_tryOrders 4 = .ok (.iload_n 1, 1) := by decide +kernel
theorem dX5_tryOrders_5 : decode cX5_tryOrders 5 = .ok (.aload_n 0, 1) := by decide +kernel
theorem dX5_tryOrders_6 : decode cX5_tryOrders 6 = .ok (.getfield 45, 3) := by decide +kernel
theorem dX5_tryOrders_9 : decode cX5_tryOrders 9 = .ok (.if_icmp .le 4, 3) := by decide +kernel
theorem dX5_tryOrders_12 : decode cX5_tryOrders 12 = .ok (.return_, 1) := by decide +kernel
theorem dX5_tryOrders_13 : decode cX5_tryOrders 13 = .ok (.aload_n 0, 1) := by decide +kernel
theorem dX5_tryOrders_14 : decode cX5_tryOrders 14 = .ok (.getfield 11, 3) := by decide +kernel
theorem dX5_tryOrders_17 : decode cX5_tryOrders 17 = .ok (.iload_n 1, 1) := by decide +kernel
theorem dX5_tryOrders_18 : decode cX5_tryOrders 18 = .ok (.aaload, 1) := by decide +kernel
theorem dX5_tryOrders_19 : decode cX5_tryOrders 19 = .ok (.astore_n 3, 1) := by decide +kernel
theorem dX5_tryOrders_20 : decode cX5_tryOrders 20 = .ok (.aload_n 3, 1) := by decide +kernel
theorem dX5_tryOrders_21 : decode cX5_tryOrders 21 = .ok (.getfield 48, 3) := by decide +kernel
theorem dX5_tryOrders_24 : decode cX5_tryOrders 24 = .ok (.aload_n 0, 1) := by decide +kernel
theorem dX5_tryOrders_25 : decode cX5_tryOrders 25 = .ok (.getfield 51, 3) := by decide +kernel
theorem dX5_tryOrders_28 : decode cX5_tryOrders 28 = .ok (.isub, 1) := by decide +kernel
theorem dX5_tryOrders_29 : decode cX5_tryOrders 29 = .ok (.istore 4, 2) := by decide +kernel
theorem dX5_tryOrders_31 : decode cX5_tryOrders 31 = .ok (.iload_n 1, 1) := by decide +kernel
theorem dX5_tryOrders_32 : decode cX5_tryOrders 32 = .ok (.aload_n 0, 1) := by decide +kernel
theorem dX5_tryOrders_33 : decode cX5_tryOrders 33 = .ok (.getfield 45, 3) := by decide +kernel
theorem dX5_tryOrders_36 : decode cX5_tryOrders 36 = .ok (.if_icmp .ne 14, 3) := by decide +kernel
theorem dX5_tryOrders_39 : decode cX5_tryOrders 39 = .ok (.aload_n 0, 1) := by decide +kernel
theorem dX5_tryOrders_40 : decode cX5_tryOrders 40 = .ok (.iload 4, 2) := by decide +kernel
theorem dX5_tryOrders_42 : decode cX5_tryOrders 42 = .ok (.aload_n 3, 1) := by decide +kernel
theorem dX5_tryOrders_43 : decode cX5_tryOrders 43 = .ok (.invokevirtual 75, 3) := by decide +kernel
theorem dX5_tryOrders_46 : decode cX5_tryOrders 46 = .ok (.invokevirtual 78, 3) := by decide +kernel
theorem dX5_tryOrders_49 : decode cX5_tryOrders 49 = .ok (.return_, 1) := by decide +kernel
theorem dX5_tryOrders_50 : decode cX5_tryOrders 50 = .ok (.iload 4, 2) := by decide +kernel
theorem dX5_tryOrders_52 : decode cX5_tryOrders 52 = .ok (.aload_n 0, 1) := by decide +kernel
theorem dX5_tryOrders_53 : decode cX5_tryOrders 53 = .ok (.getfield 45, 3) := by decide +kernel
theorem dX5_tryOrders_56 : decode cX5_tryOrders 56 = .ok (.iadd, 1) := by decide +kernel
theorem dX5_tryOrders_57 : decode cX5_tryOrders 57 = .ok (.iload_n 1, 1) := by decide +kernel
theorem dX5_tryOrders_58 : decode cX5_tryOrders 58 = .ok (.isub, 1) := by decide +kernel
theorem dX5_tryOrders_59 : decode cX5_tryOrders 59 = .ok (.aload_n 0, 1) := by decide +kernel
theorem dX5_tryOrders_60 : decode cX5_tryOrders 60 = .ok (.getfield 61, 3) := by decide +kernel
theorem dX5_tryOrders_63 : decode cX5_tryOrders 63 = .ok (.if_icmp .ge 4, 3) := by decide +kernel
theorem dX5_tryOrders_66 : decode cX5_tryOrders 66 = .ok (.return_, 1) := by decide +kernel
theorem dX5_tryOrders_67 : decode cX5_tryOrders 67 = .ok (.aload_n 0, 1) := by decide +kernel
theorem dX5_tryOrders_68 : decode cX5_tryOrders 68 = .ok (.getfield 11, 3) := by decide +kernel
theorem dX5_tryOrders_71 : decode cX5_tryOrders 71 = .ok (.iload_n 1, 1) := by decide +kernel
theorem dX5_tryOrders_72 : decode cX5_tryOrders 72 = .ok (.iconst 1, 1) := by decide +kernel
theorem dX5_tryOrders_73 : decode cX5_tryOrders 73 = .ok (.iadd, 1) := by decide +kernel
theorem dX5_tryOrders_74 : decode cX5_tryOrders 74 = .ok (.aaload, 1) := by decide +kernel
theorem dX5_tryOrders_75 : decode cX5_tryOrders 75 = .ok (.astore 5, 2) := by decide +kernel
theorem dX5_tryOrders_77 : decode cX5_tryOrders 77 = .ok (.iconst 0, 1) := by decide +kernel
theorem dX5_tryOrders_78 : decode cX5_tryOrders 78 = .ok (.istore 6, 2) := by decide +kernel
theorem dX5_tryOrders_80 : decode cX5_tryOrders 80 = .ok (.iload 6, 2) := by decide +kernel
theorem dX5_tryOrders_82 : decode cX5_tryOrders 82 = .ok (.bipush 7, 2) := by decide +kernel
theorem dX5_tryOrders_84 : decode cX5_tryOrders 84 = .ok (.if_icmp .ge 61, 3) := by decide +kernel
theorem dX5_tryOrders_87 : decode cX5_tryOrders 87 = .ok (.iload_n 2, 1) := by decide +kernel
theorem dX5_tryOrders_88 : decode cX5_tryOrders 88 = .ok (.iload 6, 2) := by decide +kernel
theorem dX5_tryOrders_90 : decode cX5_tryOrders 90 = .ok (.ishr, 1) := by decide +kernel
theorem dX5_tryOrders_91 : decode cX5_tryOrders 91 = .ok (.iconst 1, 1) := by decide +kernel
theorem dX5_tryOrders_92 : decode cX5_tryOrders 92 = .ok (.iand, 1) := by decide +kernel
theorem dX5_tryOrders_93 : decode cX5_tryOrders 93 = .ok (.iconst 1, 1) := by decide +kernel
theorem dX5_tryOrders_94 : decode cX5_tryOrders 94 = .ok (.if_icmp .ne 45, 3) := by decide +kernel
theorem dX5_tryOrders_97 : decode cX5_tryOrders 97 = .ok (.aload 5, 2) := by decide +kernel
theorem dX5_tryOrders_99 : decode cX5_tryOrders 99 = .ok (.aload_n 3, 1) := by decide +kernel
theorem dX5_tryOrders_100 : decode cX5_tryOrders 100 = .ok (.invokevirtual 81, 3) := by decide +kernel
theorem dX5_tryOrders_103 : decode cX5_tryOrders 103 = .ok (.aload 5, 2) := by decide +kernel
theorem dX5_tryOrders_105 : decode cX5_tryOrders 105 = .ok (.iload 6, 2) := by decide +kernel
theorem dX5_tryOrders_107 : decode cX5_tryOrders 107 = .ok (.invokevirtual 84, 3) := by decide +kernel
theorem dX5_tryOrders_110 : decode cX5_tryOrders 110 = .ok (.pop, 1) := by decide +kernel
theorem dX5_tryOrders_111 : decode cX5_tryOrders 111 = .ok (.aload 5, 2) := by decide +kernel
theorem dX5_tryOrders_113 : decode cX5_tryOrders 113 = .ok (.invokevirtual 88, 3) := by decide +kernel
theorem dX5_tryOrders_116 : decode cX5_tryOrders 116 = .ok (.aload_n 0, 1) := by decide +kernel
theorem dX5_tryOrders_117 : decode cX5_tryOrders 117 = .ok (.getfield 17, 3) := by decide +kernel
theorem dX5_tryOrders_120 : decode cX5_tryOrders 120 = .ok (.iload_n 1, 1) := by decide +kernel
theorem dX5_tryOrders_121 : decode cX5_tryOrders 121 = .ok (.iload 6, 2) := by decide +kernel
theorem dX5_tryOrders_123 : decode cX5_tryOrders 123 = .ok (.iastore, 1) := by decide +kernel
theorem dX5_tryOrders_124 : decode cX5_tryOrders 124 = .ok (.aload_n 0, 1) := by decide +kernel
theorem dX5_tryOrders_125 : decode cX5_tryOrders 125 = .ok (.iload_n 1, 1) := by decide +kernel
theorem dX5_tryOrders_126 : decode cX5_tryOrders 126 = .ok (.iconst 1, 1) := by decide +kernel
theorem dX5_tryOrders_127 : decode cX5_tryOrders 127 = .ok (.iadd, 1) := by decide +kernel
theorem dX5_tryOrders_128 : decode cX5_tryOrders 128 = .ok (.iload_n 2, 1) := by decide +kernel
theorem dX5_tryOrders_129 : decode cX5_tryOrders 129 = .ok (.iconst 1, 1) := by decide +kernel
theorem dX5_tryOrders_130 : decode cX5_tryOrders 130 = .ok (.iload 6, 2) := by decide +kernel
theorem dX5_tryOrders_132 : decode cX5_tryOrders 132 = .ok (.ishl, 1) := by decide +kernel
theorem dX5_tryOrders_133 : decode cX5_tryOrders 133 = .ok (.iconst (-1), 1) := by decide +kernel
theorem dX5_tryOrders_134 : decode cX5_tryOrders 134 = .ok (.ixor, 1) := by decide +kernel
theorem dX5_tryOrders_135 : decode cX5_tryOrders 135 = .ok (.iand, 1) := by decide +kernel
theorem dX5_tryOrders_136 : decode cX5_tryOrders 136 = .ok (.invokevirtual 71, 3) := by decide +kernel
theorem dX5_tryOrders_139 : decode cX5_tryOrders 139 = .ok (.iinc 6 1, 3) := by decide +kernel
theorem dX5_tryOrders_142 : decode cX5_tryOrders 142 = .ok (.goto (-62), 3) := by decide +kernel
theorem dX5_tryOrders_145 : decode cX5_tryOrders 145 = .ok (.return_, 1) := by decide +kernel
theorem dX5_keepOrder_0 : decode cX5_keepOrder 0 = .ok (.iload_n 1, 1) := by decide +kernel
theorem dX5_keepOrder_1 : decode cX5_keepOrder 1 = .ok (.aload_n 0, 1) := by decide +kernel
theorem dX5_keepOrder_2 : decode cX5_keepOrder 2 = .ok (.getfield 61, 3) := by decide +kernel
theorem dX5_keepOrder_5 : decode cX5_keepOrder 5 = .ok (.if_icmp .gt 19, 3) := by decide +kernel
theorem dX5_keepOrder_8 : decode cX5_keepOrder 8 = .ok (.iload_n 1, 1) := by decide +kernel
theorem dX5_keepOrder_9 : decode cX5_keepOrder 9 = .ok (.aload_n 0, 1) := by decide +kernel
theorem dX5_keepOrder_10 : decode cX5_keepOrder 10 = .ok (.getfield 61, 3) := by decide +kernel
theorem dX5_keepOrder_13 : decode cX5_keepOrder 13 = .ok (.if_icmp .ne 36, 3) := by decide +kernel
theorem dX5_keepOrder_16 : decode cX5_keepOrder 16 = .ok (.iload_n 2, 1) := by decide +kernel
theorem dX5_keepOrder_17 : decode cX5_keepOrder 17 = .ok (.aload_n 0, 1) := by decide +kernel
theorem dX5_keepOrder_18 : decode cX5_keepOrder 18 = .ok (.getfield 64, 3) := by decide +kernel
theorem dX5_keepOrder_21 : decode cX5_keepOrder 21 = .ok (.if_icmp .le 28, 3) := by decide +kernel
theorem dX5_keepOrder_24 : decode cX5_keepOrder 24 = .ok (.aload_n 0, 1) := by decide +kernel
theorem dX5_keepOrder_25 : decode cX5_keepOrder 25 = .ok (.iload_n 1, 1) := by decide +kernel
theorem dX5_keepOrder_26 : decode cX5_keepOrder 26 = .ok (.putfield 61, 3) := by decide +kernel
theorem dX5_keepOrder_29 : decode cX5_keepOrder 29 = .ok (.aload_n 0, 1) := by decide +kernel
theorem dX5_keepOrder_30 : decode cX5_keepOrder 30 = .ok (.iload_n 2, 1) := by decide +kernel
theorem dX5_keepOrder_31 : decode cX5_keepOrder 31 = .ok (.putfield 64, 3) := by decide +kernel
theorem dX5_keepOrder_34 : decode cX5_keepOrder 34 = .ok (.aload_n 0, 1) := by decide +kernel
theorem dX5_keepOrder_35 : decode cX5_keepOrder 35 = .ok (.getfield 17, 3) := by decide +kernel
theorem dX5_keepOrder_38 : decode cX5_keepOrder 38 = .ok (.iconst 0, 1) := by decide +kernel
theorem dX5_keepOrder_39 : decode cX5_keepOrder 39 = .ok (.aload_n 0, 1) := by decide +kernel
theorem dX5_keepOrder_40 : decode cX5_keepOrder 40 = .ok (.getfield 21, 3) := by decide +kernel
theorem dX5_keepOrder_43 : decode cX5_keepOrder 43 = .ok (.iconst 0, 1) := by decide +kernel
theorem dX5_keepOrder_44 : decode cX5_keepOrder 44 = .ok (.bipush 7, 2) := by decide +kernel
theorem dX5_keepOrder_46 : decode cX5_keepOrder 46 = .ok (.invokestatic 91, 3) := by decide +kernel
theorem dX5_keepOrder_49 : decode cX5_keepOrder 49 = .ok (.return_, 1) := by decide +kernel
theorem dX5_orderAt_0 : decode cX5_orderAt 0 = .ok (.iload_n 1, 1) := by decide +kernel
theorem dX5_orderAt_1 : decode cX5_orderAt 1 = .ok (.ifCond .lt 26, 3) := by decide +kernel
theorem dX5_orderAt_4 : decode cX5_orderAt 4 = .ok (.iload_n 1, 1) := by decide +kernel
theorem dX5_orderAt_5 : decode cX5_orderAt 5 = .ok (.aload_n 0, 1) := by decide +kernel
theorem dX5_orderAt_6 : decode cX5_orderAt 6 = .ok (.getfield 45, 3) := by decide +kernel
theorem dX5_orderAt_9 : decode cX5_orderAt 9 = .ok (.if_icmp .ge 18, 3) := by decide +kernel
theorem dX5_orderAt_12 : decode cX5_orderAt 12 = .ok (.iload_n 1, 1) := by decide +kernel
theorem dX5_orderAt_13 : decode cX5_orderAt 13 = .ok (.bipush 7, 2) := by decide +kernel
theorem dX5_orderAt_15 : decode cX5_orderAt 15 = .ok (.if_icmp .ge 12, 3) := by decide +kernel
theorem dX5_orderAt_18 : decode cX5_orderAt 18 = .ok (.aload_n 0, 1) := by decide +kernel
theorem dX5_orderAt_19 : decode cX5_orderAt 19 = .ok (.getfield 21, 3) := by decide +kernel
theorem dX5_orderAt_22 : decode cX5_orderAt 22 = .ok (.iload_n 1, 1) := by decide +kernel
theorem dX5_orderAt_23 : decode cX5_orderAt 23 = .ok (.iaload, 1) := by decide +kernel
theorem dX5_orderAt_24 : decode cX5_orderAt 24 = .ok (.goto 5, 3) := by decide +kernel
theorem dX5_orderAt_27 : decode cX5_orderAt 27 = .ok (.ldc 97, 2) := by decide +kernel
theorem dX5_orderAt_29 : decode cX5_orderAt 29 = .ok (.ireturn, 1) := by decide +kernel
theorem dX5_findShare_0 : decode cX5_findShare 0 = .ok (.aload_n 0, 1) := by decide +kernel
theorem dX5_findShare_1 : decode cX5_findShare 1 = .ok (.getfield 32, 3) := by decide +kernel
theorem dX5_findShare_4 : decode cX5_findShare 4 = .ok (.ifCond .eq 4, 3) := by decide +kernel
theorem dX5_findShare_7 : decode cX5_findShare 7 = .ok (.return_, 1) := by decide +kernel
theorem dX5_findShare_8 : decode cX5_findShare 8 = .ok (.aload_n 0, 1) := by decide +kernel
theorem dX5_findShare_9 : decode cX5_findShare 9 = .ok (.aload_n 1, 1) := by decide +kernel
theorem dX5_findShare_10 : decode cX5_findShare 10 = .ok (.invokevirtual 58, 3) := by decide +kernel
theorem dX5_findShare_13 : decode cX5_findShare 13 = .ok (.aload_n 0, 1) := by decide +kernel
theorem dX5_findShare_14 : decode cX5_findShare 14 = .ok (.ldc 97, 2) := by decide +kernel
theorem dX5_findShare_16 : decode cX5_findShare 16 = .ok (.putfield 98, 3) := by decide +kernel
theorem dX5_findShare_19 : decode cX5_findShare 19 = .ok (.aload_n 0, 1) := by decide +kernel
theorem dX5_findShare_20 : decode cX5_findShare 20 = .ok (.iconst 0, 1) := by decide +kernel
theorem dX5_findShare_21 : decode cX5_findShare 21 = .ok (.aload_n 1, 1) := by decide +kernel
theorem dX5_findShare_22 : decode cX5_findShare 22 = .ok (.invokestatic 101, 3) := by decide +kernel
theorem dX5_findShare_25 : decode cX5_findShare 25 = .ok (.invokevirtual 105, 3) := by decide +kernel
theorem dX5_findShare_28 : decode cX5_findShare 28 = .ok (.aload_n 0, 1) := by decide +kernel
theorem dX5_findShare_29 : decode cX5_findShare 29 = .ok (.iconst 1, 1) := by decide +kernel
theorem dX5_findShare_30 : decode cX5_findShare 30 = .ok (.putfield 32, 3) := by decide +kernel
theorem dX5_findShare_33 : decode cX5_findShare 33 = .ok (.return_, 1) := by decide +kernel
theorem dX5_sumPaidIn_0 : decode cX5_sumPaidIn 0 = .ok (.iconst 0, 1) := by decide +kernel
theorem dX5_sumPaidIn_1 : decode cX5_sumPaidIn 1 = .ok (.istore_n 1, 1) := by decide +kernel
theorem dX5_sumPaidIn_2 : decode cX5_sumPaidIn 2 = .ok (.iconst 0, 1) := by decide +kernel
theorem dX5_sumPaidIn_3 : decode cX5_sumPaidIn 3 = .ok (.istore_n 2, 1) := by decide +kernel
theorem dX5_sumPaidIn_4 : decode cX5_sumPaidIn 4 = .ok (.iload_n 2, 1) := by decide +kernel
theorem dX5_sumPaidIn_5 : decode cX5_sumPaidIn 5 = .ok (.aload_n 0, 1) := by decide +kernel
theorem dX5_sumPaidIn_6 : decode cX5_sumPaidIn 6 = .ok (.getfield 35, 3) := by decide +kernel
theorem dX5_sumPaidIn_9 : decode cX5_sumPaidIn 9 = .ok (.if_icmp .ge 35, 3) := by decide +kernel
theorem dX5_sumPaidIn_12 : decode cX5_sumPaidIn 12 = .ok (.aload_n 0, 1) := by decide +kernel
theorem dX5_sumPaidIn_13 : decode cX5_sumPaidIn 13 = .ok (.iload_n 2, 1) := by decide +kernel
theorem dX5_sumPaidIn_14 : decode cX5_sumPaidIn 14 = .ok (.invokevirtual 108, 3) := by decide +kernel
theorem dX5_sumPaidIn_17 : decode cX5_sumPaidIn 17 = .ok (.istore_n 3, 1) := by decide +kernel
theorem dX5_sumPaidIn_18 : decode cX5_sumPaidIn 18 = .ok (.iload_n 1, 1) := by decide +kernel
theorem dX5_sumPaidIn_19 : decode cX5_sumPaidIn 19 = .ok (.aload_n 0, 1) := by decide +kernel
theorem dX5_sumPaidIn_20 : decode cX5_sumPaidIn 20 = .ok (.iload_n 3, 1) := by decide +kernel
theorem dX5_sumPaidIn_21 : decode cX5_sumPaidIn 21 = .ok (.invokevirtual 111, 3) := by decide +kernel
theorem dX5_sumPaidIn_24 : decode cX5_sumPaidIn 24 = .ok (.ifCond .eq 7, 3) := by decide +kernel
theorem dX5_sumPaidIn_27 : decode cX5_sumPaidIn 27 = .ok (.iconst 0, 1) := by decide +kernel
theorem dX5_sumPaidIn_28 : decode cX5_sumPaidIn 28 = .ok (.goto 8, 3) := by decide +kernel
theorem dX5_sumPaidIn_31 : decode cX5_sumPaidIn 31 = .ok (.aload_n 0, 1) := by decide +kernel
theorem dX5_sumPaidIn_32 : decode cX5_sumPaidIn 32 = .ok (.iload_n 3, 1) := by decide +kernel
theorem dX5_sumPaidIn_33 : decode cX5_sumPaidIn 33 = .ok (.invokevirtual 115, 3) := by decide +kernel
theorem dX5_sumPaidIn_36 : decode cX5_sumPaidIn 36 = .ok (.iadd, 1) := by decide +kernel
theorem dX5_sumPaidIn_37 : decode cX5_sumPaidIn 37 = .ok (.istore_n 1, 1) := by decide +kernel
theorem dX5_sumPaidIn_38 : decode cX5_sumPaidIn 38 = .ok (.iinc 2 1, 3) := by decide +kernel
theorem dX5_sumPaidIn_41 : decode cX5_sumPaidIn 41 = .ok (.goto (-37), 3) := by decide +kernel
theorem dX5_sumPaidIn_44 : decode cX5_sumPaidIn 44 = .ok (.iload_n 1, 1) := by decide +kernel
theorem dX5_sumPaidIn_45 : decode cX5_sumPaidIn 45 = .ok (.ireturn, 1) := by decide +kernel
theorem dX5_tryShares_0 : decode cX5_tryShares 0 = .ok (.iload_n 1, 1) := by decide +kernel
theorem dX5_tryShares_1 : decode cX5_tryShares 1 = .ok (.ifCond .lt 11, 3) := by decide +kernel
theorem dX5_tryShares_4 : decode cX5_tryShares 4 = .ok (.iload_n 1, 1) := by decide +kernel
theorem dX5_tryShares_5 : decode cX5_tryShares 5 = .ok (.aload_n 0, 1) := by decide +kernel
theorem dX5_tryShares_6 : decode cX5_tryShares 6 = .ok (.getfield 45, 3) := by decide +kernel
theorem dX5_tryShares_9 : decode cX5_tryShares 9 = .ok (.if_icmp .le 4, 3) := by decide +kernel
theorem dX5_tryShares_12 : decode cX5_tryShares 12 = .ok (.return_, 1) := by decide +kernel
theorem dX5_tryShares_13 : decode cX5_tryShares 13 = .ok (.aload_n 0, 1) := by decide +kernel
theorem dX5_tryShares_14 : decode cX5_tryShares 14 = .ok (.getfield 11, 3) := by decide +kernel
theorem dX5_tryShares_17 : decode cX5_tryShares 17 = .ok (.iload_n 1, 1) := by decide +kernel
theorem dX5_tryShares_18 : decode cX5_tryShares 18 = .ok (.aaload, 1) := by decide +kernel
theorem dX5_tryShares_19 : decode cX5_tryShares 19 = .ok (.astore_n 3, 1) := by decide +kernel
theorem dX5_tryShares_20 : decode cX5_tryShares 20 = .ok (.aload_n 3, 1) := by decide +kernel
theorem dX5_tryShares_21 : decode cX5_tryShares 21 = .ok (.invokevirtual 118, 3) := by decide +kernel
theorem dX5_tryShares_24 : decode cX5_tryShares 24 = .ok (.istore 4, 2) := by decide +kernel
theorem dX5_tryShares_26 : decode cX5_tryShares 26 = .ok (.iload 4, 2) := by decide +kernel
theorem dX5_tryShares_28 : decode cX5_tryShares 28 = .ok (.iload_n 2, 1) := by decide +kernel
theorem dX5_tryShares_29 : decode cX5_tryShares 29 = .ok (.iadd, 1) := by decide +kernel
theorem dX5_tryShares_30 : decode cX5_tryShares 30 = .ok (.aload_n 0, 1) := by decide +kernel
theorem dX5_tryShares_31 : decode cX5_tryShares 31 = .ok (.getfield 98, 3) := by decide +kernel
theorem dX5_tryShares_34 : decode cX5_tryShares 34 = .ok (.if_icmp .gt 4, 3) := by decide +kernel
theorem dX5_tryShares_37 : decode cX5_tryShares 37 = .ok (.return_, 1) := by decide +kernel
theorem dX5_tryShares_38 : decode cX5_tryShares 38 = .ok (.iload_n 1, 1) := by decide +kernel
theorem dX5_tryShares_39 : decode cX5_tryShares 39 = .ok (.aload_n 0, 1) := by decide +kernel
theorem dX5_tryShares_40 : decode cX5_tryShares 40 = .ok (.getfield 45, 3) := by decide +kernel
theorem dX5_tryShares_43 : decode cX5_tryShares 43 = .ok (.if_icmp .ne 25, 3) := by decide +kernel
theorem dX5_tryShares_46 : decode cX5_tryShares 46 = .ok (.aload_n 0, 1) := by decide +kernel
theorem dX5_tryShares_47 : decode cX5_tryShares 47 = .ok (.iload 4, 2) := by decide +kernel
theorem dX5_tryShares_49 : decode cX5_tryShares 49 = .ok (.putfield 98, 3) := by decide +kernel
theorem dX5_tryShares_52 : decode cX5_tryShares 52 = .ok (.aload_n 0, 1) := by decide +kernel
theorem dX5_tryShares_53 : decode cX5_tryShares 53 = .ok (.getfield 17, 3) := by decide +kernel
theorem dX5_tryShares_56 : decode cX5_tryShares 56 = .ok (.iconst 0, 1) := by decide +kernel
theorem dX5_tryShares_57 : decode cX5_tryShares 57 = .ok (.aload_n 0, 1) := by decide +kernel
theorem dX5_tryShares_58 : decode cX5_tryShares 58 = .ok (.getfield 24, 3) := by decide +kernel
theorem dX5_tryShares_61 : decode cX5_tryShares 61 = .ok (.iconst 0, 1) := by decide +kernel
theorem dX5_tryShares_62 : decode cX5_tryShares 62 = .ok (.bipush 7, 2) := by decide +kernel
theorem dX5_tryShares_64 : decode cX5_tryShares 64 = .ok (.invokestatic 91, 3) := by decide +kernel
theorem dX5_tryShares_67 : decode cX5_tryShares 67 = .ok (.return_, 1) := by decide +kernel
theorem dX5_tryShares_68 : decode cX5_tryShares 68 = .ok (.aload_n 3, 1) := by decide +kernel
theorem dX5_tryShares_69 : decode cX5_tryShares 69 = .ok (.iload_n 1, 1) := by decide +kernel
theorem dX5_tryShares_70 : decode cX5_tryShares 70 = .ok (.invokevirtual 108, 3) := by decide +kernel
theorem dX5_tryShares_73 : decode cX5_tryShares 73 = .ok (.istore 5, 2) := by decide +kernel
theorem dX5_tryShares_75 : decode cX5_tryShares 75 = .ok (.aload_n 3, 1) := by decide +kernel
theorem dX5_tryShares_76 : decode cX5_tryShares 76 = .ok (.iload 5, 2) := by decide +kernel
theorem dX5_tryShares_78 : decode cX5_tryShares 78 = .ok (.invokevirtual 111, 3) := by decide +kernel
theorem dX5_tryShares_81 : decode cX5_tryShares 81 = .ok (.istore 6, 2) := by decide +kernel
theorem dX5_tryShares_83 : decode cX5_tryShares 83 = .ok (.aload_n 3, 1) := by decide +kernel
theorem dX5_tryShares_84 : decode cX5_tryShares 84 = .ok (.iload 5, 2) := by decide +kernel
theorem dX5_tryShares_86 : decode cX5_tryShares 86 = .ok (.invokevirtual 115, 3) := by decide +kernel
theorem dX5_tryShares_89 : decode cX5_tryShares 89 = .ok (.istore 7, 2) := by decide +kernel
theorem dX5_tryShares_91 : decode cX5_tryShares 91 = .ok (.aload_n 0, 1) := by decide +kernel
theorem dX5_tryShares_92 : decode cX5_tryShares 92 = .ok (.getfield 11, 3) := by decide +kernel
theorem dX5_tryShares_95 : decode cX5_tryShares 95 = .ok (.iload_n 1, 1) := by decide +kernel
theorem dX5_tryShares_96 : decode cX5_tryShares 96 = .ok (.iconst 1, 1) := by decide +kernel
theorem dX5_tryShares_97 : decode cX5_tryShares 97 = .ok (.iadd, 1) := by decide +kernel
theorem dX5_tryShares_98 : decode cX5_tryShares 98 = .ok (.aaload, 1) := by decide +kernel
theorem dX5_tryShares_99 : decode cX5_tryShares 99 = .ok (.astore 8, 2) := by decide +kernel
theorem dX5_tryShares_101 : decode cX5_tryShares 101 = .ok (.iconst 0, 1) := by decide +kernel
theorem dX5_tryShares_102 : decode cX5_tryShares 102 = .ok (.istore 9, 2) := by decide +kernel
theorem dX5_tryShares_104 : decode cX5_tryShares 104 = .ok (.iload 9, 2) := by decide +kernel
theorem dX5_tryShares_106 : decode cX5_tryShares 106 = .ok (.aload_n 3, 1) := by decide +kernel
theorem dX5_tryShares_107 : decode cX5_tryShares 107 = .ok (.getfield 121, 3) := by decide +kernel
theorem dX5_tryShares_110 : decode cX5_tryShares 110 = .ok (.if_icmp .ge 68, 3) := by decide +kernel
theorem dX5_tryShares_113 : decode cX5_tryShares 113 = .ok (.iload 6, 2) := by decide +kernel
theorem dX5_tryShares_115 : decode cX5_tryShares 115 = .ok (.ifCond .eq 14, 3) := by decide +kernel
theorem dX5_tryShares_118 : decode cX5_tryShares 118 = .ok (.aload_n 3, 1) := by decide +kernel
theorem dX5_tryShares_119 : decode cX5_tryShares 119 = .ok (.iload 9, 2) := by decide +kernel
theorem dX5_tryShares_121 : decode cX5_tryShares 121 = .ok (.iload 7, 2) := by decide +kernel
theorem dX5_tryShares_123 : decode cX5_tryShares 123 = .ok (.invokevirtual 124, 3) := by decide +kernel
theorem dX5_tryShares_126 : decode cX5_tryShares 126 = .ok (.ifCond .eq 46, 3) := by decide +kernel
theorem dX5_tryShares_129 : decode cX5_tryShares 129 = .ok (.aload 8, 2) := by decide +kernel
theorem dX5_tryShares_131 : decode cX5_tryShares 131 = .ok (.aload_n 3, 1) := by decide +kernel
theorem dX5_tryShares_132 : decode cX5_tryShares 132 = .ok (.invokevirtual 81, 3) := by decide +kernel
theorem dX5_tryShares_135 : decode cX5_tryShares 135 = .ok (.aload 8, 2) := by decide +kernel
theorem dX5_tryShares_137 : decode cX5_tryShares 137 = .ok (.iload 9, 2) := by decide +kernel
theorem dX5_tryShares_139 : decode cX5_tryShares 139 = .ok (.iload 5, 2) := by decide +kernel
theorem dX5_tryShares_141 : decode cX5_tryShares 141 = .ok (.invokevirtual 128, 3) := by decide +kernel
theorem dX5_tryShares_144 : decode cX5_tryShares 144 = .ok (.aload_n 0, 1) := by decide +kernel
theorem dX5_tryShares_145 : decode cX5_tryShares 145 = .ok (.getfield 17, 3) := by decide +kernel
theorem dX5_tryShares_148 : decode cX5_tryShares 148 = .ok (.iload_n 1, 1) := by decide +kernel
theorem dX5_tryShares_149 : decode cX5_tryShares 149 = .ok (.iload 9, 2) := by decide +kernel
theorem dX5_tryShares_151 : decode cX5_tryShares 151 = .ok (.iastore, 1) := by decide +kernel
theorem dX5_tryShares_152 : decode cX5_tryShares 152 = .ok (.aload_n 0, 1) := by decide +kernel
theorem dX5_tryShares_153 : decode cX5_tryShares 153 = .ok (.iload_n 1, 1) := by decide +kernel
theorem dX5_tryShares_154 : decode cX5_tryShares 154 = .ok (.iconst 1, 1) := by decide +kernel
theorem dX5_tryShares_155 : decode cX5_tryShares 155 = .ok (.iadd, 1) := by decide +kernel
theorem dX5_tryShares_156 : decode cX5_tryShares 156 = .ok (.iload 6, 2) := by decide +kernel
theorem dX5_tryShares_158 : decode cX5_tryShares 158 = .ok (.ifCond .eq 7, 3) := by decide +kernel
theorem dX5_tryShares_161 : decode cX5_tryShares 161 = .ok (.iload_n 2, 1) := by decide +kernel
theorem dX5_tryShares_162 : decode cX5_tryShares 162 = .ok (.goto 7, 3) := by decide +kernel
theorem dX5_tryShares_165 : decode cX5_tryShares 165 = .ok (.iload_n 2, 1) := by decide +kernel
theorem dX5_tryShares_166 : decode cX5_tryShares 166 = .ok (.iload 7, 2) := by decide +kernel
theorem dX5_tryShares_168 : decode cX5_tryShares 168 = .ok (.isub, 1) := by decide +kernel
theorem dX5_tryShares_169 : decode cX5_tryShares 169 = .ok (.invokevirtual 105, 3) := by decide +kernel
theorem dX5_tryShares_172 : decode cX5_tryShares 172 = .ok (.iinc 9 1, 3) := by decide +kernel
theorem dX5_tryShares_175 : decode cX5_tryShares 175 = .ok (.goto (-71), 3) := by decide +kernel
theorem dX5_tryShares_178 : decode cX5_tryShares 178 = .ok (.return_, 1) := by decide +kernel
theorem dX5_shareAt_0 : decode cX5_shareAt 0 = .ok (.aload_n 0, 1) := by decide +kernel
theorem dX5_shareAt_1 : decode cX5_shareAt 1 = .ok (.getfield 98, 3) := by decide +kernel
theorem dX5_shareAt_4 : decode cX5_shareAt 4 = .ok (.ldc 97, 2) := by decide +kernel
theorem dX5_shareAt_6 : decode cX5_shareAt 6 = .ok (.if_icmp .eq 30, 3) := by decide +kernel
theorem dX5_shareAt_9 : decode cX5_shareAt 9 = .ok (.iload_n 1, 1) := by decide +kernel
theorem dX5_shareAt_10 : decode cX5_shareAt 10 = .ok (.ifCond .lt 26, 3) := by decide +kernel
theorem dX5_shareAt_13 : decode cX5_shareAt 13 = .ok (.iload_n 1, 1) := by decide +kernel
theorem dX5_shareAt_14 : decode cX5_shareAt 14 = .ok (.aload_n 0, 1) := by decide +kernel
theorem dX5_shareAt_15 : decode cX5_shareAt 15 = .ok (.getfield 45, 3) := by decide +kernel
theorem dX5_shareAt_18 : decode cX5_shareAt 18 = .ok (.if_icmp .ge 18, 3) := by decide +kernel
theorem dX5_shareAt_21 : decode cX5_shareAt 21 = .ok (.iload_n 1, 1) := by decide +kernel
theorem dX5_shareAt_22 : decode cX5_shareAt 22 = .ok (.bipush 7, 2) := by decide +kernel
theorem dX5_shareAt_24 : decode cX5_shareAt 24 = .ok (.if_icmp .ge 12, 3) := by decide +kernel
theorem dX5_shareAt_27 : decode cX5_shareAt 27 = .ok (.aload_n 0, 1) := by decide +kernel
theorem dX5_shareAt_28 : decode cX5_shareAt 28 = .ok (.getfield 24, 3) := by decide +kernel
theorem dX5_shareAt_31 : decode cX5_shareAt 31 = .ok (.iload_n 1, 1) := by decide +kernel
theorem dX5_shareAt_32 : decode cX5_shareAt 32 = .ok (.iaload, 1) := by decide +kernel
theorem dX5_shareAt_33 : decode cX5_shareAt 33 = .ok (.goto 5, 3) := by decide +kernel
theorem dX5_shareAt_36 : decode cX5_shareAt 36 = .ok (.ldc 97, 2) := by decide +kernel
theorem dX5_shareAt_38 : decode cX5_shareAt 38 = .ok (.ireturn, 1) := by decide +kernel
theorem dX6_init_0 : decode cX6_init 0 = .ok (.aload_n 0, 1) := by decide +kernel
theorem dX6_init_1 : decode cX6_init 1 = .ok (.invokespecial 3, 3) := by decide +kernel
theorem dX6_init_4 : decode cX6_init 4 = .ok (.aload_n 0, 1) := by decide +kernel
theorem dX6_init_5 : decode cX6_init 5 = .ok (.bipush 120, 2) := by decide +kernel
theorem dX6_init_7 : decode cX6_init 7 = .ok (.newarray .int, 2) := by decide +kernel
theorem dX6_init_9 : decode cX6_init 9 = .ok (.putfield 9, 3) := by decide +kernel
theorem dX6_init_12 : decode cX6_init 12 = .ok (.aload_n 0, 1) := by decide +kernel
theorem dX6_init_13 : decode cX6_init 13 = .ok (.new 15, 3) := by decide +kernel
theorem dX6_init_16 : decode cX6_init 16 = .ok (.dup, 1) := by decide +kernel
theorem dX6_init_17 : decode cX6_init 17 = .ok (.invokespecial 17, 3) := by decide +kernel
theorem dX6_init_20 : decode cX6_init 20 = .ok (.putfield 18, 3) := by decide +kernel
theorem dX6_init_23 : decode cX6_init 23 = .ok (.return_, 1) := by decide +kernel
theorem dX6_add_0 : decode cX6_add 0 = .ok (.aload_n 0, 1) := by decide +kernel
theorem dX6_add_1 : decode cX6_add 1 = .ok (.getfield 22, 3) := by decide +kernel
theorem dX6_add_4 : decode cX6_add 4 = .ok (.bipush 120, 2) := by decide +kernel
theorem dX6_add_6 : decode cX6_add 6 = .ok (.if_icmp .lt 5, 3) := by decide +kernel
theorem dX6_add_9 : decode cX6_add 9 = .ok (.iconst 0, 1) := by decide +kernel
theorem dX6_add_10 : decode cX6_add 10 = .ok (.ireturn, 1) := by decide +kernel
theorem dX6_add_11 : decode cX6_add 11 = .ok (.aload_n 0, 1) := by decide +kernel
theorem dX6_add_12 : decode cX6_add 12 = .ok (.getfield 9, 3) := by decide +kernel
theorem dX6_add_15 : decode cX6_add 15 = .ok (.aload_n 0, 1) := by decide +kernel
theorem dX6_add_16 : decode cX6_add 16 = .ok (.getfield 22, 3) := by decide +kernel
theorem dX6_add_19 : decode cX6_add 19 = .ok (.iload_n 1, 1) := by decide +kernel
theorem dX6_add_20 : decode cX6_add 20 = .ok (.iastore, 1) := by decide +kernel
theorem dX6_add_21 : decode cX6_add 21 = .ok (.aload_n 0, 1) := by decide +kernel
theorem dX6_add_22 : decode cX6_add 22 = .ok (.dup, 1) := by decide +kernel
theorem dX6_add_23 : decode cX6_add 23 = .ok (.getfield 22, 3) := by decide +kernel
theorem dX6_add_26 : decode cX6_add 26 = .ok (.iconst 1, 1) := by decide +kernel
theorem dX6_add_27 : decode cX6_add 27 = .ok (.iadd, 1) := by decide +kernel
theorem dX6_add_28 : decode cX6_add 28 = .ok (.putfield 22, 3) := by decide +kernel
theorem dX6_add_31 : decode cX6_add 31 = .ok (.iconst 1, 1) := by decide +kernel
theorem dX6_add_32 : decode cX6_add 32 = .ok (.ireturn, 1) := by decide +kernel
theorem dX6_readAll_0 : decode cX6_readAll 0 = .ok (.aload_n 0, 1) := by decide +kernel
theorem dX6_readAll_1 : decode cX6_readAll 1 = .ok (.iconst 0, 1) := by decide +kernel
theorem dX6_readAll_2 : decode cX6_readAll 2 = .ok (.putfield 26, 3) := by decide +kernel
theorem dX6_readAll_5 : decode cX6_readAll 5 = .ok (.aload_n 0, 1) := by decide +kernel
theorem dX6_readAll_6 : decode cX6_readAll 6 = .ok (.iconst 0, 1) := by decide +kernel
theorem dX6_readAll_7 : decode cX6_readAll 7 = .ok (.putfield 29, 3) := by decide +kernel
theorem dX6_readAll_10 : decode cX6_readAll 10 = .ok (.aload_n 0, 1) := by decide +kernel
theorem dX6_readAll_11 : decode cX6_readAll 11 = .ok (.getfield 18, 3) := by decide +kernel
theorem dX6_readAll_14 : decode cX6_readAll 14 = .ok (.invokevirtual 32, 3) := by decide +kernel
theorem dX6_readAll_17 : decode cX6_readAll 17 = .ok (.aload_n 0, 1) := by decide +kernel
theorem dX6_readAll_18 : decode cX6_readAll 18 = .ok (.invokevirtual 35, 3) := by decide +kernel
theorem dX6_readAll_21 : decode cX6_readAll 21 = .ok (.aload_n 0, 1) := by decide +kernel
theorem dX6_readAll_22 : decode cX6_readAll 22 = .ok (.invokevirtual 38, 3) := by decide +kernel
theorem dX6_readAll_25 : decode cX6_readAll 25 = .ok (.aload_n 0, 1) := by decide +kernel
theorem dX6_readAll_26 : decode cX6_readAll 26 = .ok (.invokevirtual 41, 3) := by decide +kernel
theorem dX6_readAll_29 : decode cX6_readAll 29 = .ok (.aload_n 0, 1) := by decide +kernel
theorem dX6_readAll_30 : decode cX6_readAll 30 = .ok (.iconst 0, 1) := by decide +kernel
theorem dX6_readAll_31 : decode cX6_readAll 31 = .ok (.putfield 22, 3) := by decide +kernel
theorem dX6_readAll_34 : decode cX6_readAll 34 = .ok (.aload_n 0, 1) := by decide +kernel
theorem dX6_readAll_35 : decode cX6_readAll 35 = .ok (.getfield 29, 3) := by decide +kernel
theorem dX6_readAll_38 : decode cX6_readAll 38 = .ok (.ifCond .eq 11, 3) := by decide +kernel
theorem dX6_readAll_41 : decode cX6_readAll 41 = .ok (.aload_n 0, 1) := by decide +kernel
theorem dX6_readAll_42 : decode cX6_readAll 42 = .ok (.aload_n 0, 1) := by decide +kernel
theorem dX6_readAll_43 : decode cX6_readAll 43 = .ok (.getfield 29, 3) := by decide +kernel
theorem dX6_readAll_46 : decode cX6_readAll 46 = .ok (.putfield 44, 3) := by decide +kernel
theorem dX6_readAll_49 : decode cX6_readAll 49 = .ok (.aload_n 0, 1) := by decide +kernel
theorem dX6_readAll_50 : decode cX6_readAll 50 = .ok (.getfield 29, 3) := by decide +kernel
theorem dX6_readAll_53 : decode cX6_readAll 53 = .ok (.ifCond .ne 7, 3) := by decide +kernel
theorem dX6_readAll_56 : decode cX6_readAll 56 = .ok (.iconst 1, 1) := by decide +kernel
theorem dX6_readAll_57 : decode cX6_readAll 57 = .ok (.goto 4, 3) := by decide +kernel
theorem dX6_readAll_60 : decode cX6_readAll 60 = .ok (.iconst 0, 1) := by decide +kernel
theorem dX6_readAll_61 : decode cX6_readAll 61 = .ok (.ireturn, 1) := by decide +kernel
theorem dX6_readLaw_0 : decode cX6_readLaw 0 = .ok (.aload_n 0, 1) := by decide +kernel
theorem dX6_readLaw_1 : decode cX6_readLaw 1 = .ok (.bipush 98, 2) := by decide +kernel
theorem dX6_readLaw_3 : decode cX6_readLaw 3 = .ok (.invokevirtual 47, 3) := by decide +kernel
theorem dX6_readLaw_6 : decode cX6_readLaw 6 = .ok (.aload_n 0, 1) := by decide +kernel
theorem dX6_readLaw_7 : decode cX6_readLaw 7 = .ok (.getfield 18, 3) := by decide +kernel
theorem dX6_readLaw_10 : decode cX6_readLaw 10 = .ok (.aload_n 0, 1) := by decide +kernel
theorem dX6_readLaw_11 : decode cX6_readLaw 11 = .ok (.iconst 0, 1) := by decide +kernel
theorem dX6_readLaw_12 : decode cX6_readLaw 12 = .ok (.bipush 20, 2) := by decide +kernel
theorem dX6_readLaw_14 : decode cX6_readLaw 14 = .ok (.invokevirtual 51, 3) := by decide +kernel
theorem dX6_readLaw_17 : decode cX6_readLaw 17 = .ok (.putfield 55, 3) := by decide +kernel
theorem dX6_readLaw_20 : decode cX6_readLaw 20 = .ok (.aload_n 0, 1) := by decide +kernel
theorem dX6_readLaw_21 : decode cX6_readLaw 21 = .ok (.bipush 44, 2) := by decide +kernel
theorem dX6_readLaw_23 : decode cX6_readLaw 23 = .ok (.invokevirtual 47, 3) := by decide +kernel
theorem dX6_readLaw_26 : decode cX6_readLaw 26 = .ok (.aload_n 0, 1) := by decide +kernel
theorem dX6_readLaw_27 : decode cX6_readLaw 27 = .ok (.getfield 18, 3) := by decide +kernel
theorem dX6_readLaw_30 : decode cX6_readLaw 30 = .ok (.aload_n 0, 1) := by decide +kernel
theorem dX6_readLaw_31 : decode cX6_readLaw 31 = .ok (.iconst 1, 1) := by decide +kernel
theorem dX6_readLaw_32 : decode cX6_readLaw 32 = .ok (.bipush 20, 2) := by decide +kernel
theorem dX6_readLaw_34 : decode cX6_readLaw 34 = .ok (.invokevirtual 51, 3) := by decide +kernel
theorem dX6_readLaw_37 : decode cX6_readLaw 37 = .ok (.putfield 58, 3) := by decide +kernel
theorem dX6_readLaw_40 : decode cX6_readLaw 40 = .ok (.aload_n 0, 1) := by decide +kernel
theorem dX6_readLaw_41 : decode cX6_readLaw 41 = .ok (.bipush 59, 2) := by decide +kernel
theorem dX6_readLaw_43 : decode cX6_readLaw 43 = .ok (.invokevirtual 47, 3) := by decide +kernel
theorem dX6_readLaw_46 : decode cX6_readLaw 46 = .ok (.return_, 1) := by decide +kernel
theorem dX6_readTellers_0 : decode cX6_readTellers 0 = .ok (.iconst 0, 1) := by decide +kernel
theorem dX6_readTellers_1 : decode cX6_readTellers 1 = .ok (.istore_n 1, 1) := by decide +kernel
theorem dX6_readTellers_2 : decode cX6_readTellers 2 = .ok (.iload_n 1, 1) := by decide +kernel
theorem dX6_readTellers_3 : decode cX6_readTellers 3 = .ok (.iconst 4, 1) := by decide +kernel
theorem dX6_readTellers_4 : decode cX6_readTellers 4 = .ok (.if_icmp .gt 105, 3) := by decide +kernel
theorem dX6_readTellers_7 : decode cX6_readTellers 7 = .ok (.aload_n 0, 1) := by decide +kernel
theorem dX6_readTellers_8 : decode cX6_readTellers 8 = .ok (.getfield 29, 3) := by decide +kernel
theorem dX6_readTellers_11 : decode cX6_readTellers 11 = .ok (.ifCond .ne 98, 3) := by decide +kernel
theorem dX6_readTellers_14 : decode cX6_readTellers 14 = .ok (.aload_n 0, 1) := by decide +kernel
theorem dX6_readTellers_15 : decode cX6_readTellers 15 = .ok (.invokevirtual 61, 3) := by decide +kernel
theorem dX6_readTellers_18 : decode cX6_readTellers 18 = .ok (.invokestatic 65, 3) := by decide +kernel
theorem dX6_readTellers_21 : decode cX6_readTellers 21 = .ok (.istore_n 2, 1) := by decide +kernel
theorem dX6_readTellers_22 : decode cX6_readTellers 22 = .ok (.iload_n 2, 1) := by decide +kernel
theorem dX6_readTellers_23 : decode cX6_readTellers 23 = .ok (.ldc 69, 2) := by decide +kernel
theorem dX6_readTellers_25 : decode cX6_readTellers 25 = .ok (.if_icmp .ne 17, 3) := by decide +kernel
theorem dX6_readTellers_28 : decode cX6_readTellers 28 = .ok (.aload_n 0, 1) := by decide +kernel
theorem dX6_readTellers_29 : decode cX6_readTellers 29 = .ok (.iload_n 1, 1) := by decide +kernel
theorem dX6_readTellers_30 : decode cX6_readTellers 30 = .ok (.ifCond .ne 7, 3) := by decide +kernel
theorem dX6_readTellers_33 : decode cX6_readTellers 33 = .ok (.iconst 1, 1) := by decide +kernel
theorem dX6_readTellers_34 : decode cX6_readTellers 34 = .ok (.goto 4, 3) := by decide +kernel
theorem dX6_readTellers_37 : decode cX6_readTellers 37 = .ok (.iconst 0, 1) := by decide +kernel
theorem dX6_readTellers_38 : decode cX6_readTellers 38 = .ok (.putfield 29, 3) := by decide +kernel
theorem dX6_readTellers_41 : decode cX6_readTellers 41 = .ok (.return_, 1) := by decide +kernel
theorem dX6_readTellers_42 : decode cX6_readTellers 42 = .ok (.iload_n 1, 1) := by decide +kernel
theorem dX6_readTellers_43 : decode cX6_readTellers 43 = .ok (.iconst 4, 1) := by decide +kernel
theorem dX6_readTellers_44 : decode cX6_readTellers 44 = .ok (.if_icmp .ne 9, 3) := by decide +kernel
theorem dX6_readTellers_47 : decode cX6_readTellers 47 = .ok (.aload_n 0, 1) := by decide +kernel
theorem dX6_readTellers_48 : decode cX6_readTellers 48 = .ok (.iconst 3, 1) := by decide +kernel
theorem dX6_readTellers_49 : decode cX6_readTellers 49 = .ok (.putfield 29, 3) := by decide +kernel
theorem dX6_readTellers_52 : decode cX6_readTellers 52 = .ok (.return_, 1) := by decide +kernel
theorem dX6_readTellers_53 : decode cX6_readTellers 53 = .ok (.aload_n 0, 1) := by decide +kernel
theorem dX6_readTellers_54 : decode cX6_readTellers 54 = .ok (.dup, 1) := by decide +kernel
theorem dX6_readTellers_55 : decode cX6_readTellers 55 = .ok (.getfield 26, 3) := by decide +kernel
theorem dX6_readTellers_58 : decode cX6_readTellers 58 = .ok (.iconst 1, 1) := by decide +kernel
theorem dX6_readTellers_59 : decode cX6_readTellers 59 = .ok (.iadd, 1) := by decide +kernel
theorem dX6_readTellers_60 : decode cX6_readTellers 60 = .ok (.putfield 26, 3) := by decide +kernel
theorem dX6_readTellers_63 : decode cX6_readTellers 63 = .ok (.aload_n 0, 1) := by decide +kernel
theorem dX6_readTellers_64 : decode cX6_readTellers 64 = .ok (.iconst 0, 1) := by decide +kernel
theorem dX6_readTellers_65 : decode cX6_readTellers 65 = .ok (.bipush 60, 2) := by decide +kernel
theorem dX6_readTellers_67 : decode cX6_readTellers 67 = .ok (.invokevirtual 51, 3) := by decide +kernel
theorem dX6_readTellers_70 : decode cX6_readTellers 70 = .ok (.istore_n 3, 1) := by decide +kernel
theorem dX6_readTellers_71 : decode cX6_readTellers 71 = .ok (.aload_n 0, 1) := by decide +kernel
theorem dX6_readTellers_72 : decode cX6_readTellers 72 = .ok (.bipush 44, 2) := by decide +kernel
theorem dX6_readTellers_74 : decode cX6_readTellers 74 = .ok (.invokevirtual 47, 3) := by decide +kernel
theorem dX6_readTellers_77 : decode cX6_readTellers 77 = .ok (.aload_n 0, 1) := by decide +kernel
theorem dX6_readTellers_78 : decode cX6_readTellers 78 = .ok (.iconst 1, 1) := by decide +kernel
theorem dX6_readTellers_79 : decode cX6_readTellers 79 = .ok (.bipush 9, 2) := by decide +kernel
theorem dX6_readTellers_81 : decode cX6_readTellers 81 = .ok (.invokevirtual 51, 3) := by decide +kernel
theorem dX6_readTellers_84 : decode cX6_readTellers 84 = .ok (.istore 4, 2) := by decide +kernel
theorem dX6_readTellers_86 : decode cX6_readTellers 86 = .ok (.aload_n 0, 1) := by decide +kernel
theorem dX6_readTellers_87 : decode cX6_readTellers 87 = .ok (.bipush 59, 2) := by decide +kernel
theorem dX6_readTellers_89 : decode cX6_readTellers 89 = .ok (.invokevirtual 47, 3) := by decide +kernel
theorem dX6_readTellers_92 : decode cX6_readTellers 92 = .ok (.aload_n 0, 1) := by decide +kernel
theorem dX6_readTellers_93 : decode cX6_readTellers 93 = .ok (.getfield 18, 3) := by decide +kernel
theorem dX6_readTellers_96 : decode cX6_readTellers 96 = .ok (.iload_n 2, 1) := by decide +kernel
theorem dX6_readTellers_97 : decode cX6_readTellers 97 = .ok (.iload_n 3, 1) := by decide +kernel
theorem dX6_readTellers_98 : decode cX6_readTellers 98 = .ok (.iload 4, 2) := by decide +kernel
theorem dX6_readTellers_100 : decode cX6_readTellers 100 = .ok (.invokevirtual 70, 3) := by decide +kernel
theorem dX6_readTellers_103 : decode cX6_readTellers 103 = .ok (.iinc 1 1, 3) := by decide +kernel
theorem dX6_readTellers_106 : decode cX6_readTellers 106 = .ok (.goto (-104), 3) := by decide +kernel
theorem dX6_readTellers_109 : decode cX6_readTellers 109 = .ok (.return_, 1) := by decide +kernel
theorem dX6_readPapers_0 : decode cX6_readPapers 0 = .ok (.iconst 0, 1) := by decide +kernel
theorem dX6_readPapers_1 : decode cX6_readPapers 1 = .ok (.istore_n 1, 1) := by decide +kernel
theorem dX6_readPapers_2 : decode cX6_readPapers 2 = .ok (.iload_n 1, 1) := by decide +kernel
theorem dX6_readPapers_3 : decode cX6_readPapers 3 = .ok (.bipush 7, 2) := by decide +kernel
theorem dX6_readPapers_5 : decode cX6_readPapers 5 = .ok (.if_icmp .gt 106, 3) := by decide +kernel
theorem dX6_readPapers_8 : decode cX6_readPapers 8 = .ok (.aload_n 0, 1) := by decide +kernel
theorem dX6_readPapers_9 : decode cX6_readPapers 9 = .ok (.getfield 29, 3) := by decide +kernel
theorem dX6_readPapers_12 : decode cX6_readPapers 12 = .ok (.ifCond .ne 99, 3) := by decide +kernel
theorem dX6_readPapers_15 : decode cX6_readPapers 15 = .ok (.aload_n 0, 1) := by decide +kernel
theorem dX6_readPapers_16 : decode cX6_readPapers 16 = .ok (.getfield 26, 3) := by decide +kernel
theorem dX6_readPapers_19 : decode cX6_readPapers 19 = .ok (.aload_n 0, 1) := by decide +kernel
theorem dX6_readPapers_20 : decode cX6_readPapers 20 = .ok (.getfield 22, 3) := by decide +kernel
theorem dX6_readPapers_23 : decode cX6_readPapers 23 = .ok (.if_icmp .ge 88, 3) := by decide +kernel
theorem dX6_readPapers_26 : decode cX6_readPapers 26 = .ok (.aload_n 0, 1) := by decide +kernel
theorem dX6_readPapers_27 : decode cX6_readPapers 27 = .ok (.invokevirtual 61, 3) := by decide +kernel
theorem dX6_readPapers_30 : decode cX6_readPapers 30 = .ok (.istore_n 2, 1) := by decide +kernel
theorem dX6_readPapers_31 : decode cX6_readPapers 31 = .ok (.iload_n 2, 1) := by decide +kernel
theorem dX6_readPapers_32 : decode cX6_readPapers 32 = .ok (.bipush 100, 2) := by decide +kernel
theorem dX6_readPapers_34 : decode cX6_readPapers 34 = .ok (.if_icmp .eq 15, 3) := by decide +kernel
theorem dX6_readPapers_37 : decode cX6_readPapers 37 = .ok (.iload_n 2, 1) := by decide +kernel
theorem dX6_readPapers_38 : decode cX6_readPapers 38 = .ok (.bipush 112, 2) := by decide +kernel
theorem dX6_readPapers_40 : decode cX6_readPapers 40 = .ok (.if_icmp .eq 9, 3) := by decide +kernel
theorem dX6_readPapers_43 : decode cX6_readPapers 43 = .ok (.aload_n 0, 1) := by decide +kernel
theorem dX6_readPapers_44 : decode cX6_readPapers 44 = .ok (.iconst 1, 1) := by decide +kernel
theorem dX6_readPapers_45 : decode cX6_readPapers 45 = .ok (.putfield 29, 3) := by decide +kernel
theorem dX6_readPapers_48 : decode cX6_readPapers 48 = .ok (.return_, 1) := by decide +kernel
theorem dX6_readPapers_49 : decode cX6_readPapers 49 = .ok (.iload_n 1, 1) := by decide +kernel
theorem dX6_readPapers_50 : decode cX6_readPapers 50 = .ok (.bipush 7, 2) := by decide +kernel
theorem dX6_readPapers_52 : decode cX6_readPapers 52 = .ok (.if_icmp .ne 9, 3) := by decide +kernel
theorem dX6_readPapers_55 : decode cX6_readPapers 55 = .ok (.aload_n 0, 1) := by decide +kernel
theorem dX6_readPapers_56 : decode cX6_readPapers 56 = .ok (.iconst 3, 1) := by decide +kernel
theorem dX6_readPapers_57 : decode cX6_readPapers 57 = .ok (.putfield 29, 3) := by decide +kernel
theorem dX6_readPapers_60 : decode cX6_readPapers 60 = .ok (.return_, 1) := by decide +kernel
theorem dX6_readPapers_61 : decode cX6_readPapers 61 = .ok (.aload_n 0, 1) := by decide +kernel
theorem dX6_readPapers_62 : decode cX6_readPapers 62 = .ok (.dup, 1) := by decide +kernel
theorem dX6_readPapers_63 : decode cX6_readPapers 63 = .ok (.getfield 26, 3) := by decide +kernel
theorem dX6_readPapers_66 : decode cX6_readPapers 66 = .ok (.iconst 1, 1) := by decide +kernel
theorem dX6_readPapers_67 : decode cX6_readPapers 67 = .ok (.iadd, 1) := by decide +kernel
theorem dX6_readPapers_68 : decode cX6_readPapers 68 = .ok (.putfield 26, 3) := by decide +kernel
theorem dX6_readPapers_71 : decode cX6_readPapers 71 = .ok (.aload_n 0, 1) := by decide +kernel
theorem dX6_readPapers_72 : decode cX6_readPapers 72 = .ok (.iconst 1, 1) := by decide +kernel
theorem dX6_readPapers_73 : decode cX6_readPapers 73 = .ok (.bipush 30, 2) := by decide +kernel
theorem dX6_readPapers_75 : decode cX6_readPapers 75 = .ok (.invokevirtual 51, 3) := by decide +kernel
theorem dX6_readPapers_78 : decode cX6_readPapers 78 = .ok (.istore_n 3, 1) := by decide +kernel
theorem dX6_readPapers_79 : decode cX6_readPapers 79 = .ok (.aload_n 0, 1) := by decide +kernel
theorem dX6_readPapers_80 : decode cX6_readPapers 80 = .ok (.bipush 59, 2) := by decide +kernel
theorem dX6_readPapers_82 : decode cX6_readPapers 82 = .ok (.invokevirtual 47, 3) := by decide +kernel
theorem dX6_readPapers_85 : decode cX6_readPapers 85 = .ok (.aload_n 0, 1) := by decide +kernel
theorem dX6_readPapers_86 : decode cX6_readPapers 86 = .ok (.getfield 18, 3) := by decide +kernel
theorem dX6_readPapers_89 : decode cX6_readPapers 89 = .ok (.iload_n 2, 1) := by decide +kernel
theorem dX6_readPapers_90 : decode cX6_readPapers 90 = .ok (.bipush 100, 2) := by decide +kernel
theorem dX6_readPapers_92 : decode cX6_readPapers 92 = .ok (.if_icmp .ne 7, 3) := by decide +kernel
theorem dX6_readPapers_95 : decode cX6_readPapers 95 = .ok (.iconst 1, 1) := by decide +kernel
theorem dX6_readPapers_96 : decode cX6_readPapers 96 = .ok (.goto 4, 3) := by decide +kernel
theorem dX6_readPapers_99 : decode cX6_readPapers 99 = .ok (.iconst 0, 1) := by decide +kernel
theorem dX6_readPapers_100 : decode cX6_readPapers 100 = .ok (.iload_n 3, 1) := by decide +kernel
theorem dX6_readPapers_101 : decode cX6_readPapers 101 = .ok (.invokevirtual 74, 3) := by decide +kernel
theorem dX6_readPapers_104 : decode cX6_readPapers 104 = .ok (.pop, 1) := by decide +kernel
theorem dX6_readPapers_105 : decode cX6_readPapers 105 = .ok (.iinc 1 1, 3) := by decide +kernel
theorem dX6_readPapers_108 : decode cX6_readPapers 108 = .ok (.goto (-106), 3) := by decide +kernel
theorem dX6_readPapers_111 : decode cX6_readPapers 111 = .ok (.return_, 1) := by decide +kernel
theorem dX6_next_0 : decode cX6_next 0 = .ok (.aload_n 0, 1) := by decide +kernel
theorem dX6_next_1 : decode cX6_next 1 = .ok (.aload_n 0, 1) := by decide +kernel
theorem dX6_next_2 : decode cX6_next 2 = .ok (.getfield 26, 3) := by decide +kernel
theorem dX6_next_5 : decode cX6_next 5 = .ok (.invokevirtual 78, 3) := by decide +kernel
theorem dX6_next_8 : decode cX6_next 8 = .ok (.ireturn, 1) := by decide +kernel
theorem dX6_byteAt_0 : decode cX6_byteAt 0 = .ok (.iload_n 1, 1) := by decide +kernel
theorem dX6_byteAt_1 : decode cX6_byteAt 1 = .ok (.ifCond .lt 26, 3) := by decide +kernel
theorem dX6_byteAt_4 : decode cX6_byteAt 4 = .ok (.iload_n 1, 1) := by decide +kernel
theorem dX6_byteAt_5 : decode cX6_byteAt 5 = .ok (.aload_n 0, 1) := by decide +kernel
theorem dX6_byteAt_6 : decode cX6_byteAt 6 = .ok (.getfield 22, 3) := by decide +kernel
theorem dX6_byteAt_9 : decode cX6_byteAt 9 = .ok (.if_icmp .ge 18, 3) := by decide +kernel
theorem dX6_byteAt_12 : decode cX6_byteAt 12 = .ok (.iload_n 1, 1) := by decide +kernel
theorem dX6_byteAt_13 : decode cX6_byteAt 13 = .ok (.bipush 120, 2) := by decide +kernel
theorem dX6_byteAt_15 : decode cX6_byteAt 15 = .ok (.if_icmp .ge 12, 3) := by decide +kernel
theorem dX6_byteAt_18 : decode cX6_byteAt 18 = .ok (.aload_n 0, 1) := by decide +kernel
theorem dX6_byteAt_19 : decode cX6_byteAt 19 = .ok (.getfield 9, 3) := by decide +kernel
theorem dX6_byteAt_22 : decode cX6_byteAt 22 = .ok (.iload_n 1, 1) := by decide +kernel
theorem dX6_byteAt_23 : decode cX6_byteAt 23 = .ok (.iaload, 1) := by decide +kernel
theorem dX6_byteAt_24 : decode cX6_byteAt 24 = .ok (.goto 5, 3) := by decide +kernel
theorem dX6_byteAt_27 : decode cX6_byteAt 27 = .ok (.ldc 69, 2) := by decide +kernel
theorem dX6_byteAt_29 : decode cX6_byteAt 29 = .ok (.ireturn, 1) := by decide +kernel
theorem dX6_isFigure_0 : decode cX6_isFigure 0 = .ok (.aload_n 0, 1) := by decide +kernel
theorem dX6_isFigure_1 : decode cX6_isFigure 1 = .ok (.iload_n 1, 1) := by decide +kernel
theorem dX6_isFigure_2 : decode cX6_isFigure 2 = .ok (.invokevirtual 78, 3) := by decide +kernel
theorem dX6_isFigure_5 : decode cX6_isFigure 5 = .ok (.istore_n 2, 1) := by decide +kernel
theorem dX6_isFigure_6 : decode cX6_isFigure 6 = .ok (.iload_n 2, 1) := by decide +kernel
theorem dX6_isFigure_7 : decode cX6_isFigure 7 = .ok (.bipush 48, 2) := by decide +kernel
theorem dX6_isFigure_9 : decode cX6_isFigure 9 = .ok (.if_icmp .lt 13, 3) := by decide +kernel
theorem dX6_isFigure_12 : decode cX6_isFigure 12 = .ok (.iload_n 2, 1) := by decide +kernel
theorem dX6_isFigure_13 : decode cX6_isFigure 13 = .ok (.bipush 57, 2) := by decide +kernel
theorem dX6_isFigure_15 : decode cX6_isFigure 15 = .ok (.if_icmp .gt 7, 3) := by decide +kernel
theorem dX6_isFigure_18 : decode cX6_isFigure 18 = .ok (.iconst 1, 1) := by decide +kernel
theorem dX6_isFigure_19 : decode cX6_isFigure 19 = .ok (.goto 4, 3) := by decide +kernel
theorem dX6_isFigure_22 : decode cX6_isFigure 22 = .ok (.iconst 0, 1) := by decide +kernel
theorem dX6_isFigure_23 : decode cX6_isFigure 23 = .ok (.ireturn, 1) := by decide +kernel
theorem dX6_takeByte_0 : decode cX6_takeByte 0 = .ok (.aload_n 0, 1) := by decide +kernel
theorem dX6_takeByte_1 : decode cX6_takeByte 1 = .ok (.getfield 29, 3) := by decide +kernel
theorem dX6_takeByte_4 : decode cX6_takeByte 4 = .ok (.ifCond .eq 4, 3) := by decide +kernel
theorem dX6_takeByte_7 : decode cX6_takeByte 7 = .ok (.return_, 1) := by decide +kernel
theorem dX6_takeByte_8 : decode cX6_takeByte 8 = .ok (.aload_n 0, 1) := by decide +kernel
theorem dX6_takeByte_9 : decode cX6_takeByte 9 = .ok (.invokevirtual 61, 3) := by decide +kernel
theorem dX6_takeByte_12 : decode cX6_takeByte 12 = .ok (.iload_n 1, 1) := by decide +kernel
theorem dX6_takeByte_13 : decode cX6_takeByte 13 = .ok (.if_icmp .ne 16, 3) := by decide +kernel
theorem dX6_takeByte_16 : decode cX6_takeByte 16 = .ok (.aload_n 0, 1) := by decide +kernel
theorem dX6_takeByte_17 : decode cX6_takeByte 17 = .ok (.dup, 1) := by decide +kernel
theorem dX6_takeByte_18 : decode cX6_takeByte 18 = .ok (.getfield 26, 3) := by decide +kernel
theorem dX6_takeByte_21 : decode cX6_takeByte 21 = .ok (.iconst 1, 1) := by decide +kernel
theorem dX6_takeByte_22 : decode cX6_takeByte 22 = .ok (.iadd, 1) := by decide +kernel
theorem dX6_takeByte_23 : decode cX6_takeByte 23 = .ok (.putfield 26, 3) := by decide +kernel
theorem dX6_takeByte_26 : decode cX6_takeByte 26 = .ok (.goto 8, 3) := by decide +kernel
theorem dX6_takeByte_29 : decode cX6_takeByte 29 = .ok (.aload_n 0, 1) := by decide +kernel
theorem dX6_takeByte_30 : decode cX6_takeByte 30 = .ok (.iconst 1, 1) := by decide +kernel
theorem dX6_takeByte_31 : decode cX6_takeByte 31 = .ok (.putfield 29, 3) := by decide +kernel
theorem dX6_takeByte_34 : decode cX6_takeByte 34 = .ok (.return_, 1) := by decide +kernel
theorem dX6_takeNumber_0 : decode cX6_takeNumber 0 = .ok (.aload_n 0, 1) := by decide +kernel
theorem dX6_takeNumber_1 : decode cX6_takeNumber 1 = .ok (.getfield 29, 3) := by decide +kernel
theorem dX6_takeNumber_4 : decode cX6_takeNumber 4 = .ok (.ifCond .eq 5, 3) := by decide +kernel
theorem dX6_takeNumber_7 : decode cX6_takeNumber 7 = .ok (.iconst 0, 1) := by decide +kernel
theorem dX6_takeNumber_8 : decode cX6_takeNumber 8 = .ok (.ireturn, 1) := by decide +kernel
theorem dX6_takeNumber_9 : decode cX6_takeNumber 9 = .ok (.iconst 0, 1) := by decide +kernel
theorem dX6_takeNumber_10 : decode cX6_takeNumber 10 = .ok (.istore_n 3, 1) := by decide +kernel
theorem dX6_takeNumber_11 : decode cX6_takeNumber 11 = .ok (.iconst 0, 1) := by decide +kernel
theorem dX6_takeNumber_12 : decode cX6_takeNumber 12 = .ok (.istore 4, 2) := by decide +kernel
theorem dX6_takeNumber_14 : decode cX6_takeNumber 14 = .ok (.iload_n 3, 1) := by decide +kernel
theorem dX6_takeNumber_15 : decode cX6_takeNumber 15 = .ok (.iconst 3, 1) := by decide +kernel
theorem dX6_takeNumber_16 : decode cX6_takeNumber 16 = .ok (.if_icmp .ge 43, 3) := by decide +kernel
theorem dX6_takeNumber_19 : decode cX6_takeNumber 19 = .ok (.aload_n 0, 1) := by decide +kernel
theorem dX6_takeNumber_20 : decode cX6_takeNumber 20 = .ok (.aload_n 0, 1) := by decide +kernel
theorem dX6_takeNumber_21 : decode cX6_takeNumber 21 = .ok (.getfield 26, 3) := by decide +kernel
theorem dX6_takeNumber_24 : decode cX6_takeNumber 24 = .ok (.iload_n 3, 1) := by decide +kernel
theorem dX6_takeNumber_25 : decode cX6_takeNumber 25 = .ok (.iadd, 1) := by decide +kernel
theorem dX6_takeNumber_26 : decode cX6_takeNumber 26 = .ok (.invokevirtual 81, 3) := by decide +kernel
theorem dX6_takeNumber_29 : decode cX6_takeNumber 29 = .ok (.ifCond .eq 30, 3) := by decide +kernel
theorem dX6_takeNumber_32 : decode cX6_takeNumber 32 = .ok (.bipush 10, 2) := by decide +kernel
theorem dX6_takeNumber_34 : decode cX6_takeNumber 34 = .ok (.iload 4, 2) := by decide +kernel
theorem dX6_takeNumber_36 : decode cX6_takeNumber 36 = .ok (.imul, 1) := by decide +kernel
theorem dX6_takeNumber_37 : decode cX6_takeNumber 37 = .ok (.aload_n 0, 1) := by decide +kernel
theorem dX6_takeNumber_38 : decode cX6_takeNumber 38 = .ok (.aload_n 0, 1) := by decide +kernel
theorem dX6_takeNumber_39 : decode cX6_takeNumber 39 = .ok (.getfield 26, 3) := by decide +kernel
theorem dX6_takeNumber_42 : decode cX6_takeNumber 42 = .ok (.iload_n 3, 1) := by decide +kernel
theorem dX6_takeNumber_43 : decode cX6_takeNumber 43 = .ok (.iadd, 1) := by decide +kernel
theorem dX6_takeNumber_44 : decode cX6_takeNumber 44 = .ok (.invokevirtual 78, 3) := by decide +kernel
theorem dX6_takeNumber_47 : decode cX6_takeNumber 47 = .ok (.iadd, 1) := by decide +kernel
theorem dX6_takeNumber_48 : decode cX6_takeNumber 48 = .ok (.bipush 48, 2) := by decide +kernel
theorem dX6_takeNumber_50 : decode cX6_takeNumber 50 = .ok (.isub, 1) := by decide +kernel
theorem dX6_takeNumber_51 : decode cX6_takeNumber 51 = .ok (.istore 4, 2) := by decide +kernel
theorem dX6_takeNumber_53 : decode cX6_takeNumber 53 = .ok (.iinc 3 1, 3) := by decide +kernel
theorem dX6_takeNumber_56 : decode cX6_takeNumber 56 = .ok (.goto (-42), 3) := by decide +kernel
theorem dX6_takeNumber_59 : decode cX6_takeNumber 59 = .ok (.iload_n 3, 1) := by decide +kernel
theorem dX6_takeNumber_60 : decode cX6_takeNumber 60 = .ok (.ifCond .eq 8, 3) := by decide +kernel
theorem dX6_takeNumber_63 : decode cX6_takeNumber 63 = .ok (.iload_n 3, 1) := by decide +kernel
theorem dX6_takeNumber_64 : decode cX6_takeNumber 64 = .ok (.iconst 2, 1) := by decide +kernel
theorem dX6_takeNumber_65 : decode cX6_takeNumber 65 = .ok (.if_icmp .le 11, 3) := by decide +kernel
theorem dX6_takeNumber_68 : decode cX6_takeNumber 68 = .ok (.aload_n 0, 1) := by decide +kernel
theorem dX6_takeNumber_69 : decode cX6_takeNumber 69 = .ok (.iconst 1, 1) := by decide +kernel
theorem dX6_takeNumber_70 : decode cX6_takeNumber 70 = .ok (.putfield 29, 3) := by decide +kernel
theorem dX6_takeNumber_73 : decode cX6_takeNumber 73 = .ok (.goto 33, 3) := by decide +kernel
theorem dX6_takeNumber_76 : decode cX6_takeNumber 76 = .ok (.iload 4, 2) := by decide +kernel
theorem dX6_takeNumber_78 : decode cX6_takeNumber 78 = .ok (.iload_n 1, 1) := by decide +kernel
theorem dX6_takeNumber_79 : decode cX6_takeNumber 79 = .ok (.if_icmp .lt 9, 3) := by decide +kernel
theorem dX6_takeNumber_82 : decode cX6_takeNumber 82 = .ok (.iload 4, 2) := by decide +kernel
theorem dX6_takeNumber_84 : decode cX6_takeNumber 84 = .ok (.iload_n 2, 1) := by decide +kernel
theorem dX6_takeNumber_85 : decode cX6_takeNumber 85 = .ok (.if_icmp .le 11, 3) := by decide +kernel
theorem dX6_takeNumber_88 : decode cX6_takeNumber 88 = .ok (.aload_n 0, 1) := by decide +kernel
theorem dX6_takeNumber_89 : decode cX6_takeNumber 89 = .ok (.iconst 2, 1) := by decide +kernel
theorem dX6_takeNumber_90 : decode cX6_takeNumber 90 = .ok (.putfield 29, 3) := by decide +kernel
theorem dX6_takeNumber_93 : decode cX6_takeNumber 93 = .ok (.goto 13, 3) := by decide +kernel
theorem dX6_takeNumber_96 : decode cX6_takeNumber 96 = .ok (.aload_n 0, 1) := by decide +kernel
theorem dX6_takeNumber_97 : decode cX6_takeNumber 97 = .ok (.dup, 1) := by decide +kernel
theorem dX6_takeNumber_98 : decode cX6_takeNumber 98 = .ok (.getfield 26, 3) := by decide +kernel
theorem dX6_takeNumber_101 : decode cX6_takeNumber 101 = .ok (.iload_n 3, 1) := by decide +kernel
theorem dX6_takeNumber_102 : decode cX6_takeNumber 102 = .ok (.iadd, 1) := by decide +kernel
theorem dX6_takeNumber_103 : decode cX6_takeNumber 103 = .ok (.putfield 26, 3) := by decide +kernel
theorem dX6_takeNumber_106 : decode cX6_takeNumber 106 = .ok (.iload 4, 2) := by decide +kernel
theorem dX6_takeNumber_108 : decode cX6_takeNumber 108 = .ok (.ireturn, 1) := by decide +kernel
theorem dX6_kindOfSort_0 : decode cX6_kindOfSort 0 = .ok (.iload_n 0, 1) := by decide +kernel
theorem dX6_kindOfSort_1 : decode cX6_kindOfSort 1 = .ok (.lookupswitch 61 #[(99, 51), (107, 53), (110, 59), (111, 55), (121, 57)], 51) := by decide +kernel
theorem dX6_kindOfSort_52 : decode cX6_kindOfSort 52 = .ok (.iconst 1, 1) := by decide +kernel
theorem dX6_kindOfSort_53 : decode cX6_kindOfSort 53 = .ok (.ireturn, 1) := by decide +kernel
theorem dX6_kindOfSort_54 : decode cX6_kindOfSort 54 = .ok (.iconst 2, 1) := by decide +kernel
theorem dX6_kindOfSort_55 : decode cX6_kindOfSort 55 = .ok (.ireturn, 1) := by decide +kernel
theorem dX6_kindOfSort_56 : decode cX6_kindOfSort 56 = .ok (.iconst 3, 1) := by decide +kernel
theorem dX6_kindOfSort_57 : decode cX6_kindOfSort 57 = .ok (.ireturn, 1) := by decide +kernel
theorem dX6_kindOfSort_58 : decode cX6_kindOfSort 58 = .ok (.iconst 4, 1) := by decide +kernel
theorem dX6_kindOfSort_59 : decode cX6_kindOfSort 59 = .ok (.ireturn, 1) := by decide +kernel
theorem dX6_kindOfSort_60 : decode cX6_kindOfSort 60 = .ok (.iconst 5, 1) := by decide +kernel
theorem dX6_kindOfSort_61 : decode cX6_kindOfSort 61 = .ok (.ireturn, 1) := by decide +kernel
theorem dX6_kindOfSort_62 : decode cX6_kindOfSort 62 = .ok (.ldc 69, 2) := by decide +kernel
theorem dX6_kindOfSort_64 : decode cX6_kindOfSort 64 = .ok (.ireturn, 1) := by decide +kernel
theorem dJ6_bitCount_0f7a4_0 : decode cJ6_bitCount_0f7a4 0 = .ok (.iload_n 0, 1) := by decide +kernel
theorem dJ6_bitCount_0f7a4_1 : decode cJ6_bitCount_0f7a4 1 = .ok (.iload_n 0, 1) := by decide +kernel
theorem dJ6_bitCount_0f7a4_2 : decode cJ6_bitCount_0f7a4 2 = .ok (.iconst 1, 1) := by decide +kernel
theorem dJ6_bitCount_0f7a4_3 : decode cJ6_bitCount_0f7a4 3 = .ok (.iushr, 1) := by decide +kernel
theorem dJ6_bitCount_0f7a4_4 : decode cJ6_bitCount_0f7a4 4 = .ok (.ldc_w 265, 3) := by decide +kernel
theorem dJ6_bitCount_0f7a4_7 : decode cJ6_bitCount_0f7a4 7 = .ok (.iand, 1) := by decide +kernel
theorem dJ6_bitCount_0f7a4_8 : decode cJ6_bitCount_0f7a4 8 = .ok (.isub, 1) := by decide +kernel
theorem dJ6_bitCount_0f7a4_9 : decode cJ6_bitCount_0f7a4 9 = .ok (.istore_n 0, 1) := by decide +kernel
theorem dJ6_bitCount_0f7a4_10 : decode cJ6_bitCount_0f7a4 10 = .ok (.iload_n 0, 1) := by decide +kernel
theorem dJ6_bitCount_0f7a4_11 : decode cJ6_bitCount_0f7a4 11 = .ok (.ldc_w 266, 3) := by decide +kernel
theorem dJ6_bitCount_0f7a4_14 : decode cJ6_bitCount_0f7a4 14 = .ok (.iand, 1) := by decide +kernel
theorem dJ6_bitCount_0f7a4_15 : decode cJ6_bitCount_0f7a4 15 = .ok (.iload_n 0, 1) := by decide +kernel
theorem dJ6_bitCount_0f7a4_16 : decode cJ6_bitCount_0f7a4 16 = .ok (.iconst 2, 1) := by decide +kernel
theorem dJ6_bitCount_0f7a4_17 : decode cJ6_bitCount_0f7a4 17 = .ok (.iushr, 1) := by decide +kernel
theorem dJ6_bitCount_0f7a4_18 : decode cJ6_bitCount_0f7a4 18 = .ok (.ldc_w 266, 3) := by decide +kernel
theorem dJ6_bitCount_0f7a4_21 : decode cJ6_bitCount_0f7a4 21 = .ok (.iand, 1) := by decide +kernel
theorem dJ6_bitCount_0f7a4_22 : decode cJ6_bitCount_0f7a4 22 = .ok (.iadd, 1) := by decide +kernel
theorem dJ6_bitCount_0f7a4_23 : decode cJ6_bitCount_0f7a4 23 = .ok (.istore_n 0, 1) := by decide +kernel
theorem dJ6_bitCount_0f7a4_24 : decode cJ6_bitCount_0f7a4 24 = .ok (.iload_n 0, 1) := by decide +kernel
theorem dJ6_bitCount_0f7a4_25 : decode cJ6_bitCount_0f7a4 25 = .ok (.iload_n 0, 1) := by decide +kernel
theorem dJ6_bitCount_0f7a4_26 : decode cJ6_bitCount_0f7a4 26 = .ok (.iconst 4, 1) := by decide +kernel
theorem dJ6_bitCount_0f7a4_27 : decode cJ6_bitCount_0f7a4 27 = .ok (.iushr, 1) := by decide +kernel
theorem dJ6_bitCount_0f7a4_28 : decode cJ6_bitCount_0f7a4 28 = .ok (.iadd, 1) := by decide +kernel
theorem dJ6_bitCount_0f7a4_29 : decode cJ6_bitCount_0f7a4 29 = .ok (.ldc_w 267, 3) := by decide +kernel
theorem dJ6_bitCount_0f7a4_32 : decode cJ6_bitCount_0f7a4 32 = .ok (.iand, 1) := by decide +kernel
theorem dJ6_bitCount_0f7a4_33 : decode cJ6_bitCount_0f7a4 33 = .ok (.istore_n 0, 1) := by decide +kernel
theorem dJ6_bitCount_0f7a4_34 : decode cJ6_bitCount_0f7a4 34 = .ok (.iload_n 0, 1) := by decide +kernel
theorem dJ6_bitCount_0f7a4_35 : decode cJ6_bitCount_0f7a4 35 = .ok (.iload_n 0, 1) := by decide +kernel
theorem dJ6_bitCount_0f7a4_36 : decode cJ6_bitCount_0f7a4 36 = .ok (.bipush 8, 2) := by decide +kernel
theorem dJ6_bitCount_0f7a4_38 : decode cJ6_bitCount_0f7a4 38 = .ok (.iushr, 1) := by decide +kernel
theorem dJ6_bitCount_0f7a4_39 : decode cJ6_bitCount_0f7a4 39 = .ok (.iadd, 1) := by decide +kernel
theorem dJ6_bitCount_0f7a4_40 : decode cJ6_bitCount_0f7a4 40 = .ok (.istore_n 0, 1) := by decide +kernel
theorem dJ6_bitCount_0f7a4_41 : decode cJ6_bitCount_0f7a4 41 = .ok (.iload_n 0, 1) := by decide +kernel
theorem dJ6_bitCount_0f7a4_42 : decode cJ6_bitCount_0f7a4 42 = .ok (.iload_n 0, 1) := by decide +kernel
theorem dJ6_bitCount_0f7a4_43 : decode cJ6_bitCount_0f7a4 43 = .ok (.bipush 16, 2) := by decide +kernel
theorem dJ6_bitCount_0f7a4_45 : decode cJ6_bitCount_0f7a4 45 = .ok (.iushr, 1) := by decide +kernel
theorem dJ6_bitCount_0f7a4_46 : decode cJ6_bitCount_0f7a4 46 = .ok (.iadd, 1) := by decide +kernel
theorem dJ6_bitCount_0f7a4_47 : decode cJ6_bitCount_0f7a4 47 = .ok (.istore_n 0, 1) := by decide +kernel
theorem dJ6_bitCount_0f7a4_48 : decode cJ6_bitCount_0f7a4 48 = .ok (.iload_n 0, 1) := by decide +kernel
theorem dJ6_bitCount_0f7a4_49 : decode cJ6_bitCount_0f7a4 49 = .ok (.bipush 63, 2) := by decide +kernel
theorem dJ6_bitCount_0f7a4_51 : decode cJ6_bitCount_0f7a4 51 = .ok (.iand, 1) := by decide +kernel
theorem dJ6_bitCount_0f7a4_52 : decode cJ6_bitCount_0f7a4 52 = .ok (.ireturn, 1) := by decide +kernel
