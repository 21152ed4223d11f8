theorem dX0_init_0 : decode cX0_init 0 = .ok (.aload_n 0, 1) := by decide +kernel
theorem dX0_init_1 : decode cX0_init 1 = .ok (.invokespecial 3, 3) := by decide +kernel
theorem dX0_init_4 : decode cX0_init 4 = .ok (.aload_n 0, 1) := by decide +kernel
theorem dX0_init_5 : decode cX0_init 5 = .ok (.bipush 40, 2) := by decide +kernel
theorem dX0_init_7 : decode cX0_init 7 = .ok (.newarray .int, 2) := by decide +kernel
theorem dX0_init_9 : decode cX0_init 9 = .ok (.putfield 11, 3) := by decide +kernel
theorem dX0_init_12 : decode cX0_init 12 = .ok (.return_, 1) := by decide +kernel
theorem dX0_forget_0 : decode cX0_forget 0 = .ok (.aload_n 0, 1) := by decide +kernel
theorem dX0_forget_1 : decode cX0_forget 1 = .ok (.iconst 0, 1) := by decide +kernel
theorem dX0_forget_2 : decode cX0_forget 2 = .ok (.putfield 15, 3) := by decide +kernel
theorem dX0_forget_5 : decode cX0_forget 5 = .ok (.return_, 1) := by decide +kernel
theorem dX0_begin_0 : decode cX0_begin 0 = .ok (.aload_n 0, 1) := by decide +kernel
theorem dX0_begin_1 : decode cX0_begin 1 = .ok (.iload_n 1, 1) := by decide +kernel
theorem dX0_begin_2 : decode cX0_begin 2 = .ok (.putfield 19, 3) := by decide +kernel
theorem dX0_begin_5 : decode cX0_begin 5 = .ok (.aload_n 0, 1) := by decide +kernel
theorem dX0_begin_6 : decode cX0_begin 6 = .ok (.iload_n 2, 1) := by decide +kernel
theorem dX0_begin_7 : decode cX0_begin 7 = .ok (.putfield 22, 3) := by decide +kernel
theorem dX0_begin_10 : decode cX0_begin 10 = .ok (.aload_n 0, 1) := by decide +kernel
theorem dX0_begin_11 : decode cX0_begin 11 = .ok (.aload_n 0, 1) := by decide +kernel
theorem dX0_begin_12 : decode cX0_begin 12 = .ok (.getfield 19, 3) := by decide +kernel
theorem dX0_begin_15 : decode cX0_begin 15 = .ok (.iload_n 3, 1) := by decide +kernel
theorem dX0_begin_16 : decode cX0_begin 16 = .ok (.iload 4, 2) := by decide +kernel
theorem dX0_begin_18 : decode cX0_begin 18 = .ok (.iconst 0, 1) := by decide +kernel
theorem dX0_begin_19 : decode cX0_begin 19 = .ok (.invokevirtual 25, 3) := by decide +kernel
theorem dX0_begin_22 : decode cX0_begin 22 = .ok (.ireturn, 1) := by decide +kernel
theorem dX0_kept_0 : decode cX0_kept 0 = .ok (.iload_n 1, 1) := by decide +kernel
theorem dX0_kept_1 : decode cX0_kept 1 = .ok (.ifCond .lt 26, 3) := by decide +kernel
theorem dX0_kept_4 : decode cX0_kept 4 = .ok (.iload_n 1, 1) := by decide +kernel
theorem dX0_kept_5 : decode cX0_kept 5 = .ok (.aload_n 0, 1) := by decide +kernel
theorem dX0_kept_6 : decode cX0_kept 6 = .ok (.getfield 15, 3) := by decide +kernel
theorem dX0_kept_9 : decode cX0_kept 9 = .ok (.if_icmp .ge 18, 3) := by decide +kernel
theorem dX0_kept_12 : decode cX0_kept 12 = .ok (.iload_n 1, 1) := by decide +kernel
theorem dX0_kept_13 : decode cX0_kept 13 = .ok (.bipush 40, 2) := by decide +kernel
theorem dX0_kept_15 : decode cX0_kept 15 = .ok (.if_icmp .ge 12, 3) := by decide +kernel
theorem dX0_kept_18 : decode cX0_kept 18 = .ok (.aload_n 0, 1) := by decide +kernel
theorem dX0_kept_19 : decode cX0_kept 19 = .ok (.getfield 11, 3) := by decide +kernel
theorem dX0_kept_22 : decode cX0_kept 22 = .ok (.iload_n 1, 1) := by decide +kernel
theorem dX0_kept_23 : decode cX0_kept 23 = .ok (.iaload, 1) := by decide +kernel
theorem dX0_kept_24 : decode cX0_kept 24 = .ok (.goto 4, 3) := by decide +kernel
theorem dX0_kept_27 : decode cX0_kept 27 = .ok (.iconst (-1), 1) := by decide +kernel
theorem dX0_kept_28 : decode cX0_kept 28 = .ok (.ireturn, 1) := by decide +kernel
theorem dX0_note_0 : decode cX0_note 0 = .ok (.aload_n 0, 1) := by decide +kernel
theorem dX0_note_1 : decode cX0_note 1 = .ok (.getfield 15, 3) := by decide +kernel
theorem dX0_note_4 : decode cX0_note 4 = .ok (.ifCond .lt 22, 3) := by decide +kernel
theorem dX0_note_7 : decode cX0_note 7 = .ok (.aload_n 0, 1) := by decide +kernel
theorem dX0_note_8 : decode cX0_note 8 = .ok (.getfield 15, 3) := by decide +kernel
theorem dX0_note_11 : decode cX0_note 11 = .ok (.bipush 40, 2) := by decide +kernel
theorem dX0_note_13 : decode cX0_note 13 = .ok (.if_icmp .ge 13, 3) := by decide +kernel
theorem dX0_note_16 : decode cX0_note 16 = .ok (.aload_n 0, 1) := by decide +kernel
theorem dX0_note_17 : decode cX0_note 17 = .ok (.getfield 11, 3) := by decide +kernel
theorem dX0_note_20 : decode cX0_note 20 = .ok (.aload_n 0, 1) := by decide +kernel
theorem dX0_note_21 : decode cX0_note 21 = .ok (.getfield 15, 3) := by decide +kernel
theorem dX0_note_24 : decode cX0_note 24 = .ok (.iload_n 1, 1) := by decide +kernel
theorem dX0_note_25 : decode cX0_note 25 = .ok (.iastore, 1) := by decide +kernel
theorem dX0_note_26 : decode cX0_note 26 = .ok (.aload_n 0, 1) := by decide +kernel
theorem dX0_note_27 : decode cX0_note 27 = .ok (.dup, 1) := by decide +kernel
theorem dX0_note_28 : decode cX0_note 28 = .ok (.getfield 15, 3) := by decide +kernel
theorem dX0_note_31 : decode cX0_note 31 = .ok (.iconst 1, 1) := by decide +kernel
theorem dX0_note_32 : decode cX0_note 32 = .ok (.iadd, 1) := by decide +kernel
theorem dX0_note_33 : decode cX0_note 33 = .ok (.putfield 15, 3) := by decide +kernel
theorem dX0_note_36 : decode cX0_note 36 = .ok (.return_, 1) := by decide +kernel
theorem dX0_bodyOf_0 : decode cX0_bodyOf 0 = .ok (.iload_n 0, 1) := by decide +kernel
theorem dX0_bodyOf_1 : decode cX0_bodyOf 1 = .ok (.ifCond .lt 11, 3) := by decide +kernel
theorem dX0_bodyOf_4 : decode cX0_bodyOf 4 = .ok (.iload_n 0, 1) := by decide +kernel
theorem dX0_bodyOf_5 : decode cX0_bodyOf 5 = .ok (.getstatic 29, 3) := by decide +kernel
theorem dX0_bodyOf_8 : decode cX0_bodyOf 8 = .ok (.arraylength, 1) := by decide +kernel
theorem dX0_bodyOf_9 : decode cX0_bodyOf 9 = .ok (.if_icmp .lt 5, 3) := by decide +kernel
theorem dX0_bodyOf_12 : decode cX0_bodyOf 12 = .ok (.iconst (-1), 1) := by decide +kernel
theorem dX0_bodyOf_13 : decode cX0_bodyOf 13 = .ok (.ireturn, 1) := by decide +kernel
theorem dX0_bodyOf_14 : decode cX0_bodyOf 14 = .ok (.iload_n 1, 1) := by decide +kernel
theorem dX0_bodyOf_15 : decode cX0_bodyOf 15 = .ok (.lookupswitch 37 #[(0, 25), (1, 31)], 25) := by decide +kernel
theorem dX0_bodyOf_40 : decode cX0_bodyOf 40 = .ok (.getstatic 32, 3) := by decide +kernel
theorem dX0_bodyOf_43 : decode cX0_bodyOf 43 = .ok (.iload_n 0, 1) := by decide +kernel
theorem dX0_bodyOf_44 : decode cX0_bodyOf 44 = .ok (.iaload, 1) := by decide +kernel
theorem dX0_bodyOf_45 : decode cX0_bodyOf 45 = .ok (.ireturn, 1) := by decide +kernel
theorem dX0_bodyOf_46 : decode cX0_bodyOf 46 = .ok (.getstatic 35, 3) := by decide +kernel
theorem dX0_bodyOf_49 : decode cX0_bodyOf 49 = .ok (.iload_n 0, 1) := by decide +kernel
theorem dX0_bodyOf_50 : decode cX0_bodyOf 50 = .ok (.iaload, 1) := by decide +kernel
theorem dX0_bodyOf_51 : decode cX0_bodyOf 51 = .ok (.ireturn, 1) := by decide +kernel
theorem dX0_bodyOf_52 : decode cX0_bodyOf 52 = .ok (.getstatic 38, 3) := by decide +kernel
theorem dX0_bodyOf_55 : decode cX0_bodyOf 55 = .ok (.iload_n 0, 1) := by decide +kernel
theorem dX0_bodyOf_56 : decode cX0_bodyOf 56 = .ok (.iaload, 1) := by decide +kernel
theorem dX0_bodyOf_57 : decode cX0_bodyOf 57 = .ok (.ireturn, 1) := by decide +kernel
theorem dX0_run_0 : decode cX0_run 0 = .ok (.iload 4, 2) := by decide +kernel
theorem dX0_run_2 : decode cX0_run 2 = .ok (.bipush 20, 2) := by decide +kernel
theorem dX0_run_4 : decode cX0_run 4 = .ok (.if_icmp .le 5, 3) := by decide +kernel
theorem dX0_run_7 : decode cX0_run 7 = .ok (.iconst 0, 1) := by decide +kernel
theorem dX0_run_8 : decode cX0_run 8 = .ok (.ireturn, 1) := by decide +kernel
theorem dX0_run_9 : decode cX0_run 9 = .ok (.iload 4, 2) := by decide +kernel
theorem dX0_run_11 : decode cX0_run 11 = .ok (.iconst 1, 1) := by decide +kernel
theorem dX0_run_12 : decode cX0_run 12 = .ok (.iadd, 1) := by decide +kernel
theorem dX0_run_13 : decode cX0_run 13 = .ok (.istore 5, 2) := by decide +kernel
theorem dX0_run_15 : decode cX0_run 15 = .ok (.iload_n 1, 1) := by decide +kernel
theorem dX0_run_16 : decode cX0_run 16 = .ok (.iload_n 2, 1) := by decide +kernel
theorem dX0_run_17 : decode cX0_run 17 = .ok (.invokestatic 41, 3) := by decide +kernel
theorem dX0_run_20 : decode cX0_run 20 = .ok (.istore 6, 2) := by decide +kernel
theorem dX0_run_22 : decode cX0_run 22 = .ok (.aload_n 0, 1) := by decide +kernel
theorem dX0_run_23 : decode cX0_run 23 = .ok (.iload 6, 2) := by decide +kernel
theorem dX0_run_25 : decode cX0_run 25 = .ok (.invokevirtual 45, 3) := by decide +kernel
theorem dX0_run_28 : decode cX0_run 28 = .ok (.iload 6, 2) := by decide +kernel
theorem dX0_run_30 : decode cX0_run 30 = .ok (.lookupswitch 250 #[(10, 90), (11, 97), (12, 112), (20, 140), (21, 152), (30, 164), (40, 187), (50, 202), (60, 225), (61, 238)], 90) := by decide +kernel
theorem dX0_run_120 : decode cX0_run 120 = .ok (.iload_n 3, 1) := by decide +kernel
theorem dX0_run_121 : decode cX0_run 121 = .ok (.aload_n 0, 1) := by decide +kernel
theorem dX0_run_122 : decode cX0_run 122 = .ok (.getfield 22, 3) := by decide +kernel
theorem dX0_run_125 : decode cX0_run 125 = .ok (.iadd, 1) := by decide +kernel
theorem dX0_run_126 : decode cX0_run 126 = .ok (.ireturn, 1) := by decide +kernel
theorem dX0_run_127 : decode cX0_run 127 = .ok (.aload_n 0, 1) := by decide +kernel
theorem dX0_run_128 : decode cX0_run 128 = .ok (.aload_n 0, 1) := by decide +kernel
theorem dX0_run_129 : decode cX0_run 129 = .ok (.getfield 19, 3) := by decide +kernel
theorem dX0_run_132 : decode cX0_run 132 = .ok (.iconst 0, 1) := by decide +kernel
theorem dX0_run_133 : decode cX0_run 133 = .ok (.iload_n 3, 1) := by decide +kernel
theorem dX0_run_134 : decode cX0_run 134 = .ok (.iload 5, 2) := by decide +kernel
theorem dX0_run_136 : decode cX0_run 136 = .ok (.invokevirtual 25, 3) := by decide +kernel
theorem dX0_run_139 : decode cX0_run 139 = .ok (.iconst 3, 1) := by decide +kernel
theorem dX0_run_140 : decode cX0_run 140 = .ok (.imul, 1) := by decide +kernel
theorem dX0_run_141 : decode cX0_run 141 = .ok (.ireturn, 1) := by decide +kernel
theorem dX0_run_142 : decode cX0_run 142 = .ok (.aload_n 0, 1) := by decide +kernel
theorem dX0_run_143 : decode cX0_run 143 = .ok (.aload_n 0, 1) := by decide +kernel
theorem dX0_run_144 : decode cX0_run 144 = .ok (.getfield 19, 3) := by decide +kernel
theorem dX0_run_147 : decode cX0_run 147 = .ok (.iconst 1, 1) := by decide +kernel
theorem dX0_run_148 : decode cX0_run 148 = .ok (.iload_n 3, 1) := by decide +kernel
theorem dX0_run_149 : decode cX0_run 149 = .ok (.iload 5, 2) := by decide +kernel
theorem dX0_run_151 : decode cX0_run 151 = .ok (.invokevirtual 25, 3) := by decide +kernel
theorem dX0_run_154 : decode cX0_run 154 = .ok (.aload_n 0, 1) := by decide +kernel
theorem dX0_run_155 : decode cX0_run 155 = .ok (.aload_n 0, 1) := by decide +kernel
theorem dX0_run_156 : decode cX0_run 156 = .ok (.getfield 19, 3) := by decide +kernel
theorem dX0_run_159 : decode cX0_run 159 = .ok (.iconst 0, 1) := by decide +kernel
theorem dX0_run_160 : decode cX0_run 160 = .ok (.iload_n 3, 1) := by decide +kernel
theorem dX0_run_161 : decode cX0_run 161 = .ok (.iconst 1, 1) := by decide +kernel
theorem dX0_run_162 : decode cX0_run 162 = .ok (.iadd, 1) := by decide +kernel
theorem dX0_run_163 : decode cX0_run 163 = .ok (.iload 5, 2) := by decide +kernel
theorem dX0_run_165 : decode cX0_run 165 = .ok (.invokevirtual 25, 3) := by decide +kernel
theorem dX0_run_168 : decode cX0_run 168 = .ok (.isub, 1) := by decide +kernel
theorem dX0_run_169 : decode cX0_run 169 = .ok (.ireturn, 1) := by decide +kernel
theorem dX0_run_170 : decode cX0_run 170 = .ok (.aload_n 0, 1) := by decide +kernel
theorem dX0_run_171 : decode cX0_run 171 = .ok (.iconst 0, 1) := by decide +kernel
theorem dX0_run_172 : decode cX0_run 172 = .ok (.iconst 0, 1) := by decide +kernel
theorem dX0_run_173 : decode cX0_run 173 = .ok (.iload_n 3, 1) := by decide +kernel
theorem dX0_run_174 : decode cX0_run 174 = .ok (.iload 5, 2) := by decide +kernel
theorem dX0_run_176 : decode cX0_run 176 = .ok (.invokevirtual 25, 3) := by decide +kernel
theorem dX0_run_179 : decode cX0_run 179 = .ok (.iconst 2, 1) := by decide +kernel
theorem dX0_run_180 : decode cX0_run 180 = .ok (.imul, 1) := by decide +kernel
theorem dX0_run_181 : decode cX0_run 181 = .ok (.ireturn, 1) := by decide +kernel
theorem dX0_run_182 : decode cX0_run 182 = .ok (.aload_n 0, 1) := by decide +kernel
theorem dX0_run_183 : decode cX0_run 183 = .ok (.iconst 0, 1) := by decide +kernel
theorem dX0_run_184 : decode cX0_run 184 = .ok (.iconst 2, 1) := by decide +kernel
theorem dX0_run_185 : decode cX0_run 185 = .ok (.iload_n 3, 1) := by decide +kernel
theorem dX0_run_186 : decode cX0_run 186 = .ok (.iload 5, 2) := by decide +kernel
theorem dX0_run_188 : decode cX0_run 188 = .ok (.invokevirtual 25, 3) := by decide +kernel
theorem dX0_run_191 : decode cX0_run 191 = .ok (.iconst 5, 1) := by decide +kernel
theorem dX0_run_192 : decode cX0_run 192 = .ok (.ixor, 1) := by decide +kernel
theorem dX0_run_193 : decode cX0_run 193 = .ok (.ireturn, 1) := by decide +kernel
theorem dX0_run_194 : decode cX0_run 194 = .ok (.aload_n 0, 1) := by decide +kernel
theorem dX0_run_195 : decode cX0_run 195 = .ok (.iconst 1, 1) := by decide +kernel
theorem dX0_run_196 : decode cX0_run 196 = .ok (.iconst 1, 1) := by decide +kernel
theorem dX0_run_197 : decode cX0_run 197 = .ok (.iload_n 3, 1) := by decide +kernel
theorem dX0_run_198 : decode cX0_run 198 = .ok (.iload 5, 2) := by decide +kernel
theorem dX0_run_200 : decode cX0_run 200 = .ok (.invokevirtual 25, 3) := by decide +kernel
theorem dX0_run_203 : decode cX0_run 203 = .ok (.aload_n 0, 1) := by decide +kernel
theorem dX0_run_204 : decode cX0_run 204 = .ok (.aload_n 0, 1) := by decide +kernel
theorem dX0_run_205 : decode cX0_run 205 = .ok (.getfield 19, 3) := by decide +kernel
theorem dX0_run_208 : decode cX0_run 208 = .ok (.iconst 0, 1) := by decide +kernel
theorem dX0_run_209 : decode cX0_run 209 = .ok (.iload_n 3, 1) := by decide +kernel
theorem dX0_run_210 : decode cX0_run 210 = .ok (.iload 5, 2) := by decide +kernel
theorem dX0_run_212 : decode cX0_run 212 = .ok (.invokevirtual 25, 3) := by decide +kernel
theorem dX0_run_215 : decode cX0_run 215 = .ok (.iadd, 1) := by decide +kernel
theorem dX0_run_216 : decode cX0_run 216 = .ok (.ireturn, 1) := by decide +kernel
theorem dX0_run_217 : decode cX0_run 217 = .ok (.aload_n 0, 1) := by decide +kernel
theorem dX0_run_218 : decode cX0_run 218 = .ok (.iconst 0, 1) := by decide +kernel
theorem dX0_run_219 : decode cX0_run 219 = .ok (.iconst 1, 1) := by decide +kernel
theorem dX0_run_220 : decode cX0_run 220 = .ok (.iload_n 3, 1) := by decide +kernel
theorem dX0_run_221 : decode cX0_run 221 = .ok (.aload_n 0, 1) := by decide +kernel
theorem dX0_run_222 : decode cX0_run 222 = .ok (.getfield 22, 3) := by decide +kernel
theorem dX0_run_225 : decode cX0_run 225 = .ok (.iadd, 1) := by decide +kernel
theorem dX0_run_226 : decode cX0_run 226 = .ok (.iload 5, 2) := by decide +kernel
theorem dX0_run_228 : decode cX0_run 228 = .ok (.invokevirtual 25, 3) := by decide +kernel
theorem dX0_run_231 : decode cX0_run 231 = .ok (.ireturn, 1) := by decide +kernel
theorem dX0_run_232 : decode cX0_run 232 = .ok (.aload_n 0, 1) := by decide +kernel
theorem dX0_run_233 : decode cX0_run 233 = .ok (.aload_n 0, 1) := by decide +kernel
theorem dX0_run_234 : decode cX0_run 234 = .ok (.getfield 19, 3) := by decide +kernel
theorem dX0_run_237 : decode cX0_run 237 = .ok (.iconst 0, 1) := by decide +kernel
theorem dX0_run_238 : decode cX0_run 238 = .ok (.iload_n 3, 1) := by decide +kernel
theorem dX0_run_239 : decode cX0_run 239 = .ok (.iload 5, 2) := by decide +kernel
theorem dX0_run_241 : decode cX0_run 241 = .ok (.invokevirtual 25, 3) := by decide +kernel
theorem dX0_run_244 : decode cX0_run 244 = .ok (.aload_n 0, 1) := by decide +kernel
theorem dX0_run_245 : decode cX0_run 245 = .ok (.iconst 0, 1) := by decide +kernel
theorem dX0_run_246 : decode cX0_run 246 = .ok (.iconst 2, 1) := by decide +kernel
theorem dX0_run_247 : decode cX0_run 247 = .ok (.iload_n 3, 1) := by decide +kernel
theorem dX0_run_248 : decode cX0_run 248 = .ok (.iload 5, 2) := by decide +kernel
theorem dX0_run_250 : decode cX0_run 250 = .ok (.invokevirtual 25, 3) := by decide +kernel
theorem dX0_run_253 : decode cX0_run 253 = .ok (.isub, 1) := by decide +kernel
theorem dX0_run_254 : decode cX0_run 254 = .ok (.ireturn, 1) := by decide +kernel
theorem dX0_run_255 : decode cX0_run 255 = .ok (.aload_n 0, 1) := by decide +kernel
theorem dX0_run_256 : decode cX0_run 256 = .ok (.iconst 3, 1) := by decide +kernel
theorem dX0_run_257 : decode cX0_run 257 = .ok (.iconst 0, 1) := by decide +kernel
theorem dX0_run_258 : decode cX0_run 258 = .ok (.iload_n 3, 1) := by decide +kernel
theorem dX0_run_259 : decode cX0_run 259 = .ok (.iload 5, 2) := by decide +kernel
theorem dX0_run_261 : decode cX0_run 261 = .ok (.invokevirtual 25, 3) := by decide +kernel
theorem dX0_run_264 : decode cX0_run 264 = .ok (.bipush 7, 2) := by decide +kernel
theorem dX0_run_266 : decode cX0_run 266 = .ok (.iadd, 1) := by decide +kernel
theorem dX0_run_267 : decode cX0_run 267 = .ok (.ireturn, 1) := by decide +kernel
theorem dX0_run_268 : decode cX0_run 268 = .ok (.aload_n 0, 1) := by decide +kernel
theorem dX0_run_269 : decode cX0_run 269 = .ok (.iconst 3, 1) := by decide +kernel
theorem dX0_run_270 : decode cX0_run 270 = .ok (.iconst 1, 1) := by decide +kernel
theorem dX0_run_271 : decode cX0_run 271 = .ok (.iload_n 3, 1) := by decide +kernel
theorem dX0_run_272 : decode cX0_run 272 = .ok (.iload 5, 2) := by decide +kernel
theorem dX0_run_274 : decode cX0_run 274 = .ok (.invokevirtual 25, 3) := by decide +kernel
theorem dX0_run_277 : decode cX0_run 277 = .ok (.iconst 2, 1) := by decide +kernel
theorem dX0_run_278 : decode cX0_run 278 = .ok (.imul, 1) := by decide +kernel
theorem dX0_run_279 : decode cX0_run 279 = .ok (.ireturn, 1) := by decide +kernel
theorem dX0_run_280 : decode cX0_run 280 = .ok (.iconst 0, 1) := by decide +kernel
theorem dX0_run_281 : decode cX0_run 281 = .ok (.ireturn, 1) := by decide +kernel
theorem dX1_init_0 : decode cX1_init 0 = .ok (.aload_n 0, 1) := by decide +kernel
theorem dX1_init_1 : decode cX1_init 1 = .ok (.invokespecial 3, 3) := by decide +kernel
theorem dX1_init_4 : decode cX1_init 4 = .ok (.aload_n 0, 1) := by decide +kernel
theorem dX1_init_5 : decode cX1_init 5 = .ok (.bipush 6, 2) := by decide +kernel
theorem dX1_init_7 : decode cX1_init 7 = .ok (.newarray .int, 2) := by decide +kernel
theorem dX1_init_9 : decode cX1_init 9 = .ok (.putfield 11, 3) := by decide +kernel
theorem dX1_init_12 : decode cX1_init 12 = .ok (.aload_n 0, 1) := by decide +kernel
theorem dX1_init_13 : decode cX1_init 13 = .ok (.bipush 6, 2) := by decide +kernel
theorem dX1_init_15 : decode cX1_init 15 = .ok (.newarray .int, 2) := by decide +kernel
theorem dX1_init_17 : decode cX1_init 17 = .ok (.putfield 15, 3) := by decide +kernel
theorem dX1_init_20 : decode cX1_init 20 = .ok (.aload_n 0, 1) := by decide +kernel
theorem dX1_init_21 : decode cX1_init 21 = .ok (.bipush 6, 2) := by decide +kernel
theorem dX1_init_23 : decode cX1_init 23 = .ok (.bipush 40, 2) := by decide +kernel
theorem dX1_init_25 : decode cX1_init 25 = .ok (.multianewarray 18 2, 4) := by decide +kernel
theorem dX1_init_29 : decode cX1_init 29 = .ok (.putfield 20, 3) := by decide +kernel
theorem dX1_init_32 : decode cX1_init 32 = .ok (.aload_n 0, 1) := by decide +kernel
theorem dX1_init_33 : decode cX1_init 33 = .ok (.bipush 6, 2) := by decide +kernel
theorem dX1_init_35 : decode cX1_init 35 = .ok (.newarray .int, 2) := by decide +kernel
theorem dX1_init_37 : decode cX1_init 37 = .ok (.putfield 23, 3) := by decide +kernel
theorem dX1_init_40 : decode cX1_init 40 = .ok (.aload_n 0, 1) := by decide +kernel
theorem dX1_init_41 : decode cX1_init 41 = .ok (.bipush 6, 2) := by decide +kernel
theorem dX1_init_43 : decode cX1_init 43 = .ok (.newarray .int, 2) := by decide +kernel
theorem dX1_init_45 : decode cX1_init 45 = .ok (.putfield 26, 3) := by decide +kernel
theorem dX1_init_48 : decode cX1_init 48 = .ok (.aload_n 0, 1) := by decide +kernel
theorem dX1_init_49 : decode cX1_init 49 = .ok (.getfield 11, 3) := by decide +kernel
theorem dX1_init_52 : decode cX1_init 52 = .ok (.iconst (-1), 1) := by decide +kernel
theorem dX1_init_53 : decode cX1_init 53 = .ok (.invokestatic 29, 3) := by decide +kernel
theorem dX1_init_56 : decode cX1_init 56 = .ok (.aload_n 0, 1) := by decide +kernel
theorem dX1_init_57 : decode cX1_init 57 = .ok (.getfield 23, 3) := by decide +kernel
theorem dX1_init_60 : decode cX1_init 60 = .ok (.iconst (-1), 1) := by decide +kernel
theorem dX1_init_61 : decode cX1_init 61 = .ok (.invokestatic 29, 3) := by decide +kernel
theorem dX1_init_64 : decode cX1_init 64 = .ok (.return_, 1) := by decide +kernel
theorem dX1_isNumber_0 : decode cX1_isNumber 0 = .ok (.iload_n 1, 1) := by decide +kernel
theorem dX1_isNumber_1 : decode cX1_isNumber 1 = .ok (.ifCond .lt 13, 3) := by decide +kernel
theorem dX1_isNumber_4 : decode cX1_isNumber 4 = .ok (.iload_n 1, 1) := by decide +kernel
theorem dX1_isNumber_5 : decode cX1_isNumber 5 = .ok (.bipush 6, 2) := by decide +kernel
theorem dX1_isNumber_7 : decode cX1_isNumber 7 = .ok (.if_icmp .ge 7, 3) := by decide +kernel
theorem dX1_isNumber_10 : decode cX1_isNumber 10 = .ok (.iconst 1, 1) := by decide +kernel
theorem dX1_isNumber_11 : decode cX1_isNumber 11 = .ok (.goto 4, 3) := by decide +kernel
theorem dX1_isNumber_14 : decode cX1_isNumber 14 = .ok (.iconst 0, 1) := by decide +kernel
theorem dX1_isNumber_15 : decode cX1_isNumber 15 = .ok (.ireturn, 1) := by decide +kernel
theorem dX1_layOut_0 : decode cX1_layOut 0 = .ok (.aload_n 0, 1) := by decide +kernel
theorem dX1_layOut_1 : decode cX1_layOut 1 = .ok (.iload_n 1, 1) := by decide +kernel
theorem dX1_layOut_2 : decode cX1_layOut 2 = .ok (.invokevirtual 35, 3) := by decide +kernel
theorem dX1_layOut_5 : decode cX1_layOut 5 = .ok (.ifCond .eq 24, 3) := by decide +kernel
theorem dX1_layOut_8 : decode cX1_layOut 8 = .ok (.iload_n 2, 1) := by decide +kernel
theorem dX1_layOut_9 : decode cX1_layOut 9 = .ok (.iconst (-1), 1) := by decide +kernel
theorem dX1_layOut_10 : decode cX1_layOut 10 = .ok (.if_icmp .lt 19, 3) := by decide +kernel
theorem dX1_layOut_13 : decode cX1_layOut 13 = .ok (.iload_n 2, 1) := by decide +kernel
theorem dX1_layOut_14 : decode cX1_layOut 14 = .ok (.iconst 2, 1) := by decide +kernel
theorem dX1_layOut_15 : decode cX1_layOut 15 = .ok (.if_icmp .gt 14, 3) := by decide +kernel
theorem dX1_layOut_18 : decode cX1_layOut 18 = .ok (.iload_n 2, 1) := by decide +kernel
theorem dX1_layOut_19 : decode cX1_layOut 19 = .ok (.iconst (-1), 1) := by decide +kernel
theorem dX1_layOut_20 : decode cX1_layOut 20 = .ok (.if_icmp .eq 12, 3) := by decide +kernel
theorem dX1_layOut_23 : decode cX1_layOut 23 = .ok (.iload_n 3, 1) := by decide +kernel
theorem dX1_layOut_24 : decode cX1_layOut 24 = .ok (.bipush 40, 2) := by decide +kernel
theorem dX1_layOut_26 : decode cX1_layOut 26 = .ok (.if_icmp .le 6, 3) := by decide +kernel
theorem dX1_layOut_29 : decode cX1_layOut 29 = .ok (.bipush (-2), 2) := by decide +kernel
theorem dX1_layOut_31 : decode cX1_layOut 31 = .ok (.ireturn, 1) := by decide +kernel
theorem dX1_layOut_32 : decode cX1_layOut 32 = .ok (.iload_n 2, 1) := by decide +kernel
theorem dX1_layOut_33 : decode cX1_layOut 33 = .ok (.iconst (-1), 1) := by decide +kernel
theorem dX1_layOut_34 : decode cX1_layOut 34 = .ok (.if_icmp .eq 10, 3) := by decide +kernel
theorem dX1_layOut_37 : decode cX1_layOut 37 = .ok (.iload_n 3, 1) := by decide +kernel
theorem dX1_layOut_38 : decode cX1_layOut 38 = .ok (.ifCond .ge 6, 3) := by decide +kernel
theorem dX1_layOut_41 : decode cX1_layOut 41 = .ok (.bipush (-14), 2) := by decide +kernel
theorem dX1_layOut_43 : decode cX1_layOut 43 = .ok (.ireturn, 1) := by decide +kernel
theorem dX1_layOut_44 : decode cX1_layOut 44 = .ok (.aload_n 0, 1) := by decide +kernel
theorem dX1_layOut_45 : decode cX1_layOut 45 = .ok (.getfield 11, 3) := by decide +kernel
theorem dX1_layOut_48 : decode cX1_layOut 48 = .ok (.iload_n 1, 1) := by decide +kernel
theorem dX1_layOut_49 : decode cX1_layOut 49 = .ok (.iload_n 2, 1) := by decide +kernel
theorem dX1_layOut_50 : decode cX1_layOut 50 = .ok (.iastore, 1) := by decide +kernel
theorem dX1_layOut_51 : decode cX1_layOut 51 = .ok (.aload_n 0, 1) := by decide +kernel
theorem dX1_layOut_52 : decode cX1_layOut 52 = .ok (.getfield 15, 3) := by decide +kernel
theorem dX1_layOut_55 : decode cX1_layOut 55 = .ok (.iload_n 1, 1) := by decide +kernel
theorem dX1_layOut_56 : decode cX1_layOut 56 = .ok (.iload_n 2, 1) := by decide +kernel
theorem dX1_layOut_57 : decode cX1_layOut 57 = .ok (.iconst (-1), 1) := by decide +kernel
theorem dX1_layOut_58 : decode cX1_layOut 58 = .ok (.if_icmp .ne 7, 3) := by decide +kernel
theorem dX1_layOut_61 : decode cX1_layOut 61 = .ok (.iconst 0, 1) := by decide +kernel
theorem dX1_layOut_62 : decode cX1_layOut 62 = .ok (.goto 4, 3) := by decide +kernel
theorem dX1_layOut_65 : decode cX1_layOut 65 = .ok (.iload_n 3, 1) := by decide +kernel
theorem dX1_layOut_66 : decode cX1_layOut 66 = .ok (.iastore, 1) := by decide +kernel
theorem dX1_layOut_67 : decode cX1_layOut 67 = .ok (.aload_n 0, 1) := by decide +kernel
theorem dX1_layOut_68 : decode cX1_layOut 68 = .ok (.getfield 20, 3) := by decide +kernel
theorem dX1_layOut_71 : decode cX1_layOut 71 = .ok (.iload_n 1, 1) := by decide +kernel
theorem dX1_layOut_72 : decode cX1_layOut 72 = .ok (.aaload, 1) := by decide +kernel
theorem dX1_layOut_73 : decode cX1_layOut 73 = .ok (.iconst 0, 1) := by decide +kernel
theorem dX1_layOut_74 : decode cX1_layOut 74 = .ok (.invokestatic 29, 3) := by decide +kernel
theorem dX1_layOut_77 : decode cX1_layOut 77 = .ok (.iconst 1, 1) := by decide +kernel
theorem dX1_layOut_78 : decode cX1_layOut 78 = .ok (.ireturn, 1) := by decide +kernel
theorem dX1_fill_0 : decode cX1_fill 0 = .ok (.aload_n 0, 1) := by decide +kernel
theorem dX1_fill_1 : decode cX1_fill 1 = .ok (.iload_n 1, 1) := by decide +kernel
theorem dX1_fill_2 : decode cX1_fill 2 = .ok (.invokevirtual 35, 3) := by decide +kernel
theorem dX1_fill_5 : decode cX1_fill 5 = .ok (.ifCond .ne 6, 3) := by decide +kernel
theorem dX1_fill_8 : decode cX1_fill 8 = .ok (.bipush (-2), 2) := by decide +kernel
theorem dX1_fill_10 : decode cX1_fill 10 = .ok (.ireturn, 1) := by decide +kernel
theorem dX1_fill_11 : decode cX1_fill 11 = .ok (.aload_n 0, 1) := by decide +kernel
theorem dX1_fill_12 : decode cX1_fill 12 = .ok (.getfield 11, 3) := by decide +kernel
theorem dX1_fill_15 : decode cX1_fill 15 = .ok (.iload_n 1, 1) := by decide +kernel
theorem dX1_fill_16 : decode cX1_fill 16 = .ok (.iaload, 1) := by decide +kernel
theorem dX1_fill_17 : decode cX1_fill 17 = .ok (.iconst (-1), 1) := by decide +kernel
theorem dX1_fill_18 : decode cX1_fill 18 = .ok (.if_icmp .ne 6, 3) := by decide +kernel
theorem dX1_fill_21 : decode cX1_fill 21 = .ok (.bipush (-11), 2) := by decide +kernel
theorem dX1_fill_23 : decode cX1_fill 23 = .ok (.ireturn, 1) := by decide +kernel
theorem dX1_fill_24 : decode cX1_fill 24 = .ok (.aload_n 0, 1) := by decide +kernel
theorem dX1_fill_25 : decode cX1_fill 25 = .ok (.iload_n 1, 1) := by decide +kernel
theorem dX1_fill_26 : decode cX1_fill 26 = .ok (.iload_n 2, 1) := by decide +kernel
theorem dX1_fill_27 : decode cX1_fill 27 = .ok (.invokevirtual 39, 3) := by decide +kernel
theorem dX1_fill_30 : decode cX1_fill 30 = .ok (.ifCond .ne 6, 3) := by decide +kernel
theorem dX1_fill_33 : decode cX1_fill 33 = .ok (.bipush (-12), 2) := by decide +kernel
theorem dX1_fill_35 : decode cX1_fill 35 = .ok (.ireturn, 1) := by decide +kernel
theorem dX1_fill_36 : decode cX1_fill 36 = .ok (.aload_n 0, 1) := by decide +kernel
theorem dX1_fill_37 : decode cX1_fill 37 = .ok (.getfield 20, 3) := by decide +kernel
theorem dX1_fill_40 : decode cX1_fill 40 = .ok (.iload_n 1, 1) := by decide +kernel
theorem dX1_fill_41 : decode cX1_fill 41 = .ok (.aaload, 1) := by decide +kernel
theorem dX1_fill_42 : decode cX1_fill 42 = .ok (.iload_n 2, 1) := by decide +kernel
theorem dX1_fill_43 : decode cX1_fill 43 = .ok (.aload_n 0, 1) := by decide +kernel
theorem dX1_fill_44 : decode cX1_fill 44 = .ok (.getfield 11, 3) := by decide +kernel
theorem dX1_fill_47 : decode cX1_fill 47 = .ok (.iload_n 1, 1) := by decide +kernel
theorem dX1_fill_48 : decode cX1_fill 48 = .ok (.iaload, 1) := by decide +kernel
theorem dX1_fill_49 : decode cX1_fill 49 = .ok (.iload_n 3, 1) := by decide +kernel
theorem dX1_fill_50 : decode cX1_fill 50 = .ok (.invokestatic 43, 3) := by decide +kernel
theorem dX1_fill_53 : decode cX1_fill 53 = .ok (.iastore, 1) := by decide +kernel
theorem dX1_fill_54 : decode cX1_fill 54 = .ok (.iconst 1, 1) := by decide +kernel
theorem dX1_fill_55 : decode cX1_fill 55 = .ok (.ireturn, 1) := by decide +kernel
theorem dX1_isItem_0 : decode cX1_isItem 0 = .ok (.aload_n 0, 1) := by decide +kernel
theorem dX1_isItem_1 : decode cX1_isItem 1 = .ok (.iload_n 1, 1) := by decide +kernel
theorem dX1_isItem_2 : decode cX1_isItem 2 = .ok (.invokevirtual 35, 3) := by decide +kernel
theorem dX1_isItem_5 : decode cX1_isItem 5 = .ok (.ifCond .eq 27, 3) := by decide +kernel
theorem dX1_isItem_8 : decode cX1_isItem 8 = .ok (.iload_n 2, 1) := by decide +kernel
theorem dX1_isItem_9 : decode cX1_isItem 9 = .ok (.ifCond .lt 23, 3) := by decide +kernel
theorem dX1_isItem_12 : decode cX1_isItem 12 = .ok (.iload_n 2, 1) := by decide +kernel
theorem dX1_isItem_13 : decode cX1_isItem 13 = .ok (.aload_n 0, 1) := by decide +kernel
theorem dX1_isItem_14 : decode cX1_isItem 14 = .ok (.getfield 15, 3) := by decide +kernel
theorem dX1_isItem_17 : decode cX1_isItem 17 = .ok (.iload_n 1, 1) := by decide +kernel
theorem dX1_isItem_18 : decode cX1_isItem 18 = .ok (.iaload, 1) := by decide +kernel
theorem dX1_isItem_19 : decode cX1_isItem 19 = .ok (.if_icmp .ge 13, 3) := by decide +kernel
theorem dX1_isItem_22 : decode cX1_isItem 22 = .ok (.iload_n 2, 1) := by decide +kernel
theorem dX1_isItem_23 : decode cX1_isItem 23 = .ok (.bipush 40, 2) := by decide +kernel
theorem dX1_isItem_25 : decode cX1_isItem 25 = .ok (.if_icmp .ge 7, 3) := by decide +kernel
theorem dX1_isItem_28 : decode cX1_isItem 28 = .ok (.iconst 1, 1) := by decide +kernel
theorem dX1_isItem_29 : decode cX1_isItem 29 = .ok (.goto 4, 3) := by decide +kernel
theorem dX1_isItem_32 : decode cX1_isItem 32 = .ok (.iconst 0, 1) := by decide +kernel
theorem dX1_isItem_33 : decode cX1_isItem 33 = .ok (.ireturn, 1) := by decide +kernel
theorem dX1_cut_0 : decode cX1_cut 0 = .ok (.iload_n 0, 1) := by decide +kernel
theorem dX1_cut_1 : decode cX1_cut 1 = .ok (.lookupswitch 33 #[(0, 27), (1, 30)], 27) := by decide +kernel
theorem dX1_cut_28 : decode cX1_cut 28 = .ok (.iload_n 1, 1) := by decide +kernel
theorem dX1_cut_29 : decode cX1_cut 29 = .ok (.i2b, 1) := by decide +kernel
theorem dX1_cut_30 : decode cX1_cut 30 = .ok (.ireturn, 1) := by decide +kernel
theorem dX1_cut_31 : decode cX1_cut 31 = .ok (.iload_n 1, 1) := by decide +kernel
theorem dX1_cut_32 : decode cX1_cut 32 = .ok (.i2s, 1) := by decide +kernel
theorem dX1_cut_33 : decode cX1_cut 33 = .ok (.ireturn, 1) := by decide +kernel
theorem dX1_cut_34 : decode cX1_cut 34 = .ok (.iload_n 1, 1) := by decide +kernel
theorem dX1_cut_35 : decode cX1_cut 35 = .ok (.ireturn, 1) := by decide +kernel
theorem dX1_refusalOfThree_0 : decode cX1_refusalOfThree 0 = .ok (.aload_n 0, 1) := by decide +kernel
theorem dX1_refusalOfThree_1 : decode cX1_refusalOfThree 1 = .ok (.iload_n 1, 1) := by decide +kernel
theorem dX1_refusalOfThree_2 : decode cX1_refusalOfThree 2 = .ok (.invokevirtual 35, 3) := by decide +kernel
theorem dX1_refusalOfThree_5 : decode cX1_refusalOfThree 5 = .ok (.ifCond .eq 12, 3) := by decide +kernel
theorem dX1_refusalOfThree_8 : decode cX1_refusalOfThree 8 = .ok (.iload_n 2, 1) := by decide +kernel
theorem dX1_refusalOfThree_9 : decode cX1_refusalOfThree 9 = .ok (.ifCond .lt 8, 3) := by decide +kernel
theorem dX1_refusalOfThree_12 : decode cX1_refusalOfThree 12 = .ok (.iload_n 2, 1) := by decide +kernel
theorem dX1_refusalOfThree_13 : decode cX1_refusalOfThree 13 = .ok (.iconst 2, 1) := by decide +kernel
theorem dX1_refusalOfThree_14 : decode cX1_refusalOfThree 14 = .ok (.if_icmp .le 6, 3) := by decide +kernel
theorem dX1_refusalOfThree_17 : decode cX1_refusalOfThree 17 = .ok (.bipush (-2), 2) := by decide +kernel
theorem dX1_refusalOfThree_19 : decode cX1_refusalOfThree 19 = .ok (.ireturn, 1) := by decide +kernel
theorem dX1_refusalOfThree_20 : decode cX1_refusalOfThree 20 = .ok (.aload_n 0, 1) := by decide +kernel
theorem dX1_refusalOfThree_21 : decode cX1_refusalOfThree 21 = .ok (.getfield 11, 3) := by decide +kernel
theorem dX1_refusalOfThree_24 : decode cX1_refusalOfThree 24 = .ok (.iload_n 1, 1) := by decide +kernel
theorem dX1_refusalOfThree_25 : decode cX1_refusalOfThree 25 = .ok (.iaload, 1) := by decide +kernel
theorem dX1_refusalOfThree_26 : decode cX1_refusalOfThree 26 = .ok (.iconst (-1), 1) := by decide +kernel
theorem dX1_refusalOfThree_27 : decode cX1_refusalOfThree 27 = .ok (.if_icmp .ne 6, 3) := by decide +kernel
theorem dX1_refusalOfThree_30 : decode cX1_refusalOfThree 30 = .ok (.bipush (-11), 2) := by decide +kernel
theorem dX1_refusalOfThree_32 : decode cX1_refusalOfThree 32 = .ok (.ireturn, 1) := by decide +kernel
theorem dX1_refusalOfThree_33 : decode cX1_refusalOfThree 33 = .ok (.aload_n 0, 1) := by decide +kernel
theorem dX1_refusalOfThree_34 : decode cX1_refusalOfThree 34 = .ok (.getfield 11, 3) := by decide +kernel
theorem dX1_refusalOfThree_37 : decode cX1_refusalOfThree 37 = .ok (.iload_n 1, 1) := by decide +kernel
theorem dX1_refusalOfThree_38 : decode cX1_refusalOfThree 38 = .ok (.iaload, 1) := by decide +kernel
theorem dX1_refusalOfThree_39 : decode cX1_refusalOfThree 39 = .ok (.iload_n 2, 1) := by decide +kernel
theorem dX1_refusalOfThree_40 : decode cX1_refusalOfThree 40 = .ok (.if_icmp .eq 6, 3) := by decide +kernel
theorem dX1_refusalOfThree_43 : decode cX1_refusalOfThree 43 = .ok (.bipush (-13), 2) := by decide +kernel
theorem dX1_refusalOfThree_45 : decode cX1_refusalOfThree 45 = .ok (.ireturn, 1) := by decide +kernel
theorem dX1_refusalOfThree_46 : decode cX1_refusalOfThree 46 = .ok (.iload_n 3, 1) := by decide +kernel
theorem dX1_refusalOfThree_47 : decode cX1_refusalOfThree 47 = .ok (.ifCond .lt 19, 3) := by decide +kernel
theorem dX1_refusalOfThree_50 : decode cX1_refusalOfThree 50 = .ok (.iload_n 3, 1) := by decide +kernel
theorem dX1_refusalOfThree_51 : decode cX1_refusalOfThree 51 = .ok (.aload_n 0, 1) := by decide +kernel
theorem dX1_refusalOfThree_52 : decode cX1_refusalOfThree 52 = .ok (.getfield 15, 3) := by decide +kernel
theorem dX1_refusalOfThree_55 : decode cX1_refusalOfThree 55 = .ok (.iload_n 1, 1) := by decide +kernel
theorem dX1_refusalOfThree_56 : decode cX1_refusalOfThree 56 = .ok (.iaload, 1) := by decide +kernel
theorem dX1_refusalOfThree_57 : decode cX1_refusalOfThree 57 = .ok (.iconst 2, 1) := by decide +kernel
theorem dX1_refusalOfThree_58 : decode cX1_refusalOfThree 58 = .ok (.isub, 1) := by decide +kernel
theorem dX1_refusalOfThree_59 : decode cX1_refusalOfThree 59 = .ok (.if_icmp .ge 7, 3) := by decide +kernel
theorem dX1_refusalOfThree_62 : decode cX1_refusalOfThree 62 = .ok (.iconst 0, 1) := by decide +kernel
theorem dX1_refusalOfThree_63 : decode cX1_refusalOfThree 63 = .ok (.goto 5, 3) := by decide +kernel
theorem dX1_refusalOfThree_66 : decode cX1_refusalOfThree 66 = .ok (.bipush (-12), 2) := by decide +kernel
theorem dX1_refusalOfThree_68 : decode cX1_refusalOfThree 68 = .ok (.ireturn, 1) := by decide +kernel
theorem dX1_item_0 : decode cX1_item 0 = .ok (.aload_n 0, 1) := by decide +kernel
theorem dX1_item_1 : decode cX1_item 1 = .ok (.iload_n 1, 1) := by decide +kernel
theorem dX1_item_2 : decode cX1_item 2 = .ok (.iload_n 2, 1) := by decide +kernel
theorem dX1_item_3 : decode cX1_item 3 = .ok (.invokevirtual 39, 3) := by decide +kernel
theorem dX1_item_6 : decode cX1_item 6 = .ok (.ifCond .eq 14, 3) := by decide +kernel
theorem dX1_item_9 : decode cX1_item 9 = .ok (.aload_n 0, 1) := by decide +kernel
theorem dX1_item_10 : decode cX1_item 10 = .ok (.getfield 20, 3) := by decide +kernel
theorem dX1_item_13 : decode cX1_item 13 = .ok (.iload_n 1, 1) := by decide +kernel
theorem dX1_item_14 : decode cX1_item 14 = .ok (.aaload, 1) := by decide +kernel
theorem dX1_item_15 : decode cX1_item 15 = .ok (.iload_n 2, 1) := by decide +kernel
theorem dX1_item_16 : decode cX1_item 16 = .ok (.iaload, 1) := by decide +kernel
theorem dX1_item_17 : decode cX1_item 17 = .ok (.goto 4, 3) := by decide +kernel
theorem dX1_item_20 : decode cX1_item 20 = .ok (.iconst (-1), 1) := by decide +kernel
theorem dX1_item_21 : decode cX1_item 21 = .ok (.ireturn, 1) := by decide +kernel
theorem dX1_hold_0 : decode cX1_hold 0 = .ok (.aload_n 0, 1) := by decide +kernel
theorem dX1_hold_1 : decode cX1_hold 1 = .ok (.iload_n 1, 1) := by decide +kernel
theorem dX1_hold_2 : decode cX1_hold 2 = .ok (.invokevirtual 35, 3) := by decide +kernel
theorem dX1_hold_5 : decode cX1_hold 5 = .ok (.ifCond .ne 6, 3) := by decide +kernel
theorem dX1_hold_8 : decode cX1_hold 8 = .ok (.bipush (-2), 2) := by decide +kernel
theorem dX1_hold_10 : decode cX1_hold 10 = .ok (.ireturn, 1) := by decide +kernel
theorem dX1_hold_11 : decode cX1_hold 11 = .ok (.aload_n 0, 1) := by decide +kernel
theorem dX1_hold_12 : decode cX1_hold 12 = .ok (.getfield 23, 3) := by decide +kernel
theorem dX1_hold_15 : decode cX1_hold 15 = .ok (.iload_n 1, 1) := by decide +kernel
theorem dX1_hold_16 : decode cX1_hold 16 = .ok (.iload_n 2, 1) := by decide +kernel
theorem dX1_hold_17 : decode cX1_hold 17 = .ok (.iastore, 1) := by decide +kernel
theorem dX1_hold_18 : decode cX1_hold 18 = .ok (.aload_n 0, 1) := by decide +kernel
theorem dX1_hold_19 : decode cX1_hold 19 = .ok (.getfield 26, 3) := by decide +kernel
theorem dX1_hold_22 : decode cX1_hold 22 = .ok (.iload_n 1, 1) := by decide +kernel
theorem dX1_hold_23 : decode cX1_hold 23 = .ok (.iload_n 3, 1) := by decide +kernel
theorem dX1_hold_24 : decode cX1_hold 24 = .ok (.iastore, 1) := by decide +kernel
theorem dX1_hold_25 : decode cX1_hold 25 = .ok (.iconst 1, 1) := by decide +kernel
theorem dX1_hold_26 : decode cX1_hold 26 = .ok (.ireturn, 1) := by decide +kernel
theorem dX1_holdSheet_0 : decode cX1_holdSheet 0 = .ok (.aload_n 0, 1) := by decide +kernel
theorem dX1_holdSheet_1 : decode cX1_holdSheet 1 = .ok (.iload_n 2, 1) := by decide +kernel
theorem dX1_holdSheet_2 : decode cX1_holdSheet 2 = .ok (.invokevirtual 35, 3) := by decide +kernel
theorem dX1_holdSheet_5 : decode cX1_holdSheet 5 = .ok (.ifCond .ne 6, 3) := by decide +kernel
theorem dX1_holdSheet_8 : decode cX1_holdSheet 8 = .ok (.bipush (-2), 2) := by decide +kernel
theorem dX1_holdSheet_10 : decode cX1_holdSheet 10 = .ok (.ireturn, 1) := by decide +kernel
theorem dX1_holdSheet_11 : decode cX1_holdSheet 11 = .ok (.aload_n 0, 1) := by decide +kernel
theorem dX1_holdSheet_12 : decode cX1_holdSheet 12 = .ok (.getfield 11, 3) := by decide +kernel
theorem dX1_holdSheet_15 : decode cX1_holdSheet 15 = .ok (.iload_n 2, 1) := by decide +kernel
theorem dX1_holdSheet_16 : decode cX1_holdSheet 16 = .ok (.iaload, 1) := by decide +kernel
theorem dX1_holdSheet_17 : decode cX1_holdSheet 17 = .ok (.istore_n 3, 1) := by decide +kernel
theorem dX1_holdSheet_18 : decode cX1_holdSheet 18 = .ok (.aload_n 0, 1) := by decide +kernel
theorem dX1_holdSheet_19 : decode cX1_holdSheet 19 = .ok (.iload_n 1, 1) := by decide +kernel
theorem dX1_holdSheet_20 : decode cX1_holdSheet 20 = .ok (.iload_n 3, 1) := by decide +kernel
theorem dX1_holdSheet_21 : decode cX1_holdSheet 21 = .ok (.iconst (-1), 1) := by decide +kernel
theorem dX1_holdSheet_22 : decode cX1_holdSheet 22 = .ok (.if_icmp .ne 7, 3) := by decide +kernel
theorem dX1_holdSheet_25 : decode cX1_holdSheet 25 = .ok (.iconst (-1), 1) := by decide +kernel
theorem dX1_holdSheet_26 : decode cX1_holdSheet 26 = .ok (.goto 7, 3) := by decide +kernel
theorem dX1_holdSheet_29 : decode cX1_holdSheet 29 = .ok (.bipush 6, 2) := by decide +kernel
theorem dX1_holdSheet_31 : decode cX1_holdSheet 31 = .ok (.iload_n 3, 1) := by decide +kernel
theorem dX1_holdSheet_32 : decode cX1_holdSheet 32 = .ok (.iadd, 1) := by decide +kernel
theorem dX1_holdSheet_33 : decode cX1_holdSheet 33 = .ok (.aload_n 0, 1) := by decide +kernel
theorem dX1_holdSheet_34 : decode cX1_holdSheet 34 = .ok (.getfield 15, 3) := by decide +kernel
theorem dX1_holdSheet_37 : decode cX1_holdSheet 37 = .ok (.iload_n 2, 1) := by decide +kernel
theorem dX1_holdSheet_38 : decode cX1_holdSheet 38 = .ok (.iaload, 1) := by decide +kernel
theorem dX1_holdSheet_39 : decode cX1_holdSheet 39 = .ok (.invokevirtual 47, 3) := by decide +kernel
theorem dX1_holdSheet_42 : decode cX1_holdSheet 42 = .ok (.ireturn, 1) := by decide +kernel
theorem dX1_heldFor_0 : decode cX1_heldFor 0 = .ok (.aload_n 0, 1) := by decide +kernel
theorem dX1_heldFor_1 : decode cX1_heldFor 1 = .ok (.iload_n 1, 1) := by decide +kernel
theorem dX1_heldFor_2 : decode cX1_heldFor 2 = .ok (.invokevirtual 35, 3) := by decide +kernel
theorem dX1_heldFor_5 : decode cX1_heldFor 5 = .ok (.ifCond .eq 13, 3) := by decide +kernel
theorem dX1_heldFor_8 : decode cX1_heldFor 8 = .ok (.iload_n 2, 1) := by decide +kernel
theorem dX1_heldFor_9 : decode cX1_heldFor 9 = .ok (.ifCond .lt 9, 3) := by decide +kernel
theorem dX1_heldFor_12 : decode cX1_heldFor 12 = .ok (.iload_n 2, 1) := by decide +kernel
theorem dX1_heldFor_13 : decode cX1_heldFor 13 = .ok (.bipush 8, 2) := by decide +kernel
theorem dX1_heldFor_15 : decode cX1_heldFor 15 = .ok (.if_icmp .le 6, 3) := by decide +kernel
theorem dX1_heldFor_18 : decode cX1_heldFor 18 = .ok (.bipush (-2), 2) := by decide +kernel
theorem dX1_heldFor_20 : decode cX1_heldFor 20 = .ok (.ireturn, 1) := by decide +kernel
theorem dX1_heldFor_21 : decode cX1_heldFor 21 = .ok (.aload_n 0, 1) := by decide +kernel
theorem dX1_heldFor_22 : decode cX1_heldFor 22 = .ok (.getfield 23, 3) := by decide +kernel
theorem dX1_heldFor_25 : decode cX1_heldFor 25 = .ok (.iload_n 1, 1) := by decide +kernel
theorem dX1_heldFor_26 : decode cX1_heldFor 26 = .ok (.iaload, 1) := by decide +kernel
theorem dX1_heldFor_27 : decode cX1_heldFor 27 = .ok (.istore_n 3, 1) := by decide +kernel
theorem dX1_heldFor_28 : decode cX1_heldFor 28 = .ok (.iload_n 3, 1) := by decide +kernel
theorem dX1_heldFor_29 : decode cX1_heldFor 29 = .ok (.iconst (-1), 1) := by decide +kernel
theorem dX1_heldFor_30 : decode cX1_heldFor 30 = .ok (.if_icmp .ne 6, 3) := by decide +kernel
theorem dX1_heldFor_33 : decode cX1_heldFor 33 = .ok (.bipush (-11), 2) := by decide +kernel
theorem dX1_heldFor_35 : decode cX1_heldFor 35 = .ok (.ireturn, 1) := by decide +kernel
theorem dX1_heldFor_36 : decode cX1_heldFor 36 = .ok (.iload_n 3, 1) := by decide +kernel
theorem dX1_heldFor_37 : decode cX1_heldFor 37 = .ok (.iload_n 2, 1) := by decide +kernel
theorem dX1_heldFor_38 : decode cX1_heldFor 38 = .ok (.invokestatic 51, 3) := by decide +kernel
theorem dX1_heldFor_41 : decode cX1_heldFor 41 = .ok (.ifCond .eq 12, 3) := by decide +kernel
theorem dX1_heldFor_44 : decode cX1_heldFor 44 = .ok (.aload_n 0, 1) := by decide +kernel
theorem dX1_heldFor_45 : decode cX1_heldFor 45 = .ok (.getfield 26, 3) := by decide +kernel
theorem dX1_heldFor_48 : decode cX1_heldFor 48 = .ok (.iload_n 1, 1) := by decide +kernel
theorem dX1_heldFor_49 : decode cX1_heldFor 49 = .ok (.iaload, 1) := by decide +kernel
theorem dX1_heldFor_50 : decode cX1_heldFor 50 = .ok (.goto 5, 3) := by decide +kernel
theorem dX1_heldFor_53 : decode cX1_heldFor 53 = .ok (.bipush (-13), 2) := by decide +kernel
theorem dX1_heldFor_55 : decode cX1_heldFor 55 = .ok (.ireturn, 1) := by decide +kernel
theorem dX1_isOne_0 : decode cX1_isOne 0 = .ok (.iload_n 0, 1) := by decide +kernel
theorem dX1_isOne_1 : decode cX1_isOne 1 = .ok (.iload_n 1, 1) := by decide +kernel
theorem dX1_isOne_2 : decode cX1_isOne 2 = .ok (.if_icmp .ne 5, 3) := by decide +kernel
theorem dX1_isOne_5 : decode cX1_isOne 5 = .ok (.iconst 1, 1) := by decide +kernel
theorem dX1_isOne_6 : decode cX1_isOne 6 = .ok (.ireturn, 1) := by decide +kernel
theorem dX1_isOne_7 : decode cX1_isOne 7 = .ok (.iload_n 0, 1) := by decide +kernel
theorem dX1_isOne_8 : decode cX1_isOne 8 = .ok (.istore_n 2, 1) := by decide +kernel
theorem dX1_isOne_9 : decode cX1_isOne 9 = .ok (.iconst 0, 1) := by decide +kernel
theorem dX1_isOne_10 : decode cX1_isOne 10 = .ok (.istore_n 3, 1) := by decide +kernel
theorem dX1_isOne_11 : decode cX1_isOne 11 = .ok (.iload_n 3, 1) := by decide +kernel
theorem dX1_isOne_12 : decode cX1_isOne 12 = .ok (.getstatic 54, 3) := by decide +kernel
theorem dX1_isOne_15 : decode cX1_isOne 15 = .ok (.arraylength, 1) := by decide +kernel
theorem dX1_isOne_16 : decode cX1_isOne 16 = .ok (.if_icmp .ge 34, 3) := by decide +kernel
theorem dX1_isOne_19 : decode cX1_isOne 19 = .ok (.iload_n 2, 1) := by decide +kernel
theorem dX1_isOne_20 : decode cX1_isOne 20 = .ok (.ifCond .lt 30, 3) := by decide +kernel
theorem dX1_isOne_23 : decode cX1_isOne 23 = .ok (.iload_n 2, 1) := by decide +kernel
theorem dX1_isOne_24 : decode cX1_isOne 24 = .ok (.getstatic 54, 3) := by decide +kernel
theorem dX1_isOne_27 : decode cX1_isOne 27 = .ok (.arraylength, 1) := by decide +kernel
theorem dX1_isOne_28 : decode cX1_isOne 28 = .ok (.if_icmp .ge 22, 3) := by decide +kernel
theorem dX1_isOne_31 : decode cX1_isOne 31 = .ok (.getstatic 54, 3) := by decide +kernel
theorem dX1_isOne_34 : decode cX1_isOne 34 = .ok (.iload_n 2, 1) := by decide +kernel
theorem dX1_isOne_35 : decode cX1_isOne 35 = .ok (.iaload, 1) := by decide +kernel
theorem dX1_isOne_36 : decode cX1_isOne 36 = .ok (.istore_n 2, 1) := by decide +kernel
theorem dX1_isOne_37 : decode cX1_isOne 37 = .ok (.iload_n 2, 1) := by decide +kernel
theorem dX1_isOne_38 : decode cX1_isOne 38 = .ok (.iload_n 1, 1) := by decide +kernel
theorem dX1_isOne_39 : decode cX1_isOne 39 = .ok (.if_icmp .ne 5, 3) := by decide +kernel
theorem dX1_isOne_42 : decode cX1_isOne 42 = .ok (.iconst 1, 1) := by decide +kernel
theorem dX1_isOne_43 : decode cX1_isOne 43 = .ok (.ireturn, 1) := by decide +kernel
theorem dX1_isOne_44 : decode cX1_isOne 44 = .ok (.iinc 3 1, 3) := by decide +kernel
theorem dX1_isOne_47 : decode cX1_isOne 47 = .ok (.goto (-36), 3) := by decide +kernel
theorem dX1_isOne_50 : decode cX1_isOne 50 = .ok (.iconst 0, 1) := by decide +kernel
theorem dX1_isOne_51 : decode cX1_isOne 51 = .ok (.ireturn, 1) := by decide +kernel
theorem dX2_init_0 : decode cX2_init 0 = .ok (.aload_n 0, 1) := by decide +kernel
theorem dX2_init_1 : decode cX2_init 1 = .ok (.invokespecial 3, 3) := by decide +kernel
theorem dX2_init_4 : decode cX2_init 4 = .ok (.aload_n 0, 1) := by decide +kernel
theorem dX2_init_5 : decode cX2_init 5 = .ok (.bipush 8, 2) := by decide +kernel
theorem dX2_init_7 : decode cX2_init 7 = .ok (.newarray .int, 2) := by decide +kernel
theorem dX2_init_9 : decode cX2_init 9 = .ok (.putfield 9, 3) := by decide +kernel
theorem dX2_init_12 : decode cX2_init 12 = .ok (.aload_n 0, 1) := by decide +kernel
theorem dX2_init_13 : decode cX2_init 13 = .ok (.bipush 12, 2) := by decide +kernel
theorem dX2_init_15 : decode cX2_init 15 = .ok (.newarray .int, 2) := by decide +kernel
theorem dX2_init_17 : decode cX2_init 17 = .ok (.putfield 15, 3) := by decide +kernel
theorem dX2_init_20 : decode cX2_init 20 = .ok (.aload_n 0, 1) := by decide +kernel
theorem dX2_init_21 : decode cX2_init 21 = .ok (.bipush 12, 2) := by decide +kernel
theorem dX2_init_23 : decode cX2_init 23 = .ok (.newarray .int, 2) := by decide +kernel
theorem dX2_init_25 : decode cX2_init 25 = .ok (.putfield 18, 3) := by decide +kernel
theorem dX2_init_28 : decode cX2_init 28 = .ok (.aload_n 0, 1) := by decide +kernel
theorem dX2_init_29 : decode cX2_init 29 = .ok (.bipush 12, 2) := by decide +kernel
theorem dX2_init_31 : decode cX2_init 31 = .ok (.newarray .int, 2) := by decide +kernel
theorem dX2_init_33 : decode cX2_init 33 = .ok (.putfield 21, 3) := by decide +kernel
theorem dX2_init_36 : decode cX2_init 36 = .ok (.aload_n 0, 1) := by decide +kernel
theorem dX2_init_37 : decode cX2_init 37 = .ok (.bipush 12, 2) := by decide +kernel
theorem dX2_init_39 : decode cX2_init 39 = .ok (.newarray .int, 2) := by decide +kernel
theorem dX2_init_41 : decode cX2_init 41 = .ok (.putfield 24, 3) := by decide +kernel
theorem dX2_init_44 : decode cX2_init 44 = .ok (.return_, 1) := by decide +kernel
theorem dX2_isPost_0 : decode cX2_isPost 0 = .ok (.iload_n 1, 1) := by decide +kernel
theorem dX2_isPost_1 : decode cX2_isPost 1 = .ok (.ifCond .lt 21, 3) := by decide +kernel
theorem dX2_isPost_4 : decode cX2_isPost 4 = .ok (.iload_n 1, 1) := by decide +kernel
theorem dX2_isPost_5 : decode cX2_isPost 5 = .ok (.aload_n 0, 1) := by decide +kernel
theorem dX2_isPost_6 : decode cX2_isPost 6 = .ok (.getfield 27, 3) := by decide +kernel
theorem dX2_isPost_9 : decode cX2_isPost 9 = .ok (.if_icmp .ge 13, 3) := by decide +kernel
theorem dX2_isPost_12 : decode cX2_isPost 12 = .ok (.iload_n 1, 1) := by decide +kernel
theorem dX2_isPost_13 : decode cX2_isPost 13 = .ok (.bipush 8, 2) := by decide +kernel
theorem dX2_isPost_15 : decode cX2_isPost 15 = .ok (.if_icmp .ge 7, 3) := by decide +kernel
theorem dX2_isPost_18 : decode cX2_isPost 18 = .ok (.iconst 1, 1) := by decide +kernel
theorem dX2_isPost_19 : decode cX2_isPost 19 = .ok (.goto 4, 3) := by decide +kernel
theorem dX2_isPost_22 : decode cX2_isPost 22 = .ok (.iconst 0, 1) := by decide +kernel
theorem dX2_isPost_23 : decode cX2_isPost 23 = .ok (.ireturn, 1) := by decide +kernel
theorem dX2_isRoad_0 : decode cX2_isRoad 0 = .ok (.iload_n 1, 1) := by decide +kernel
theorem dX2_isRoad_1 : decode cX2_isRoad 1 = .ok (.ifCond .lt 21, 3) := by decide +kernel
theorem dX2_isRoad_4 : decode cX2_isRoad 4 = .ok (.iload_n 1, 1) := by decide +kernel
theorem dX2_isRoad_5 : decode cX2_isRoad 5 = .ok (.aload_n 0, 1) := by decide +kernel
theorem dX2_isRoad_6 : decode cX2_isRoad 6 = .ok (.getfield 31, 3) := by decide +kernel
theorem dX2_isRoad_9 : decode cX2_isRoad 9 = .ok (.if_icmp .ge 13, 3) := by decide +kernel
theorem dX2_isRoad_12 : decode cX2_isRoad 12 = .ok (.iload_n 1, 1) := by decide +kernel
theorem dX2_isRoad_13 : decode cX2_isRoad 13 = .ok (.bipush 12, 2) := by decide +kernel
theorem dX2_isRoad_15 : decode cX2_isRoad 15 = .ok (.if_icmp .ge 7, 3) := by decide +kernel
theorem dX2_isRoad_18 : decode cX2_isRoad 18 = .ok (.iconst 1, 1) := by decide +kernel
theorem dX2_isRoad_19 : decode cX2_isRoad 19 = .ok (.goto 4, 3) := by decide +kernel
theorem dX2_isRoad_22 : decode cX2_isRoad 22 = .ok (.iconst 0, 1) := by decide +kernel
theorem dX2_isRoad_23 : decode cX2_isRoad 23 = .ok (.ireturn, 1) := by decide +kernel
theorem dX2_hasRoads_0 : decode cX2_hasRoads 0 = .ok (.iload_n 1, 1) := by decide +kernel
theorem dX2_hasRoads_1 : decode cX2_hasRoads 1 = .ok (.ifCond .lt 17, 3) := by decide +kernel
theorem dX2_hasRoads_4 : decode cX2_hasRoads 4 = .ok (.iload_n 1, 1) := by decide +kernel
theorem dX2_hasRoads_5 : decode cX2_hasRoads 5 = .ok (.iconst 1, 1) := by decide +kernel
theorem dX2_hasRoads_6 : decode cX2_hasRoads 6 = .ok (.aload_n 0, 1) := by decide +kernel
theorem dX2_hasRoads_7 : decode cX2_hasRoads 7 = .ok (.getfield 31, 3) := by decide +kernel
theorem dX2_hasRoads_10 : decode cX2_hasRoads 10 = .ok (.ishl, 1) := by decide +kernel
theorem dX2_hasRoads_11 : decode cX2_hasRoads 11 = .ok (.if_icmp .ge 7, 3) := by decide +kernel
theorem dX2_hasRoads_14 : decode cX2_hasRoads 14 = .ok (.iconst 1, 1) := by decide +kernel
theorem dX2_hasRoads_15 : decode cX2_hasRoads 15 = .ok (.goto 4, 3) := by decide +kernel
theorem dX2_hasRoads_18 : decode cX2_hasRoads 18 = .ok (.iconst 0, 1) := by decide +kernel
theorem dX2_hasRoads_19 : decode cX2_hasRoads 19 = .ok (.ireturn, 1) := by decide +kernel
theorem dX2_addPost_0 : decode cX2_addPost 0 = .ok (.aload_n 0, 1) := by decide +kernel
theorem dX2_addPost_1 : decode cX2_addPost 1 = .ok (.getfield 27, 3) := by decide +kernel
theorem dX2_addPost_4 : decode cX2_addPost 4 = .ok (.ifCond .lt 12, 3) := by decide +kernel
theorem dX2_addPost_7 : decode cX2_addPost 7 = .ok (.aload_n 0, 1) := by decide +kernel
theorem dX2_addPost_8 : decode cX2_addPost 8 = .ok (.getfield 27, 3) := by decide +kernel
theorem dX2_addPost_11 : decode cX2_addPost 11 = .ok (.bipush 8, 2) := by decide +kernel
theorem dX2_addPost_13 : decode cX2_addPost 13 = .ok (.if_icmp .lt 6, 3) := by decide +kernel
theorem dX2_addPost_16 : decode cX2_addPost 16 = .ok (.bipush (-4), 2) := by decide +kernel
theorem dX2_addPost_18 : decode cX2_addPost 18 = .ok (.ireturn, 1) := by decide +kernel
theorem dX2_addPost_19 : decode cX2_addPost 19 = .ok (.aload_n 0, 1) := by decide +kernel
theorem dX2_addPost_20 : decode cX2_addPost 20 = .ok (.getfield 9, 3) := by decide +kernel
theorem dX2_addPost_23 : decode cX2_addPost 23 = .ok (.aload_n 0, 1) := by decide +kernel
theorem dX2_addPost_24 : decode cX2_addPost 24 = .ok (.getfield 27, 3) := by decide +kernel
theorem dX2_addPost_27 : decode cX2_addPost 27 = .ok (.iload_n 1, 1) := by decide +kernel
theorem dX2_addPost_28 : decode cX2_addPost 28 = .ok (.iastore, 1) := by decide +kernel
theorem dX2_addPost_29 : decode cX2_addPost 29 = .ok (.aload_n 0, 1) := by decide +kernel
theorem dX2_addPost_30 : decode cX2_addPost 30 = .ok (.dup, 1) := by decide +kernel
theorem dX2_addPost_31 : decode cX2_addPost 31 = .ok (.getfield 27, 3) := by decide +kernel
theorem dX2_addPost_34 : decode cX2_addPost 34 = .ok (.iconst 1, 1) := by decide +kernel
theorem dX2_addPost_35 : decode cX2_addPost 35 = .ok (.iadd, 1) := by decide +kernel
theorem dX2_addPost_36 : decode cX2_addPost 36 = .ok (.putfield 27, 3) := by decide +kernel
theorem dX2_addPost_39 : decode cX2_addPost 39 = .ok (.aload_n 0, 1) := by decide +kernel
theorem dX2_addPost_40 : decode cX2_addPost 40 = .ok (.getfield 27, 3) := by decide +kernel
theorem dX2_addPost_43 : decode cX2_addPost 43 = .ok (.iconst 1, 1) := by decide +kernel
theorem dX2_addPost_44 : decode cX2_addPost 44 = .ok (.isub, 1) := by decide +kernel
theorem dX2_addPost_45 : decode cX2_addPost 45 = .ok (.ireturn, 1) := by decide +kernel
theorem dX2_areJoined_0 : decode cX2_areJoined 0 = .ok (.iconst 0, 1) := by decide +kernel
theorem dX2_areJoined_1 : decode cX2_areJoined 1 = .ok (.istore_n 3, 1) := by decide +kernel
theorem dX2_areJoined_2 : decode cX2_areJoined 2 = .ok (.iload_n 3, 1) := by decide +kernel
theorem dX2_areJoined_3 : decode cX2_areJoined 3 = .ok (.aload_n 0, 1) := by decide +kernel
theorem dX2_areJoined_4 : decode cX2_areJoined 4 = .ok (.getfield 31, 3) := by decide +kernel
theorem dX2_areJoined_7 : decode cX2_areJoined 7 = .ok (.if_icmp .ge 45, 3) := by decide +kernel
theorem dX2_areJoined_10 : decode cX2_areJoined 10 = .ok (.iload_n 3, 1) := by decide +kernel
theorem dX2_areJoined_11 : decode cX2_areJoined 11 = .ok (.bipush 12, 2) := by decide +kernel
theorem dX2_areJoined_13 : decode cX2_areJoined 13 = .ok (.if_icmp .ge 39, 3) := by decide +kernel
theorem dX2_areJoined_16 : decode cX2_areJoined 16 = .ok (.aload_n 0, 1) := by decide +kernel
theorem dX2_areJoined_17 : decode cX2_areJoined 17 = .ok (.getfield 15, 3) := by decide +kernel
theorem dX2_areJoined_20 : decode cX2_areJoined 20 = .ok (.iload_n 3, 1) := by decide +kernel
theorem dX2_areJoined_21 : decode cX2_areJoined 21 = .ok (.iaload, 1) := by decide +kernel
theorem dX2_areJoined_22 : decode cX2_areJoined 22 = .ok (.iload_n 1, 1) := by decide +kernel
theorem dX2_areJoined_23 : decode cX2_areJoined 23 = .ok (.iload_n 2, 1) := by decide +kernel
theorem dX2_areJoined_24 : decode cX2_areJoined 24 = .ok (.invokestatic 34, 3) := by decide +kernel
theorem dX2_areJoined_27 : decode cX2_areJoined 27 = .ok (.if_icmp .ne 19, 3) := by decide +kernel
theorem dX2_areJoined_30 : decode cX2_areJoined 30 = .ok (.aload_n 0, 1) := by decide +kernel
theorem dX2_areJoined_31 : decode cX2_areJoined 31 = .ok (.getfield 18, 3) := by decide +kernel
theorem dX2_areJoined_34 : decode cX2_areJoined 34 = .ok (.iload_n 3, 1) := by decide +kernel
theorem dX2_areJoined_35 : decode cX2_areJoined 35 = .ok (.iaload, 1) := by decide +kernel
theorem dX2_areJoined_36 : decode cX2_areJoined 36 = .ok (.iload_n 1, 1) := by decide +kernel
theorem dX2_areJoined_37 : decode cX2_areJoined 37 = .ok (.iload_n 2, 1) := by decide +kernel
theorem dX2_areJoined_38 : decode cX2_areJoined 38 = .ok (.invokestatic 40, 3) := by decide +kernel
theorem dX2_areJoined_41 : decode cX2_areJoined 41 = .ok (.if_icmp .ne 5, 3) := by decide +kernel
theorem dX2_areJoined_44 : decode cX2_areJoined 44 = .ok (.iconst 1, 1) := by decide +kernel
theorem dX2_areJoined_45 : decode cX2_areJoined 45 = .ok (.ireturn, 1) := by decide +kernel
theorem dX2_areJoined_46 : decode cX2_areJoined 46 = .ok (.iinc 3 1, 3) := by decide +kernel
theorem dX2_areJoined_49 : decode cX2_areJoined 49 = .ok (.goto (-47), 3) := by decide +kernel
theorem dX2_areJoined_52 : decode cX2_areJoined 52 = .ok (.iconst 0, 1) := by decide +kernel
theorem dX2_areJoined_53 : decode cX2_areJoined 53 = .ok (.ireturn, 1) := by decide +kernel
theorem dX2_addRoad_0 : decode cX2_addRoad 0 = .ok (.aload_n 0, 1) := by decide +kernel
theorem dX2_addRoad_1 : decode cX2_addRoad 1 = .ok (.getfield 31, 3) := by decide +kernel
theorem dX2_addRoad_4 : decode cX2_addRoad 4 = .ok (.ifCond .lt 12, 3) := by decide +kernel
theorem dX2_addRoad_7 : decode cX2_addRoad 7 = .ok (.aload_n 0, 1) := by decide +kernel
theorem dX2_addRoad_8 : decode cX2_addRoad 8 = .ok (.getfield 31, 3) := by decide +kernel
theorem dX2_addRoad_11 : decode cX2_addRoad 11 = .ok (.bipush 12, 2) := by decide +kernel
theorem dX2_addRoad_13 : decode cX2_addRoad 13 = .ok (.if_icmp .lt 6, 3) := by decide +kernel
theorem dX2_addRoad_16 : decode cX2_addRoad 16 = .ok (.bipush (-4), 2) := by decide +kernel
theorem dX2_addRoad_18 : decode cX2_addRoad 18 = .ok (.ireturn, 1) := by decide +kernel
theorem dX2_addRoad_19 : decode cX2_addRoad 19 = .ok (.aload_n 0, 1) := by decide +kernel
theorem dX2_addRoad_20 : decode cX2_addRoad 20 = .ok (.getfield 15, 3) := by decide +kernel
theorem dX2_addRoad_23 : decode cX2_addRoad 23 = .ok (.aload_n 0, 1) := by decide +kernel
theorem dX2_addRoad_24 : decode cX2_addRoad 24 = .ok (.getfield 31, 3) := by decide +kernel
theorem dX2_addRoad_27 : decode cX2_addRoad 27 = .ok (.iload_n 1, 1) := by decide +kernel
theorem dX2_addRoad_28 : decode cX2_addRoad 28 = .ok (.iload_n 2, 1) := by decide +kernel
theorem dX2_addRoad_29 : decode cX2_addRoad 29 = .ok (.invokestatic 34, 3) := by decide +kernel
theorem dX2_addRoad_32 : decode cX2_addRoad 32 = .ok (.iastore, 1) := by decide +kernel
theorem dX2_addRoad_33 : decode cX2_addRoad 33 = .ok (.aload_n 0, 1) := by decide +kernel
theorem dX2_addRoad_34 : decode cX2_addRoad 34 = .ok (.getfield 18, 3) := by decide +kernel
theorem dX2_addRoad_37 : decode cX2_addRoad 37 = .ok (.aload_n 0, 1) := by decide +kernel
theorem dX2_addRoad_38 : decode cX2_addRoad 38 = .ok (.getfield 31, 3) := by decide +kernel
theorem dX2_addRoad_41 : decode cX2_addRoad 41 = .ok (.iload_n 1, 1) := by decide +kernel
theorem dX2_addRoad_42 : decode cX2_addRoad 42 = .ok (.iload_n 2, 1) := by decide +kernel
theorem dX2_addRoad_43 : decode cX2_addRoad 43 = .ok (.invokestatic 40, 3) := by decide +kernel
theorem dX2_addRoad_46 : decode cX2_addRoad 46 = .ok (.iastore, 1) := by decide +kernel
theorem dX2_addRoad_47 : decode cX2_addRoad 47 = .ok (.aload_n 0, 1) := by decide +kernel
theorem dX2_addRoad_48 : decode cX2_addRoad 48 = .ok (.getfield 21, 3) := by decide +kernel
theorem dX2_addRoad_51 : decode cX2_addRoad 51 = .ok (.aload_n 0, 1) := by decide +kernel
theorem dX2_addRoad_52 : decode cX2_addRoad 52 = .ok (.getfield 31, 3) := by decide +kernel
theorem dX2_addRoad_55 : decode cX2_addRoad 55 = .ok (.iload_n 3, 1) := by decide +kernel
theorem dX2_addRoad_56 : decode cX2_addRoad 56 = .ok (.iastore, 1) := by decide +kernel
theorem dX2_addRoad_57 : decode cX2_addRoad 57 = .ok (.aload_n 0, 1) := by decide +kernel
theorem dX2_addRoad_58 : decode cX2_addRoad 58 = .ok (.getfield 24, 3) := by decide +kernel
theorem dX2_addRoad_61 : decode cX2_addRoad 61 = .ok (.aload_n 0, 1) := by decide +kernel
theorem dX2_addRoad_62 : decode cX2_addRoad 62 = .ok (.getfield 31, 3) := by decide +kernel
theorem dX2_addRoad_65 : decode cX2_addRoad 65 = .ok (.iconst 4, 1) := by decide +kernel
theorem dX2_addRoad_66 : decode cX2_addRoad 66 = .ok (.iastore, 1) := by decide +kernel
theorem dX2_addRoad_67 : decode cX2_addRoad 67 = .ok (.aload_n 0, 1) := by decide +kernel
theorem dX2_addRoad_68 : decode cX2_addRoad 68 = .ok (.dup, 1) := by decide +kernel
theorem dX2_addRoad_69 : decode cX2_addRoad 69 = .ok (.getfield 31, 3) := by decide +kernel
theorem dX2_addRoad_72 : decode cX2_addRoad 72 = .ok (.iconst 1, 1) := by decide +kernel
theorem dX2_addRoad_73 : decode cX2_addRoad 73 = .ok (.iadd, 1) := by decide +kernel
theorem dX2_addRoad_74 : decode cX2_addRoad 74 = .ok (.putfield 31, 3) := by decide +kernel
theorem dX2_addRoad_77 : decode cX2_addRoad 77 = .ok (.aload_n 0, 1) := by decide +kernel
theorem dX2_addRoad_78 : decode cX2_addRoad 78 = .ok (.getfield 31, 3) := by decide +kernel
theorem dX2_addRoad_81 : decode cX2_addRoad 81 = .ok (.iconst 1, 1) := by decide +kernel
theorem dX2_addRoad_82 : decode cX2_addRoad 82 = .ok (.isub, 1) := by decide +kernel
theorem dX2_addRoad_83 : decode cX2_addRoad 83 = .ok (.ireturn, 1) := by decide +kernel
theorem dX2_loseRoad_0 : decode cX2_loseRoad 0 = .ok (.aload_n 0, 1) := by decide +kernel
theorem dX2_loseRoad_1 : decode cX2_loseRoad 1 = .ok (.dup, 1) := by decide +kernel
theorem dX2_loseRoad_2 : decode cX2_loseRoad 2 = .ok (.getfield 31, 3) := by decide +kernel
theorem dX2_loseRoad_5 : decode cX2_loseRoad 5 = .ok (.iconst 1, 1) := by decide +kernel
theorem dX2_loseRoad_6 : decode cX2_loseRoad 6 = .ok (.isub, 1) := by decide +kernel
theorem dX2_loseRoad_7 : decode cX2_loseRoad 7 = .ok (.putfield 31, 3) := by decide +kernel
theorem dX2_loseRoad_10 : decode cX2_loseRoad 10 = .ok (.aload_n 0, 1) := by decide +kernel
theorem dX2_loseRoad_11 : decode cX2_loseRoad 11 = .ok (.getfield 31, 3) := by decide +kernel
theorem dX2_loseRoad_14 : decode cX2_loseRoad 14 = .ok (.ireturn, 1) := by decide +kernel
theorem dX2_weightOf_0 : decode cX2_weightOf 0 = .ok (.aload_n 0, 1) := by decide +kernel
theorem dX2_weightOf_1 : decode cX2_weightOf 1 = .ok (.iload_n 1, 1) := by decide +kernel
theorem dX2_weightOf_2 : decode cX2_weightOf 2 = .ok (.invokevirtual 43, 3) := by decide +kernel
theorem dX2_weightOf_5 : decode cX2_weightOf 5 = .ok (.ifCond .eq 12, 3) := by decide +kernel
theorem dX2_weightOf_8 : decode cX2_weightOf 8 = .ok (.aload_n 0, 1) := by decide +kernel
theorem dX2_weightOf_9 : decode cX2_weightOf 9 = .ok (.getfield 21, 3) := by decide +kernel
theorem dX2_weightOf_12 : decode cX2_weightOf 12 = .ok (.iload_n 1, 1) := by decide +kernel
theorem dX2_weightOf_13 : decode cX2_weightOf 13 = .ok (.iaload, 1) := by decide +kernel
theorem dX2_weightOf_14 : decode cX2_weightOf 14 = .ok (.goto 4, 3) := by decide +kernel
theorem dX2_weightOf_17 : decode cX2_weightOf 17 = .ok (.iconst 0, 1) := by decide +kernel
theorem dX2_weightOf_18 : decode cX2_weightOf 18 = .ok (.ireturn, 1) := by decide +kernel
theorem dX2_eighthsOf_0 : decode cX2_eighthsOf 0 = .ok (.aload_n 0, 1) := by decide +kernel
theorem dX2_eighthsOf_1 : decode cX2_eighthsOf 1 = .ok (.iload_n 1, 1) := by decide +kernel
theorem dX2_eighthsOf_2 : decode cX2_eighthsOf 2 = .ok (.invokevirtual 43, 3) := by decide +kernel
theorem dX2_eighthsOf_5 : decode cX2_eighthsOf 5 = .ok (.ifCond .eq 12, 3) := by decide +kernel
theorem dX2_eighthsOf_8 : decode cX2_eighthsOf 8 = .ok (.aload_n 0, 1) := by decide +kernel
theorem dX2_eighthsOf_9 : decode cX2_eighthsOf 9 = .ok (.getfield 24, 3) := by decide +kernel
theorem dX2_eighthsOf_12 : decode cX2_eighthsOf 12 = .ok (.iload_n 1, 1) := by decide +kernel
theorem dX2_eighthsOf_13 : decode cX2_eighthsOf 13 = .ok (.iaload, 1) := by decide +kernel
theorem dX2_eighthsOf_14 : decode cX2_eighthsOf 14 = .ok (.goto 4, 3) := by decide +kernel
theorem dX2_eighthsOf_17 : decode cX2_eighthsOf 17 = .ok (.iconst 0, 1) := by decide +kernel
theorem dX2_eighthsOf_18 : decode cX2_eighthsOf 18 = .ok (.ireturn, 1) := by decide +kernel
theorem dX2_beyond_0 : decode cX2_beyond 0 = .ok (.aload_n 0, 1) := by decide +kernel
theorem dX2_beyond_1 : decode cX2_beyond 1 = .ok (.iload_n 1, 1) := by decide +kernel
theorem dX2_beyond_2 : decode cX2_beyond 2 = .ok (.invokevirtual 43, 3) := by decide +kernel
theorem dX2_beyond_5 : decode cX2_beyond 5 = .ok (.ifCond .ne 5, 3) := by decide +kernel
theorem dX2_beyond_8 : decode cX2_beyond 8 = .ok (.iconst (-1), 1) := by decide +kernel
theorem dX2_beyond_9 : decode cX2_beyond 9 = .ok (.ireturn, 1) := by decide +kernel
theorem dX2_beyond_10 : decode cX2_beyond 10 = .ok (.aload_n 0, 1) := by decide +kernel
theorem dX2_beyond_11 : decode cX2_beyond 11 = .ok (.getfield 15, 3) := by decide +kernel
theorem dX2_beyond_14 : decode cX2_beyond 14 = .ok (.iload_n 1, 1) := by decide +kernel
theorem dX2_beyond_15 : decode cX2_beyond 15 = .ok (.iaload, 1) := by decide +kernel
theorem dX2_beyond_16 : decode cX2_beyond 16 = .ok (.iload_n 2, 1) := by decide +kernel
theorem dX2_beyond_17 : decode cX2_beyond 17 = .ok (.if_icmp .ne 10, 3) := by decide +kernel
theorem dX2_beyond_20 : decode cX2_beyond 20 = .ok (.aload_n 0, 1) := by decide +kernel
theorem dX2_beyond_21 : decode cX2_beyond 21 = .ok (.getfield 18, 3) := by decide +kernel
theorem dX2_beyond_24 : decode cX2_beyond 24 = .ok (.iload_n 1, 1) := by decide +kernel
theorem dX2_beyond_25 : decode cX2_beyond 25 = .ok (.iaload, 1) := by decide +kernel
theorem dX2_beyond_26 : decode cX2_beyond 26 = .ok (.ireturn, 1) := by decide +kernel
theorem dX2_beyond_27 : decode cX2_beyond 27 = .ok (.aload_n 0, 1) := by decide +kernel
theorem dX2_beyond_28 : decode cX2_beyond 28 = .ok (.getfield 18, 3) := by decide +kernel
theorem dX2_beyond_31 : decode cX2_beyond 31 = .ok (.iload_n 1, 1) := by decide +kernel
theorem dX2_beyond_32 : decode cX2_beyond 32 = .ok (.iaload, 1) := by decide +kernel
theorem dX2_beyond_33 : decode cX2_beyond 33 = .ok (.iload_n 2, 1) := by decide +kernel
theorem dX2_beyond_34 : decode cX2_beyond 34 = .ok (.if_icmp .ne 12, 3) := by decide +kernel
theorem dX2_beyond_37 : decode cX2_beyond 37 = .ok (.aload_n 0, 1) := by decide +kernel
theorem dX2_beyond_38 : decode cX2_beyond 38 = .ok (.getfield 15, 3) := by decide +kernel
theorem dX2_beyond_41 : decode cX2_beyond 41 = .ok (.iload_n 1, 1) := by decide +kernel
theorem dX2_beyond_42 : decode cX2_beyond 42 = .ok (.iaload, 1) := by decide +kernel
theorem dX2_beyond_43 : decode cX2_beyond 43 = .ok (.goto 4, 3) := by decide +kernel
theorem dX2_beyond_46 : decode cX2_beyond 46 = .ok (.iconst (-1), 1) := by decide +kernel
theorem dX2_beyond_47 : decode cX2_beyond 47 = .ok (.ireturn, 1) := by decide +kernel
theorem dX2_roadsAt_0 : decode cX2_roadsAt 0 = .ok (.iconst 0, 1) := by decide +kernel
theorem dX2_roadsAt_1 : decode cX2_roadsAt 1 = .ok (.istore_n 2, 1) := by decide +kernel
theorem dX2_roadsAt_2 : decode cX2_roadsAt 2 = .ok (.iconst 0, 1) := by decide +kernel
theorem dX2_roadsAt_3 : decode cX2_roadsAt 3 = .ok (.istore_n 3, 1) := by decide +kernel
theorem dX2_roadsAt_4 : decode cX2_roadsAt 4 = .ok (.iload_n 3, 1) := by decide +kernel
theorem dX2_roadsAt_5 : decode cX2_roadsAt 5 = .ok (.aload_n 0, 1) := by decide +kernel
theorem dX2_roadsAt_6 : decode cX2_roadsAt 6 = .ok (.getfield 31, 3) := by decide +kernel
theorem dX2_roadsAt_9 : decode cX2_roadsAt 9 = .ok (.if_icmp .ge 26, 3) := by decide +kernel
theorem dX2_roadsAt_12 : decode cX2_roadsAt 12 = .ok (.aload_n 0, 1) := by decide +kernel
theorem dX2_roadsAt_13 : decode cX2_roadsAt 13 = .ok (.iload_n 3, 1) := by decide +kernel
theorem dX2_roadsAt_14 : decode cX2_roadsAt 14 = .ok (.iload_n 1, 1) := by decide +kernel
theorem dX2_roadsAt_15 : decode cX2_roadsAt 15 = .ok (.invokevirtual 47, 3) := by decide +kernel
theorem dX2_roadsAt_18 : decode cX2_roadsAt 18 = .ok (.iconst (-1), 1) := by decide +kernel
theorem dX2_roadsAt_19 : decode cX2_roadsAt 19 = .ok (.if_icmp .eq 10, 3) := by decide +kernel
theorem dX2_roadsAt_22 : decode cX2_roadsAt 22 = .ok (.iload_n 2, 1) := by decide +kernel
theorem dX2_roadsAt_23 : decode cX2_roadsAt 23 = .ok (.iload_n 3, 1) := by decide +kernel
theorem dX2_roadsAt_24 : decode cX2_roadsAt 24 = .ok (.invokestatic 50, 3) := by decide +kernel
theorem dX2_roadsAt_27 : decode cX2_roadsAt 27 = .ok (.ior, 1) := by decide +kernel
theorem dX2_roadsAt_28 : decode cX2_roadsAt 28 = .ok (.istore_n 2, 1) := by decide +kernel
theorem dX2_roadsAt_29 : decode cX2_roadsAt 29 = .ok (.iinc 3 1, 3) := by decide +kernel
theorem dX2_roadsAt_32 : decode cX2_roadsAt 32 = .ok (.goto (-28), 3) := by decide +kernel
theorem dX2_roadsAt_35 : decode cX2_roadsAt 35 = .ok (.iload_n 2, 1) := by decide +kernel
theorem dX2_roadsAt_36 : decode cX2_roadsAt 36 = .ok (.ireturn, 1) := by decide +kernel
theorem dX2_placeOf_0 : decode cX2_placeOf 0 = .ok (.sipush 2048, 3) := by decide +kernel
theorem dX2_placeOf_3 : decode cX2_placeOf 3 = .ok (.iload_n 0, 1) := by decide +kernel
theorem dX2_placeOf_4 : decode cX2_placeOf 4 = .ok (.ishr, 1) := by decide +kernel
theorem dX2_placeOf_5 : decode cX2_placeOf 5 = .ok (.ireturn, 1) := by decide +kernel
theorem dX3_init_0 : decode cX3_init 0 = .ok (.aload_n 0, 1) := by decide +kernel
theorem dX3_init_1 : decode cX3_init 1 = .ok (.invokespecial 3, 3) := by decide +kernel
theorem dX3_init_4 : decode cX3_init 4 = .ok (.aload_n 0, 1) := by decide +kernel
theorem dX3_init_5 : decode cX3_init 5 = .ok (.iconst 4, 1) := by decide +kernel
theorem dX3_init_6 : decode cX3_init 6 = .ok (.sipush 768, 3) := by decide +kernel
theorem dX3_init_9 : decode cX3_init 9 = .ok (.multianewarray 11 2, 4) := by decide +kernel
theorem dX3_init_13 : decode cX3_init 13 = .ok (.putfield 13, 3) := by decide +kernel
theorem dX3_init_16 : decode cX3_init 16 = .ok (.aload_n 0, 1) := by decide +kernel
theorem dX3_init_17 : decode cX3_init 17 = .ok (.sipush 256, 3) := by decide +kernel
theorem dX3_init_20 : decode cX3_init 20 = .ok (.newarray .int, 2) := by decide +kernel
theorem dX3_init_22 : decode cX3_init 22 = .ok (.putfield 16, 3) := by decide +kernel
theorem dX3_init_25 : decode cX3_init 25 = .ok (.aload_n 0, 1) := by decide +kernel
theorem dX3_init_26 : decode cX3_init 26 = .ok (.sipush 768, 3) := by decide +kernel
theorem dX3_init_29 : decode cX3_init 29 = .ok (.newarray .int, 2) := by decide +kernel
theorem dX3_init_31 : decode cX3_init 31 = .ok (.putfield 20, 3) := by decide +kernel
theorem dX3_init_34 : decode cX3_init 34 = .ok (.return_, 1) := by decide +kernel
theorem dX3_isCell_0 : decode cX3_isCell 0 = .ok (.iload_n 1, 1) := by decide +kernel
theorem dX3_isCell_1 : decode cX3_isCell 1 = .ok (.ifCond .lt 31, 3) := by decide +kernel
theorem dX3_isCell_4 : decode cX3_isCell 4 = .ok (.iload_n 1, 1) := by decide +kernel
theorem dX3_isCell_5 : decode cX3_isCell 5 = .ok (.aload_n 0, 1) := by decide +kernel
theorem dX3_isCell_6 : decode cX3_isCell 6 = .ok (.getfield 23, 3) := by decide +kernel
theorem dX3_isCell_9 : decode cX3_isCell 9 = .ok (.if_icmp .ge 23, 3) := by decide +kernel
theorem dX3_isCell_12 : decode cX3_isCell 12 = .ok (.iload_n 1, 1) := by decide +kernel
theorem dX3_isCell_13 : decode cX3_isCell 13 = .ok (.sipush 768, 3) := by decide +kernel
theorem dX3_isCell_16 : decode cX3_isCell 16 = .ok (.if_icmp .ge 16, 3) := by decide +kernel
theorem dX3_isCell_19 : decode cX3_isCell 19 = .ok (.iload_n 2, 1) := by decide +kernel
theorem dX3_isCell_20 : decode cX3_isCell 20 = .ok (.ifCond .lt 12, 3) := by decide +kernel
theorem dX3_isCell_23 : decode cX3_isCell 23 = .ok (.iload_n 2, 1) := by decide +kernel
theorem dX3_isCell_24 : decode cX3_isCell 24 = .ok (.iconst 4, 1) := by decide +kernel
theorem dX3_isCell_25 : decode cX3_isCell 25 = .ok (.if_icmp .ge 7, 3) := by decide +kernel
theorem dX3_isCell_28 : decode cX3_isCell 28 = .ok (.iconst 1, 1) := by decide +kernel
theorem dX3_isCell_29 : decode cX3_isCell 29 = .ok (.goto 4, 3) := by decide +kernel
theorem dX3_isCell_32 : decode cX3_isCell 32 = .ok (.iconst 0, 1) := by decide +kernel
theorem dX3_isCell_33 : decode cX3_isCell 33 = .ok (.ireturn, 1) := by decide +kernel
theorem dX3_list_0 : decode cX3_list 0 = .ok (.aload_n 0, 1) := by decide +kernel
theorem dX3_list_1 : decode cX3_list 1 = .ok (.invokevirtual 27, 3) := by decide +kernel
theorem dX3_list_4 : decode cX3_list 4 = .ok (.aload_n 0, 1) := by decide +kernel
theorem dX3_list_5 : decode cX3_list 5 = .ok (.aload_n 1, 1) := by decide +kernel
theorem dX3_list_6 : decode cX3_list 6 = .ok (.iconst 0, 1) := by decide +kernel
theorem dX3_list_7 : decode cX3_list 7 = .ok (.iconst 0, 1) := by decide +kernel
theorem dX3_list_8 : decode cX3_list 8 = .ok (.invokevirtual 30, 3) := by decide +kernel
theorem dX3_list_11 : decode cX3_list 11 = .ok (.pop, 1) := by decide +kernel
theorem dX3_list_12 : decode cX3_list 12 = .ok (.aload_n 0, 1) := by decide +kernel
theorem dX3_list_13 : decode cX3_list 13 = .ok (.getfield 23, 3) := by decide +kernel
theorem dX3_list_16 : decode cX3_list 16 = .ok (.ireturn, 1) := by decide +kernel
theorem dX3_clear_0 : decode cX3_clear 0 = .ok (.aload_n 0, 1) := by decide +kernel
theorem dX3_clear_1 : decode cX3_clear 1 = .ok (.iconst 0, 1) := by decide +kernel
theorem dX3_clear_2 : decode cX3_clear 2 = .ok (.putfield 23, 3) := by decide +kernel
theorem dX3_clear_5 : decode cX3_clear 5 = .ok (.aload_n 0, 1) := by decide +kernel
theorem dX3_clear_6 : decode cX3_clear 6 = .ok (.getfield 16, 3) := by decide +kernel
theorem dX3_clear_9 : decode cX3_clear 9 = .ok (.iconst (-1), 1) := by decide +kernel
theorem dX3_clear_10 : decode cX3_clear 10 = .ok (.invokestatic 34, 3) := by decide +kernel
theorem dX3_clear_13 : decode cX3_clear 13 = .ok (.return_, 1) := by decide +kernel
theorem dX3_over_0 : decode cX3_over 0 = .ok (.iload_n 3, 1) := by decide +kernel
theorem dX3_over_1 : decode cX3_over 1 = .ok (.ifCond .lt 9, 3) := by decide +kernel
theorem dX3_over_4 : decode cX3_over 4 = .ok (.iload_n 3, 1) := by decide +kernel
theorem dX3_over_5 : decode cX3_over 5 = .ok (.bipush 64, 2) := by decide +kernel
theorem dX3_over_7 : decode cX3_over 7 = .ok (.if_icmp .lt 5, 3) := by decide +kernel
theorem dX3_over_10 : decode cX3_over 10 = .ok (.iconst (-1), 1) := by decide +kernel
theorem dX3_over_11 : decode cX3_over 11 = .ok (.ireturn, 1) := by decide +kernel
theorem dX3_over_12 : decode cX3_over 12 = .ok (.iload_n 2, 1) := by decide +kernel
theorem dX3_over_13 : decode cX3_over 13 = .ok (.bipush 6, 2) := by decide +kernel
theorem dX3_over_15 : decode cX3_over 15 = .ok (.if_icmp .lt 15, 3) := by decide +kernel
theorem dX3_over_18 : decode cX3_over 18 = .ok (.aload_n 0, 1) := by decide +kernel
theorem dX3_over_19 : decode cX3_over 19 = .ok (.aload_n 1, 1) := by decide +kernel
theorem dX3_over_20 : decode cX3_over 20 = .ok (.getfield 40, 3) := by decide +kernel
theorem dX3_over_23 : decode cX3_over 23 = .ok (.iload_n 3, 1) := by decide +kernel
theorem dX3_over_24 : decode cX3_over 24 = .ok (.laload, 1) := by decide +kernel
theorem dX3_over_25 : decode cX3_over 25 = .ok (.iload_n 2, 1) := by decide +kernel
theorem dX3_over_26 : decode cX3_over 26 = .ok (.invokevirtual 46, 3) := by decide +kernel
theorem dX3_over_29 : decode cX3_over 29 = .ok (.ireturn, 1) := by decide +kernel
theorem dX3_over_30 : decode cX3_over 30 = .ok (.aload_n 0, 1) := by decide +kernel
theorem dX3_over_31 : decode cX3_over 31 = .ok (.aload_n 1, 1) := by decide +kernel
theorem dX3_over_32 : decode cX3_over 32 = .ok (.iload_n 2, 1) := by decide +kernel
theorem dX3_over_33 : decode cX3_over 33 = .ok (.iconst 1, 1) := by decide +kernel
theorem dX3_over_34 : decode cX3_over 34 = .ok (.iadd, 1) := by decide +kernel
theorem dX3_over_35 : decode cX3_over 35 = .ok (.iload_n 3, 1) := by decide +kernel
theorem dX3_over_36 : decode cX3_over 36 = .ok (.invokevirtual 30, 3) := by decide +kernel
theorem dX3_over_39 : decode cX3_over 39 = .ok (.istore 4, 2) := by decide +kernel
theorem dX3_over_41 : decode cX3_over 41 = .ok (.aload_n 0, 1) := by decide +kernel
theorem dX3_over_42 : decode cX3_over 42 = .ok (.aload_n 1, 1) := by decide +kernel
theorem dX3_over_43 : decode cX3_over 43 = .ok (.iload_n 2, 1) := by decide +kernel
theorem dX3_over_44 : decode cX3_over 44 = .ok (.iconst 1, 1) := by decide +kernel
theorem dX3_over_45 : decode cX3_over 45 = .ok (.iadd, 1) := by decide +kernel
theorem dX3_over_46 : decode cX3_over 46 = .ok (.iload_n 3, 1) := by decide +kernel
theorem dX3_over_47 : decode cX3_over 47 = .ok (.bipush 32, 2) := by decide +kernel
theorem dX3_over_49 : decode cX3_over 49 = .ok (.iload_n 2, 1) := by decide +kernel
theorem dX3_over_50 : decode cX3_over 50 = .ok (.ishr, 1) := by decide +kernel
theorem dX3_over_51 : decode cX3_over 51 = .ok (.iadd, 1) := by decide +kernel
theorem dX3_over_52 : decode cX3_over 52 = .ok (.invokevirtual 30, 3) := by decide +kernel
theorem dX3_over_55 : decode cX3_over 55 = .ok (.istore 5, 2) := by decide +kernel
theorem dX3_over_57 : decode cX3_over 57 = .ok (.aload_n 0, 1) := by decide +kernel
theorem dX3_over_58 : decode cX3_over 58 = .ok (.iload_n 2, 1) := by decide +kernel
theorem dX3_over_59 : decode cX3_over 59 = .ok (.iload 4, 2) := by decide +kernel
theorem dX3_over_61 : decode cX3_over 61 = .ok (.iload 5, 2) := by decide +kernel
theorem dX3_over_63 : decode cX3_over 63 = .ok (.invokevirtual 50, 3) := by decide +kernel
theorem dX3_over_66 : decode cX3_over 66 = .ok (.ireturn, 1) := by decide +kernel
theorem dX3_under_0 : decode cX3_under 0 = .ok (.lload_n 1, 1) := by decide +kernel
theorem dX3_under_1 : decode cX3_under 1 = .ok (.lconst 0, 1) := by decide +kernel
theorem dX3_under_2 : decode cX3_under 2 = .ok (.lcmp, 1) := by decide +kernel
theorem dX3_under_3 : decode cX3_under 3 = .ok (.ifCond .ne 5, 3) := by decide +kernel
theorem dX3_under_6 : decode cX3_under 6 = .ok (.iconst (-1), 1) := by decide +kernel
theorem dX3_under_7 : decode cX3_under 7 = .ok (.ireturn, 1) := by decide +kernel
theorem dX3_under_8 : decode cX3_under 8 = .ok (.lload_n 1, 1) := by decide +kernel
theorem dX3_under_9 : decode cX3_under 9 = .ok (.lconst 1, 1) := by decide +kernel
theorem dX3_under_10 : decode cX3_under 10 = .ok (.lcmp, 1) := by decide +kernel
theorem dX3_under_11 : decode cX3_under 11 = .ok (.ifCond .eq 9, 3) := by decide +kernel
theorem dX3_under_14 : decode cX3_under 14 = .ok (.iload_n 3, 1) := by decide +kernel
theorem dX3_under_15 : decode cX3_under 15 = .ok (.bipush 12, 2) := by decide +kernel
theorem dX3_under_17 : decode cX3_under 17 = .ok (.if_icmp .lt 6, 3) := by decide +kernel
theorem dX3_under_20 : decode cX3_under 20 = .ok (.bipush (-2), 2) := by decide +kernel
theorem dX3_under_22 : decode cX3_under 22 = .ok (.ireturn, 1) := by decide +kernel
theorem dX3_under_23 : decode cX3_under 23 = .ok (.iconst 1, 1) := by decide +kernel
theorem dX3_under_24 : decode cX3_under 24 = .ok (.bipush 11, 2) := by decide +kernel
theorem dX3_under_26 : decode cX3_under 26 = .ok (.iload_n 3, 1) := by decide +kernel
theorem dX3_under_27 : decode cX3_under 27 = .ok (.isub, 1) := by decide +kernel
theorem dX3_under_28 : decode cX3_under 28 = .ok (.ishl, 1) := by decide +kernel
theorem dX3_under_29 : decode cX3_under 29 = .ok (.istore 4, 2) := by decide +kernel
theorem dX3_under_31 : decode cX3_under 31 = .ok (.aload_n 0, 1) := by decide +kernel
theorem dX3_under_32 : decode cX3_under 32 = .ok (.lload_n 1, 1) := by decide +kernel
theorem dX3_under_33 : decode cX3_under 33 = .ok (.lconst 1, 1) := by decide +kernel
theorem dX3_under_34 : decode cX3_under 34 = .ok (.iload 4, 2) := by decide +kernel
theorem dX3_under_36 : decode cX3_under 36 = .ok (.lshl, 1) := by decide +kernel
theorem dX3_under_37 : decode cX3_under 37 = .ok (.lconst 1, 1) := by decide +kernel
theorem dX3_under_38 : decode cX3_under 38 = .ok (.lsub, 1) := by decide +kernel
theorem dX3_under_39 : decode cX3_under 39 = .ok (.land, 1) := by decide +kernel
theorem dX3_under_40 : decode cX3_under 40 = .ok (.iload_n 3, 1) := by decide +kernel
theorem dX3_under_41 : decode cX3_under 41 = .ok (.iconst 1, 1) := by decide +kernel
theorem dX3_under_42 : decode cX3_under 42 = .ok (.iadd, 1) := by decide +kernel
theorem dX3_under_43 : decode cX3_under 43 = .ok (.invokevirtual 46, 3) := by decide +kernel
theorem dX3_under_46 : decode cX3_under 46 = .ok (.istore 5, 2) := by decide +kernel
theorem dX3_under_48 : decode cX3_under 48 = .ok (.aload_n 0, 1) := by decide +kernel
theorem dX3_under_49 : decode cX3_under 49 = .ok (.lload_n 1, 1) := by decide +kernel
theorem dX3_under_50 : decode cX3_under 50 = .ok (.iload 4, 2) := by decide +kernel
theorem dX3_under_52 : decode cX3_under 52 = .ok (.lushr, 1) := by decide +kernel
theorem dX3_under_53 : decode cX3_under 53 = .ok (.iload_n 3, 1) := by decide +kernel
theorem dX3_under_54 : decode cX3_under 54 = .ok (.iconst 1, 1) := by decide +kernel
theorem dX3_under_55 : decode cX3_under 55 = .ok (.iadd, 1) := by decide +kernel
theorem dX3_under_56 : decode cX3_under 56 = .ok (.invokevirtual 46, 3) := by decide +kernel
theorem dX3_under_59 : decode cX3_under 59 = .ok (.istore 6, 2) := by decide +kernel
theorem dX3_under_61 : decode cX3_under 61 = .ok (.aload_n 0, 1) := by decide +kernel
theorem dX3_under_62 : decode cX3_under 62 = .ok (.iload_n 3, 1) := by decide +kernel
theorem dX3_under_63 : decode cX3_under 63 = .ok (.iload 5, 2) := by decide +kernel
theorem dX3_under_65 : decode cX3_under 65 = .ok (.iload 6, 2) := by decide +kernel
theorem dX3_under_67 : decode cX3_under 67 = .ok (.invokevirtual 50, 3) := by decide +kernel
theorem dX3_under_70 : decode cX3_under 70 = .ok (.ireturn, 1) := by decide +kernel
theorem dX3_knot_0 : decode cX3_knot 0 = .ok (.iload_n 3, 1) := by decide +kernel
theorem dX3_knot_1 : decode cX3_knot 1 = .ok (.iconst (-1), 1) := by decide +kernel
theorem dX3_knot_2 : decode cX3_knot 2 = .ok (.if_icmp .ne 5, 3) := by decide +kernel
theorem dX3_knot_5 : decode cX3_knot 5 = .ok (.iload_n 2, 1) := by decide +kernel
theorem dX3_knot_6 : decode cX3_knot 6 = .ok (.ireturn, 1) := by decide +kernel
theorem dX3_knot_7 : decode cX3_knot 7 = .ok (.aload_n 0, 1) := by decide +kernel
theorem dX3_knot_8 : decode cX3_knot 8 = .ok (.iload_n 1, 1) := by decide +kernel
theorem dX3_knot_9 : decode cX3_knot 9 = .ok (.iload_n 2, 1) := by decide +kernel
theorem dX3_knot_10 : decode cX3_knot 10 = .ok (.iload_n 3, 1) := by decide +kernel
theorem dX3_knot_11 : decode cX3_knot 11 = .ok (.invokevirtual 54, 3) := by decide +kernel
theorem dX3_knot_14 : decode cX3_knot 14 = .ok (.istore 4, 2) := by decide +kernel
theorem dX3_knot_16 : decode cX3_knot 16 = .ok (.iload 4, 2) := by decide +kernel
theorem dX3_knot_18 : decode cX3_knot 18 = .ok (.ifCond .lt 8, 3) := by decide +kernel
theorem dX3_knot_21 : decode cX3_knot 21 = .ok (.iload 4, 2) := by decide +kernel
theorem dX3_knot_23 : decode cX3_knot 23 = .ok (.goto 10, 3) := by decide +kernel
theorem dX3_knot_26 : decode cX3_knot 26 = .ok (.aload_n 0, 1) := by decide +kernel
theorem dX3_knot_27 : decode cX3_knot 27 = .ok (.iload_n 1, 1) := by decide +kernel
theorem dX3_knot_28 : decode cX3_knot 28 = .ok (.iload_n 2, 1) := by decide +kernel
theorem dX3_knot_29 : decode cX3_knot 29 = .ok (.iload_n 3, 1) := by decide +kernel
theorem dX3_knot_30 : decode cX3_knot 30 = .ok (.invokevirtual 57, 3) := by decide +kernel
theorem dX3_knot_33 : decode cX3_knot 33 = .ok (.ireturn, 1) := by decide +kernel
theorem dX3_mark_0 : decode cX3_mark 0 = .ok (.iload_n 1, 1) := by decide +kernel
theorem dX3_mark_1 : decode cX3_mark 1 = .ok (.bipush 31, 2) := by decide +kernel
theorem dX3_mark_3 : decode cX3_mark 3 = .ok (.imul, 1) := by decide +kernel
theorem dX3_mark_4 : decode cX3_mark 4 = .ok (.iload_n 2, 1) := by decide +kernel
theorem dX3_mark_5 : decode cX3_mark 5 = .ok (.iadd, 1) := by decide +kernel
theorem dX3_mark_6 : decode cX3_mark 6 = .ok (.bipush 31, 2) := by decide +kernel
theorem dX3_mark_8 : decode cX3_mark 8 = .ok (.imul, 1) := by decide +kernel
theorem dX3_mark_9 : decode cX3_mark 9 = .ok (.iload_n 0, 1) := by decide +kernel
theorem dX3_mark_10 : decode cX3_mark 10 = .ok (.iadd, 1) := by decide +kernel
theorem dX3_mark_11 : decode cX3_mark 11 = .ok (.istore_n 3, 1) := by decide +kernel
theorem dX3_mark_12 : decode cX3_mark 12 = .ok (.iload_n 3, 1) := by decide +kernel
theorem dX3_mark_13 : decode cX3_mark 13 = .ok (.iload_n 3, 1) := by decide +kernel
theorem dX3_mark_14 : decode cX3_mark 14 = .ok (.bipush 8, 2) := by decide +kernel
theorem dX3_mark_16 : decode cX3_mark 16 = .ok (.iushr, 1) := by decide +kernel
theorem dX3_mark_17 : decode cX3_mark 17 = .ok (.ixor, 1) := by decide +kernel
theorem dX3_mark_18 : decode cX3_mark 18 = .ok (.sipush 255, 3) := by decide +kernel
theorem dX3_mark_21 : decode cX3_mark 21 = .ok (.iand, 1) := by decide +kernel
theorem dX3_mark_22 : decode cX3_mark 22 = .ok (.ireturn, 1) := by decide +kernel
theorem dX3_find_0 : decode cX3_find 0 = .ok (.aload_n 0, 1) := by decide +kernel
theorem dX3_find_1 : decode cX3_find 1 = .ok (.getfield 16, 3) := by decide +kernel
theorem dX3_find_4 : decode cX3_find 4 = .ok (.iload_n 1, 1) := by decide +kernel
theorem dX3_find_5 : decode cX3_find 5 = .ok (.iload_n 2, 1) := by decide +kernel
theorem dX3_find_6 : decode cX3_find 6 = .ok (.iload_n 3, 1) := by decide +kernel
theorem dX3_find_7 : decode cX3_find 7 = .ok (.invokestatic 60, 3) := by decide +kernel
theorem dX3_find_10 : decode cX3_find 10 = .ok (.iaload, 1) := by decide +kernel
theorem dX3_find_11 : decode cX3_find 11 = .ok (.istore 4, 2) := by decide +kernel
theorem dX3_find_13 : decode cX3_find 13 = .ok (.iconst 0, 1) := by decide +kernel
theorem dX3_find_14 : decode cX3_find 14 = .ok (.istore 5, 2) := by decide +kernel
theorem dX3_find_16 : decode cX3_find 16 = .ok (.iload 5, 2) := by decide +kernel
theorem dX3_find_18 : decode cX3_find 18 = .ok (.sipush 768, 3) := by decide +kernel
theorem dX3_find_21 : decode cX3_find 21 = .ok (.if_icmp .ge 70, 3) := by decide +kernel
theorem dX3_find_24 : decode cX3_find 24 = .ok (.aload_n 0, 1) := by decide +kernel
theorem dX3_find_25 : decode cX3_find 25 = .ok (.iload 4, 2) := by decide +kernel
theorem dX3_find_27 : decode cX3_find 27 = .ok (.iconst 0, 1) := by decide +kernel
theorem dX3_find_28 : decode cX3_find 28 = .ok (.invokevirtual 63, 3) := by decide +kernel
theorem dX3_find_31 : decode cX3_find 31 = .ok (.ifCond .eq 60, 3) := by decide +kernel
theorem dX3_find_34 : decode cX3_find 34 = .ok (.aload_n 0, 1) := by decide +kernel
theorem dX3_find_35 : decode cX3_find 35 = .ok (.getfield 13, 3) := by decide +kernel
theorem dX3_find_38 : decode cX3_find 38 = .ok (.iconst 0, 1) := by decide +kernel
theorem dX3_find_39 : decode cX3_find 39 = .ok (.aaload, 1) := by decide +kernel
theorem dX3_find_40 : decode cX3_find 40 = .ok (.iload 4, 2) := by decide +kernel
theorem dX3_find_42 : decode cX3_find 42 = .ok (.iaload, 1) := by decide +kernel
theorem dX3_find_43 : decode cX3_find 43 = .ok (.iload_n 1, 1) := by decide +kernel
theorem dX3_find_44 : decode cX3_find 44 = .ok (.if_icmp .ne 32, 3) := by decide +kernel
theorem dX3_find_47 : decode cX3_find 47 = .ok (.aload_n 0, 1) := by decide +kernel
theorem dX3_find_48 : decode cX3_find 48 = .ok (.getfield 13, 3) := by decide +kernel
theorem dX3_find_51 : decode cX3_find 51 = .ok (.iconst 1, 1) := by decide +kernel
theorem dX3_find_52 : decode cX3_find 52 = .ok (.aaload, 1) := by decide +kernel
theorem dX3_find_53 : decode cX3_find 53 = .ok (.iload 4, 2) := by decide +kernel
theorem dX3_find_55 : decode cX3_find 55 = .ok (.iaload, 1) := by decide +kernel
theorem dX3_find_56 : decode cX3_find 56 = .ok (.iload_n 2, 1) := by decide +kernel
theorem dX3_find_57 : decode cX3_find 57 = .ok (.if_icmp .ne 19, 3) := by decide +kernel
theorem dX3_find_60 : decode cX3_find 60 = .ok (.aload_n 0, 1) := by decide +kernel
theorem dX3_find_61 : decode cX3_find 61 = .ok (.getfield 13, 3) := by decide +kernel
theorem dX3_find_64 : decode cX3_find 64 = .ok (.iconst 2, 1) := by decide +kernel
theorem dX3_find_65 : decode cX3_find 65 = .ok (.aaload, 1) := by decide +kernel
theorem dX3_find_66 : decode cX3_find 66 = .ok (.iload 4, 2) := by decide +kernel
theorem dX3_find_68 : decode cX3_find 68 = .ok (.iaload, 1) := by decide +kernel
theorem dX3_find_69 : decode cX3_find 69 = .ok (.iload_n 3, 1) := by decide +kernel
theorem dX3_find_70 : decode cX3_find 70 = .ok (.if_icmp .ne 6, 3) := by decide +kernel
theorem dX3_find_73 : decode cX3_find 73 = .ok (.iload 4, 2) := by decide +kernel
theorem dX3_find_75 : decode cX3_find 75 = .ok (.ireturn, 1) := by decide +kernel
theorem dX3_find_76 : decode cX3_find 76 = .ok (.aload_n 0, 1) := by decide +kernel
theorem dX3_find_77 : decode cX3_find 77 = .ok (.getfield 20, 3) := by decide +kernel
theorem dX3_find_80 : decode cX3_find 80 = .ok (.iload 4, 2) := by decide +kernel
theorem dX3_find_82 : decode cX3_find 82 = .ok (.iaload, 1) := by decide +kernel
theorem dX3_find_83 : decode cX3_find 83 = .ok (.istore 4, 2) := by decide +kernel
theorem dX3_find_85 : decode cX3_find 85 = .ok (.iinc 5 1, 3) := by decide +kernel
theorem dX3_find_88 : decode cX3_find 88 = .ok (.goto (-72), 3) := by decide +kernel
theorem dX3_find_91 : decode cX3_find 91 = .ok (.iconst (-1), 1) := by decide +kernel
theorem dX3_find_92 : decode cX3_find 92 = .ok (.ireturn, 1) := by decide +kernel
theorem dX3_add_0 : decode cX3_add 0 = .ok (.aload_n 0, 1) := by decide +kernel
theorem dX3_add_1 : decode cX3_add 1 = .ok (.getfield 23, 3) := by decide +kernel
theorem dX3_add_4 : decode cX3_add 4 = .ok (.ifCond .lt 13, 3) := by decide +kernel
theorem dX3_add_7 : decode cX3_add 7 = .ok (.aload_n 0, 1) := by decide +kernel
theorem dX3_add_8 : decode cX3_add 8 = .ok (.getfield 23, 3) := by decide +kernel
theorem dX3_add_11 : decode cX3_add 11 = .ok (.sipush 768, 3) := by decide +kernel
theorem dX3_add_14 : decode cX3_add 14 = .ok (.if_icmp .lt 5, 3) := by decide +kernel
theorem dX3_add_17 : decode cX3_add 17 = .ok (.iconst (-1), 1) := by decide +kernel
theorem dX3_add_18 : decode cX3_add 18 = .ok (.ireturn, 1) := by decide +kernel
theorem dX3_add_19 : decode cX3_add 19 = .ok (.aload_n 0, 1) := by decide +kernel
theorem dX3_add_20 : decode cX3_add 20 = .ok (.getfield 23, 3) := by decide +kernel
theorem dX3_add_23 : decode cX3_add 23 = .ok (.istore 4, 2) := by decide +kernel
theorem dX3_add_25 : decode cX3_add 25 = .ok (.aload_n 0, 1) := by decide +kernel
theorem dX3_add_26 : decode cX3_add 26 = .ok (.getfield 13, 3) := by decide +kernel
theorem dX3_add_29 : decode cX3_add 29 = .ok (.iconst 0, 1) := by decide +kernel
theorem dX3_add_30 : decode cX3_add 30 = .ok (.aaload, 1) := by decide +kernel
theorem dX3_add_31 : decode cX3_add 31 = .ok (.iload 4, 2) := by decide +kernel
theorem dX3_add_33 : decode cX3_add 33 = .ok (.iload_n 1, 1) := by decide +kernel
theorem dX3_add_34 : decode cX3_add 34 = .ok (.iastore, 1) := by decide +kernel
theorem dX3_add_35 : decode cX3_add 35 = .ok (.aload_n 0, 1) := by decide +kernel
theorem dX3_add_36 : decode cX3_add 36 = .ok (.getfield 13, 3) := by decide +kernel
theorem dX3_add_39 : decode cX3_add 39 = .ok (.iconst 1, 1) := by decide +kernel
theorem dX3_add_40 : decode cX3_add 40 = .ok (.aaload, 1) := by decide +kernel
theorem dX3_add_41 : decode cX3_add 41 = .ok (.iload 4, 2) := by decide +kernel
theorem dX3_add_43 : decode cX3_add 43 = .ok (.iload_n 2, 1) := by decide +kernel
theorem dX3_add_44 : decode cX3_add 44 = .ok (.iastore, 1) := by decide +kernel
theorem dX3_add_45 : decode cX3_add 45 = .ok (.aload_n 0, 1) := by decide +kernel
theorem dX3_add_46 : decode cX3_add 46 = .ok (.getfield 13, 3) := by decide +kernel
theorem dX3_add_49 : decode cX3_add 49 = .ok (.iconst 2, 1) := by decide +kernel
theorem dX3_add_50 : decode cX3_add 50 = .ok (.aaload, 1) := by decide +kernel
theorem dX3_add_51 : decode cX3_add 51 = .ok (.iload 4, 2) := by decide +kernel
theorem dX3_add_53 : decode cX3_add 53 = .ok (.iload_n 3, 1) := by decide +kernel
theorem dX3_add_54 : decode cX3_add 54 = .ok (.iastore, 1) := by decide +kernel
theorem dX3_add_55 : decode cX3_add 55 = .ok (.aload_n 0, 1) := by decide +kernel
theorem dX3_add_56 : decode cX3_add 56 = .ok (.getfield 13, 3) := by decide +kernel
theorem dX3_add_59 : decode cX3_add 59 = .ok (.iconst 3, 1) := by decide +kernel
theorem dX3_add_60 : decode cX3_add 60 = .ok (.aaload, 1) := by decide +kernel
theorem dX3_add_61 : decode cX3_add 61 = .ok (.iload 4, 2) := by decide +kernel
theorem dX3_add_63 : decode cX3_add 63 = .ok (.aload_n 0, 1) := by decide +kernel
theorem dX3_add_64 : decode cX3_add 64 = .ok (.iload_n 2, 1) := by decide +kernel
theorem dX3_add_65 : decode cX3_add 65 = .ok (.invokevirtual 67, 3) := by decide +kernel
theorem dX3_add_68 : decode cX3_add 68 = .ok (.aload_n 0, 1) := by decide +kernel
theorem dX3_add_69 : decode cX3_add 69 = .ok (.iload_n 3, 1) := by decide +kernel
theorem dX3_add_70 : decode cX3_add 70 = .ok (.invokevirtual 67, 3) := by decide +kernel
theorem dX3_add_73 : decode cX3_add 73 = .ok (.iadd, 1) := by decide +kernel
theorem dX3_add_74 : decode cX3_add 74 = .ok (.iastore, 1) := by decide +kernel
theorem dX3_add_75 : decode cX3_add 75 = .ok (.iload_n 1, 1) := by decide +kernel
theorem dX3_add_76 : decode cX3_add 76 = .ok (.iload_n 2, 1) := by decide +kernel
theorem dX3_add_77 : decode cX3_add 77 = .ok (.iload_n 3, 1) := by decide +kernel
theorem dX3_add_78 : decode cX3_add 78 = .ok (.invokestatic 60, 3) := by decide +kernel
theorem dX3_add_81 : decode cX3_add 81 = .ok (.istore 5, 2) := by decide +kernel
theorem dX3_add_83 : decode cX3_add 83 = .ok (.aload_n 0, 1) := by decide +kernel
theorem dX3_add_84 : decode cX3_add 84 = .ok (.getfield 20, 3) := by decide +kernel
theorem dX3_add_87 : decode cX3_add 87 = .ok (.iload 4, 2) := by decide +kernel
theorem dX3_add_89 : decode cX3_add 89 = .ok (.aload_n 0, 1) := by decide +kernel
theorem dX3_add_90 : decode cX3_add 90 = .ok (.getfield 16, 3) := by decide +kernel
theorem dX3_add_93 : decode cX3_add 93 = .ok (.iload 5, 2) := by decide +kernel
theorem dX3_add_95 : decode cX3_add 95 = .ok (.iaload, 1) := by decide +kernel
theorem dX3_add_96 : decode cX3_add 96 = .ok (.iastore, 1) := by decide +kernel
theorem dX3_add_97 : decode cX3_add 97 = .ok (.aload_n 0, 1) := by decide +kernel
theorem dX3_add_98 : decode cX3_add 98 = .ok (.getfield 16, 3) := by decide +kernel
theorem dX3_add_101 : decode cX3_add 101 = .ok (.iload 5, 2) := by decide +kernel
theorem dX3_add_103 : decode cX3_add 103 = .ok (.iload 4, 2) := by decide +kernel
theorem dX3_add_105 : decode cX3_add 105 = .ok (.iastore, 1) := by decide +kernel
theorem dX3_add_106 : decode cX3_add 106 = .ok (.aload_n 0, 1) := by decide +kernel
theorem dX3_add_107 : decode cX3_add 107 = .ok (.dup, 1) := by decide +kernel
theorem dX3_add_108 : decode cX3_add 108 = .ok (.getfield 23, 3) := by decide +kernel
theorem dX3_add_111 : decode cX3_add 111 = .ok (.iconst 1, 1) := by decide +kernel
theorem dX3_add_112 : decode cX3_add 112 = .ok (.iadd, 1) := by decide +kernel
theorem dX3_add_113 : decode cX3_add 113 = .ok (.putfield 23, 3) := by decide +kernel
theorem dX3_add_116 : decode cX3_add 116 = .ok (.iload 4, 2) := by decide +kernel
theorem dX3_add_118 : decode cX3_add 118 = .ok (.ireturn, 1) := by decide +kernel
theorem dX3_countOf_0 : decode cX3_countOf 0 = .ok (.aload_n 0, 1) := by decide +kernel
theorem dX3_countOf_1 : decode cX3_countOf 1 = .ok (.iload_n 1, 1) := by decide +kernel
theorem dX3_countOf_2 : decode cX3_countOf 2 = .ok (.iconst 3, 1) := by decide +kernel
theorem dX3_countOf_3 : decode cX3_countOf 3 = .ok (.invokevirtual 63, 3) := by decide +kernel
theorem dX3_countOf_6 : decode cX3_countOf 6 = .ok (.ifCond .eq 12, 3) := by decide +kernel
theorem dX3_countOf_9 : decode cX3_countOf 9 = .ok (.aload_n 0, 1) := by decide +kernel
theorem dX3_countOf_10 : decode cX3_countOf 10 = .ok (.getfield 13, 3) := by decide +kernel
theorem dX3_countOf_13 : decode cX3_countOf 13 = .ok (.iconst 3, 1) := by decide +kernel
theorem dX3_countOf_14 : decode cX3_countOf 14 = .ok (.aaload, 1) := by decide +kernel
theorem dX3_countOf_15 : decode cX3_countOf 15 = .ok (.iload_n 1, 1) := by decide +kernel
theorem dX3_countOf_16 : decode cX3_countOf 16 = .ok (.iaload, 1) := by decide +kernel
theorem dX3_countOf_17 : decode cX3_countOf 17 = .ok (.ireturn, 1) := by decide +kernel
theorem dX3_countOf_18 : decode cX3_countOf 18 = .ok (.iload_n 1, 1) := by decide +kernel
theorem dX3_countOf_19 : decode cX3_countOf 19 = .ok (.bipush (-2), 2) := by decide +kernel
theorem dX3_countOf_21 : decode cX3_countOf 21 = .ok (.if_icmp .ne 7, 3) := by decide +kernel
theorem dX3_countOf_24 : decode cX3_countOf 24 = .ok (.iconst 1, 1) := by decide +kernel
theorem dX3_countOf_25 : decode cX3_countOf 25 = .ok (.goto 4, 3) := by decide +kernel
theorem dX3_countOf_28 : decode cX3_countOf 28 = .ok (.iconst 0, 1) := by decide +kernel
theorem dX3_countOf_29 : decode cX3_countOf 29 = .ok (.ireturn, 1) := by decide +kernel
theorem dX3_firstWrong_0 : decode cX3_firstWrong 0 = .ok (.aload_n 1, 1) := by decide +kernel
theorem dX3_firstWrong_1 : decode cX3_firstWrong 1 = .ok (.invokevirtual 27, 3) := by decide +kernel
theorem dX3_firstWrong_4 : decode cX3_firstWrong 4 = .ok (.iconst 0, 1) := by decide +kernel
theorem dX3_firstWrong_5 : decode cX3_firstWrong 5 = .ok (.istore_n 2, 1) := by decide +kernel
theorem dX3_firstWrong_6 : decode cX3_firstWrong 6 = .ok (.iload_n 2, 1) := by decide +kernel
theorem dX3_firstWrong_7 : decode cX3_firstWrong 7 = .ok (.aload_n 0, 1) := by decide +kernel
theorem dX3_firstWrong_8 : decode cX3_firstWrong 8 = .ok (.getfield 23, 3) := by decide +kernel
theorem dX3_firstWrong_11 : decode cX3_firstWrong 11 = .ok (.if_icmp .ge 63, 3) := by decide +kernel
theorem dX3_firstWrong_14 : decode cX3_firstWrong 14 = .ok (.iload_n 2, 1) := by decide +kernel
theorem dX3_firstWrong_15 : decode cX3_firstWrong 15 = .ok (.sipush 768, 3) := by decide +kernel
theorem dX3_firstWrong_18 : decode cX3_firstWrong 18 = .ok (.if_icmp .ge 56, 3) := by decide +kernel
theorem dX3_firstWrong_21 : decode cX3_firstWrong 21 = .ok (.aload_n 0, 1) := by decide +kernel
theorem dX3_firstWrong_22 : decode cX3_firstWrong 22 = .ok (.iload_n 2, 1) := by decide +kernel
theorem dX3_firstWrong_23 : decode cX3_firstWrong 23 = .ok (.aload_n 1, 1) := by decide +kernel
theorem dX3_firstWrong_24 : decode cX3_firstWrong 24 = .ok (.invokevirtual 71, 3) := by decide +kernel
theorem dX3_firstWrong_27 : decode cX3_firstWrong 27 = .ok (.istore_n 3, 1) := by decide +kernel
theorem dX3_firstWrong_28 : decode cX3_firstWrong 28 = .ok (.iload_n 3, 1) := by decide +kernel
theorem dX3_firstWrong_29 : decode cX3_firstWrong 29 = .ok (.ifCond .eq 10, 3) := by decide +kernel
theorem dX3_firstWrong_32 : decode cX3_firstWrong 32 = .ok (.bipush 8, 2) := by decide +kernel
theorem dX3_firstWrong_34 : decode cX3_firstWrong 34 = .ok (.iload_n 2, 1) := by decide +kernel
theorem dX3_firstWrong_35 : decode cX3_firstWrong 35 = .ok (.imul, 1) := by decide +kernel
theorem dX3_firstWrong_36 : decode cX3_firstWrong 36 = .ok (.iload_n 3, 1) := by decide +kernel
theorem dX3_firstWrong_37 : decode cX3_firstWrong 37 = .ok (.iadd, 1) := by decide +kernel
theorem dX3_firstWrong_38 : decode cX3_firstWrong 38 = .ok (.ireturn, 1) := by decide +kernel
theorem dX3_firstWrong_39 : decode cX3_firstWrong 39 = .ok (.aload_n 1, 1) := by decide +kernel
theorem dX3_firstWrong_40 : decode cX3_firstWrong 40 = .ok (.aload_n 0, 1) := by decide +kernel
theorem dX3_firstWrong_41 : decode cX3_firstWrong 41 = .ok (.getfield 13, 3) := by decide +kernel
theorem dX3_firstWrong_44 : decode cX3_firstWrong 44 = .ok (.iconst 0, 1) := by decide +kernel
theorem dX3_firstWrong_45 : decode cX3_firstWrong 45 = .ok (.aaload, 1) := by decide +kernel
theorem dX3_firstWrong_46 : decode cX3_firstWrong 46 = .ok (.iload_n 2, 1) := by decide +kernel
theorem dX3_firstWrong_47 : decode cX3_firstWrong 47 = .ok (.iaload, 1) := by decide +kernel
theorem dX3_firstWrong_48 : decode cX3_firstWrong 48 = .ok (.aload_n 0, 1) := by decide +kernel
theorem dX3_firstWrong_49 : decode cX3_firstWrong 49 = .ok (.getfield 13, 3) := by decide +kernel
theorem dX3_firstWrong_52 : decode cX3_firstWrong 52 = .ok (.iconst 1, 1) := by decide +kernel
theorem dX3_firstWrong_53 : decode cX3_firstWrong 53 = .ok (.aaload, 1) := by decide +kernel
theorem dX3_firstWrong_54 : decode cX3_firstWrong 54 = .ok (.iload_n 2, 1) := by decide +kernel
theorem dX3_firstWrong_55 : decode cX3_firstWrong 55 = .ok (.iaload, 1) := by decide +kernel
theorem dX3_firstWrong_56 : decode cX3_firstWrong 56 = .ok (.aload_n 0, 1) := by decide +kernel
theorem dX3_firstWrong_57 : decode cX3_firstWrong 57 = .ok (.getfield 13, 3) := by decide +kernel
theorem dX3_firstWrong_60 : decode cX3_firstWrong 60 = .ok (.iconst 2, 1) := by decide +kernel
theorem dX3_firstWrong_61 : decode cX3_firstWrong 61 = .ok (.aaload, 1) := by decide +kernel
theorem dX3_firstWrong_62 : decode cX3_firstWrong 62 = .ok (.iload_n 2, 1) := by decide +kernel
theorem dX3_firstWrong_63 : decode cX3_firstWrong 63 = .ok (.iaload, 1) := by decide +kernel
theorem dX3_firstWrong_64 : decode cX3_firstWrong 64 = .ok (.invokevirtual 57, 3) := by decide +kernel
theorem dX3_firstWrong_67 : decode cX3_firstWrong 67 = .ok (.pop, 1) := by decide +kernel
theorem dX3_firstWrong_68 : decode cX3_firstWrong 68 = .ok (.iinc 2 1, 3) := by decide +kernel
theorem dX3_firstWrong_71 : decode cX3_firstWrong 71 = .ok (.goto (-65), 3) := by decide +kernel
theorem dX3_firstWrong_74 : decode cX3_firstWrong 74 = .ok (.iconst (-1), 1) := by decide +kernel
theorem dX3_firstWrong_75 : decode cX3_firstWrong 75 = .ok (.ireturn, 1) := by decide +kernel
theorem dX3_wrongness_0 : decode cX3_wrongness 0 = .ok (.aload_n 0, 1) := by decide +kernel
theorem dX3_wrongness_1 : decode cX3_wrongness 1 = .ok (.getfield 13, 3) := by decide +kernel
theorem dX3_wrongness_4 : decode cX3_wrongness 4 = .ok (.iconst 0, 1) := by decide +kernel
theorem dX3_wrongness_5 : decode cX3_wrongness 5 = .ok (.aaload, 1) := by decide +kernel
theorem dX3_wrongness_6 : decode cX3_wrongness 6 = .ok (.iload_n 1, 1) := by decide +kernel
theorem dX3_wrongness_7 : decode cX3_wrongness 7 = .ok (.iaload, 1) := by decide +kernel
theorem dX3_wrongness_8 : decode cX3_wrongness 8 = .ok (.istore_n 3, 1) := by decide +kernel
theorem dX3_wrongness_9 : decode cX3_wrongness 9 = .ok (.aload_n 0, 1) := by decide +kernel
theorem dX3_wrongness_10 : decode cX3_wrongness 10 = .ok (.getfield 13, 3) := by decide +kernel
theorem dX3_wrongness_13 : decode cX3_wrongness 13 = .ok (.iconst 1, 1) := by decide +kernel
theorem dX3_wrongness_14 : decode cX3_wrongness 14 = .ok (.aaload, 1) := by decide +kernel
theorem dX3_wrongness_15 : decode cX3_wrongness 15 = .ok (.iload_n 1, 1) := by decide +kernel
theorem dX3_wrongness_16 : decode cX3_wrongness 16 = .ok (.iaload, 1) := by decide +kernel
theorem dX3_wrongness_17 : decode cX3_wrongness 17 = .ok (.istore 4, 2) := by decide +kernel
theorem dX3_wrongness_19 : decode cX3_wrongness 19 = .ok (.aload_n 0, 1) := by decide +kernel
theorem dX3_wrongness_20 : decode cX3_wrongness 20 = .ok (.getfield 13, 3) := by decide +kernel
theorem dX3_wrongness_23 : decode cX3_wrongness 23 = .ok (.iconst 2, 1) := by decide +kernel
theorem dX3_wrongness_24 : decode cX3_wrongness 24 = .ok (.aaload, 1) := by decide +kernel
theorem dX3_wrongness_25 : decode cX3_wrongness 25 = .ok (.iload_n 1, 1) := by decide +kernel
theorem dX3_wrongness_26 : decode cX3_wrongness 26 = .ok (.iaload, 1) := by decide +kernel
theorem dX3_wrongness_27 : decode cX3_wrongness 27 = .ok (.istore 5, 2) := by decide +kernel
theorem dX3_wrongness_29 : decode cX3_wrongness 29 = .ok (.iload_n 3, 1) := by decide +kernel
theorem dX3_wrongness_30 : decode cX3_wrongness 30 = .ok (.ifCond .lt 27, 3) := by decide +kernel
theorem dX3_wrongness_33 : decode cX3_wrongness 33 = .ok (.iload_n 3, 1) := by decide +kernel
theorem dX3_wrongness_34 : decode cX3_wrongness 34 = .ok (.bipush 12, 2) := by decide +kernel
theorem dX3_wrongness_36 : decode cX3_wrongness 36 = .ok (.if_icmp .ge 21, 3) := by decide +kernel
theorem dX3_wrongness_39 : decode cX3_wrongness 39 = .ok (.iload 4, 2) := by decide +kernel
theorem dX3_wrongness_41 : decode cX3_wrongness 41 = .ok (.iload_n 1, 1) := by decide +kernel
theorem dX3_wrongness_42 : decode cX3_wrongness 42 = .ok (.invokestatic 75, 3) := by decide +kernel
theorem dX3_wrongness_45 : decode cX3_wrongness 45 = .ok (.ifCond .eq 12, 3) := by decide +kernel
theorem dX3_wrongness_48 : decode cX3_wrongness 48 = .ok (.iload 5, 2) := by decide +kernel
theorem dX3_wrongness_50 : decode cX3_wrongness 50 = .ok (.iload_n 1, 1) := by decide +kernel
theorem dX3_wrongness_51 : decode cX3_wrongness 51 = .ok (.invokestatic 75, 3) := by decide +kernel
theorem dX3_wrongness_54 : decode cX3_wrongness 54 = .ok (.ifCond .ne 5, 3) := by decide +kernel
theorem dX3_wrongness_57 : decode cX3_wrongness 57 = .ok (.iconst 1, 1) := by decide +kernel
theorem dX3_wrongness_58 : decode cX3_wrongness 58 = .ok (.ireturn, 1) := by decide +kernel
theorem dX3_wrongness_59 : decode cX3_wrongness 59 = .ok (.aload_n 0, 1) := by decide +kernel
theorem dX3_wrongness_60 : decode cX3_wrongness 60 = .ok (.iload 4, 2) := by decide +kernel
theorem dX3_wrongness_62 : decode cX3_wrongness 62 = .ok (.invokevirtual 78, 3) := by decide +kernel
theorem dX3_wrongness_65 : decode cX3_wrongness 65 = .ok (.iload_n 3, 1) := by decide +kernel
theorem dX3_wrongness_66 : decode cX3_wrongness 66 = .ok (.if_icmp .le 13, 3) := by decide +kernel
theorem dX3_wrongness_69 : decode cX3_wrongness 69 = .ok (.aload_n 0, 1) := by decide +kernel
theorem dX3_wrongness_70 : decode cX3_wrongness 70 = .ok (.iload 5, 2) := by decide +kernel
theorem dX3_wrongness_72 : decode cX3_wrongness 72 = .ok (.invokevirtual 78, 3) := by decide +kernel
theorem dX3_wrongness_75 : decode cX3_wrongness 75 = .ok (.iload_n 3, 1) := by decide +kernel
theorem dX3_wrongness_76 : decode cX3_wrongness 76 = .ok (.if_icmp .gt 5, 3) := by decide +kernel
theorem dX3_wrongness_79 : decode cX3_wrongness 79 = .ok (.iconst 2, 1) := by decide +kernel
theorem dX3_wrongness_80 : decode cX3_wrongness 80 = .ok (.ireturn, 1) := by decide +kernel
theorem dX3_wrongness_81 : decode cX3_wrongness 81 = .ok (.iload 5, 2) := by decide +kernel
theorem dX3_wrongness_83 : decode cX3_wrongness 83 = .ok (.iconst (-1), 1) := by decide +kernel
theorem dX3_wrongness_84 : decode cX3_wrongness 84 = .ok (.if_icmp .ne 5, 3) := by decide +kernel
theorem dX3_wrongness_87 : decode cX3_wrongness 87 = .ok (.iconst 3, 1) := by decide +kernel
theorem dX3_wrongness_88 : decode cX3_wrongness 88 = .ok (.ireturn, 1) := by decide +kernel
theorem dX3_wrongness_89 : decode cX3_wrongness 89 = .ok (.aload_n 2, 1) := by decide +kernel
theorem dX3_wrongness_90 : decode cX3_wrongness 90 = .ok (.iload_n 3, 1) := by decide +kernel
theorem dX3_wrongness_91 : decode cX3_wrongness 91 = .ok (.iload 4, 2) := by decide +kernel
theorem dX3_wrongness_93 : decode cX3_wrongness 93 = .ok (.iload 5, 2) := by decide +kernel
theorem dX3_wrongness_95 : decode cX3_wrongness 95 = .ok (.invokevirtual 54, 3) := by decide +kernel
theorem dX3_wrongness_98 : decode cX3_wrongness 98 = .ok (.ifCond .lt 5, 3) := by decide +kernel
theorem dX3_wrongness_101 : decode cX3_wrongness 101 = .ok (.iconst 4, 1) := by decide +kernel
theorem dX3_wrongness_102 : decode cX3_wrongness 102 = .ok (.ireturn, 1) := by decide +kernel
theorem dX3_wrongness_103 : decode cX3_wrongness 103 = .ok (.aload_n 0, 1) := by decide +kernel
theorem dX3_wrongness_104 : decode cX3_wrongness 104 = .ok (.getfield 13, 3) := by decide +kernel
theorem dX3_wrongness_107 : decode cX3_wrongness 107 = .ok (.iconst 3, 1) := by decide +kernel
theorem dX3_wrongness_108 : decode cX3_wrongness 108 = .ok (.aaload, 1) := by decide +kernel
theorem dX3_wrongness_109 : decode cX3_wrongness 109 = .ok (.iload_n 1, 1) := by decide +kernel
theorem dX3_wrongness_110 : decode cX3_wrongness 110 = .ok (.iaload, 1) := by decide +kernel
theorem dX3_wrongness_111 : decode cX3_wrongness 111 = .ok (.aload_n 0, 1) := by decide +kernel
theorem dX3_wrongness_112 : decode cX3_wrongness 112 = .ok (.iload 4, 2) := by decide +kernel
theorem dX3_wrongness_114 : decode cX3_wrongness 114 = .ok (.invokevirtual 67, 3) := by decide +kernel
theorem dX3_wrongness_117 : decode cX3_wrongness 117 = .ok (.aload_n 0, 1) := by decide +kernel
theorem dX3_wrongness_118 : decode cX3_wrongness 118 = .ok (.iload 5, 2) := by decide +kernel
theorem dX3_wrongness_120 : decode cX3_wrongness 120 = .ok (.invokevirtual 67, 3) := by decide +kernel
theorem dX3_wrongness_123 : decode cX3_wrongness 123 = .ok (.iadd, 1) := by decide +kernel
theorem dX3_wrongness_124 : decode cX3_wrongness 124 = .ok (.if_icmp .ne 7, 3) := by decide +kernel
theorem dX3_wrongness_127 : decode cX3_wrongness 127 = .ok (.iconst 0, 1) := by decide +kernel
theorem dX3_wrongness_128 : decode cX3_wrongness 128 = .ok (.goto 4, 3) := by decide +kernel
theorem dX3_wrongness_131 : decode cX3_wrongness 131 = .ok (.iconst 5, 1) := by decide +kernel
theorem dX3_wrongness_132 : decode cX3_wrongness 132 = .ok (.ireturn, 1) := by decide +kernel
theorem dX3_isLead_0 : decode cX3_isLead 0 = .ok (.iload_n 0, 1) := by decide +kernel
theorem dX3_isLead_1 : decode cX3_isLead 1 = .ok (.bipush (-2), 2) := by decide +kernel
theorem dX3_isLead_3 : decode cX3_isLead 3 = .ok (.if_icmp .lt 12, 3) := by decide +kernel
theorem dX3_isLead_6 : decode cX3_isLead 6 = .ok (.iload_n 0, 1) := by decide +kernel
theorem dX3_isLead_7 : decode cX3_isLead 7 = .ok (.iload_n 1, 1) := by decide +kernel
theorem dX3_isLead_8 : decode cX3_isLead 8 = .ok (.if_icmp .ge 7, 3) := by decide +kernel
theorem dX3_isLead_11 : decode cX3_isLead 11 = .ok (.iconst 1, 1) := by decide +kernel
theorem dX3_isLead_12 : decode cX3_isLead 12 = .ok (.goto 4, 3) := by decide +kernel
theorem dX3_isLead_15 : decode cX3_isLead 15 = .ok (.iconst 0, 1) := by decide +kernel
theorem dX3_isLead_16 : decode cX3_isLead 16 = .ok (.ireturn, 1) := by decide +kernel
theorem dX3_roadOfLead_0 : decode cX3_roadOfLead 0 = .ok (.aload_n 0, 1) := by decide +kernel
theorem dX3_roadOfLead_1 : decode cX3_roadOfLead 1 = .ok (.iload_n 1, 1) := by decide +kernel
theorem dX3_roadOfLead_2 : decode cX3_roadOfLead 2 = .ok (.iconst 0, 1) := by decide +kernel
theorem dX3_roadOfLead_3 : decode cX3_roadOfLead 3 = .ok (.invokevirtual 63, 3) := by decide +kernel
theorem dX3_roadOfLead_6 : decode cX3_roadOfLead 6 = .ok (.ifCond .eq 14, 3) := by decide +kernel
theorem dX3_roadOfLead_9 : decode cX3_roadOfLead 9 = .ok (.aload_n 0, 1) := by decide +kernel
theorem dX3_roadOfLead_10 : decode cX3_roadOfLead 10 = .ok (.getfield 13, 3) := by decide +kernel
theorem dX3_roadOfLead_13 : decode cX3_roadOfLead 13 = .ok (.iconst 0, 1) := by decide +kernel
theorem dX3_roadOfLead_14 : decode cX3_roadOfLead 14 = .ok (.aaload, 1) := by decide +kernel
theorem dX3_roadOfLead_15 : decode cX3_roadOfLead 15 = .ok (.iload_n 1, 1) := by decide +kernel
theorem dX3_roadOfLead_16 : decode cX3_roadOfLead 16 = .ok (.iaload, 1) := by decide +kernel
theorem dX3_roadOfLead_17 : decode cX3_roadOfLead 17 = .ok (.goto 5, 3) := by decide +kernel
theorem dX3_roadOfLead_20 : decode cX3_roadOfLead 20 = .ok (.bipush 12, 2) := by decide +kernel
theorem dX3_roadOfLead_22 : decode cX3_roadOfLead 22 = .ok (.ireturn, 1) := by decide +kernel
theorem dX3_isLike_0 : decode cX3_isLike 0 = .ok (.aload_n 0, 1) := by decide +kernel
theorem dX3_isLike_1 : decode cX3_isLike 1 = .ok (.getfield 23, 3) := by decide +kernel
theorem dX3_isLike_4 : decode cX3_isLike 4 = .ok (.aload_n 1, 1) := by decide +kernel
theorem dX3_isLike_5 : decode cX3_isLike 5 = .ok (.getfield 23, 3) := by decide +kernel
theorem dX3_isLike_8 : decode cX3_isLike 8 = .ok (.if_icmp .eq 5, 3) := by decide +kernel
theorem dX3_isLike_11 : decode cX3_isLike 11 = .ok (.iconst 0, 1) := by decide +kernel
theorem dX3_isLike_12 : decode cX3_isLike 12 = .ok (.ireturn, 1) := by decide +kernel
theorem dX3_isLike_13 : decode cX3_isLike 13 = .ok (.iconst 0, 1) := by decide +kernel
theorem dX3_isLike_14 : decode cX3_isLike 14 = .ok (.istore_n 2, 1) := by decide +kernel
theorem dX3_isLike_15 : decode cX3_isLike 15 = .ok (.iload_n 2, 1) := by decide +kernel
theorem dX3_isLike_16 : decode cX3_isLike 16 = .ok (.aload_n 0, 1) := by decide +kernel
theorem dX3_isLike_17 : decode cX3_isLike 17 = .ok (.getfield 23, 3) := by decide +kernel
theorem dX3_isLike_20 : decode cX3_isLike 20 = .ok (.if_icmp .ge 50, 3) := by decide +kernel
theorem dX3_isLike_23 : decode cX3_isLike 23 = .ok (.iload_n 2, 1) := by decide +kernel
theorem dX3_isLike_24 : decode cX3_isLike 24 = .ok (.sipush 768, 3) := by decide +kernel
theorem dX3_isLike_27 : decode cX3_isLike 27 = .ok (.if_icmp .ge 43, 3) := by decide +kernel
theorem dX3_isLike_30 : decode cX3_isLike 30 = .ok (.iconst 0, 1) := by decide +kernel
theorem dX3_isLike_31 : decode cX3_isLike 31 = .ok (.istore_n 3, 1) := by decide +kernel
theorem dX3_isLike_32 : decode cX3_isLike 32 = .ok (.iload_n 3, 1) := by decide +kernel
theorem dX3_isLike_33 : decode cX3_isLike 33 = .ok (.iconst 4, 1) := by decide +kernel
theorem dX3_isLike_34 : decode cX3_isLike 34 = .ok (.if_icmp .ge 30, 3) := by decide +kernel
theorem dX3_isLike_37 : decode cX3_isLike 37 = .ok (.aload_n 0, 1) := by decide +kernel
theorem dX3_isLike_38 : decode cX3_isLike 38 = .ok (.getfield 13, 3) := by decide +kernel
theorem dX3_isLike_41 : decode cX3_isLike 41 = .ok (.iload_n 3, 1) := by decide +kernel
theorem dX3_isLike_42 : decode cX3_isLike 42 = .ok (.aaload, 1) := by decide +kernel
theorem dX3_isLike_43 : decode cX3_isLike 43 = .ok (.iload_n 2, 1) := by decide +kernel
theorem dX3_isLike_44 : decode cX3_isLike 44 = .ok (.iaload, 1) := by decide +kernel
theorem dX3_isLike_45 : decode cX3_isLike 45 = .ok (.aload_n 1, 1) := by decide +kernel
theorem dX3_isLike_46 : decode cX3_isLike 46 = .ok (.getfield 13, 3) := by decide +kernel
theorem dX3_isLike_49 : decode cX3_isLike 49 = .ok (.iload_n 3, 1) := by decide +kernel
theorem dX3_isLike_50 : decode cX3_isLike 50 = .ok (.aaload, 1) := by decide +kernel
theorem dX3_isLike_51 : decode cX3_isLike 51 = .ok (.iload_n 2, 1) := by decide +kernel
theorem dX3_isLike_52 : decode cX3_isLike 52 = .ok (.iaload, 1) := by decide +kernel
theorem dX3_isLike_53 : decode cX3_isLike 53 = .ok (.if_icmp .eq 5, 3) := by decide +kernel
theorem dX3_isLike_56 : decode cX3_isLike 56 = .ok (.iconst 0, 1) := by decide +kernel
theorem dX3_isLike_57 : decode cX3_isLike 57 = .ok (.ireturn, 1) := by decide +kernel
theorem dX3_isLike_58 : decode cX3_isLike 58 = .ok (.iinc 3 1, 3) := by decide +kernel
theorem dX3_isLike_61 : decode cX3_isLike 61 = .ok (.goto (-29), 3) := by decide +kernel
theorem dX3_isLike_64 : decode cX3_isLike 64 = .ok (.iinc 2 1, 3) := by decide +kernel
theorem dX3_isLike_67 : decode cX3_isLike 67 = .ok (.goto (-52), 3) := by decide +kernel
theorem dX3_isLike_70 : decode cX3_isLike 70 = .ok (.iconst 1, 1) := by decide +kernel
theorem dX3_isLike_71 : decode cX3_isLike 71 = .ok (.ireturn, 1) := by decide +kernel
theorem dX4_init_0 : decode cX4_init 0 = .ok (.aload_n 0, 1) := by decide +kernel
theorem dX4_init_1 : decode cX4_init 1 = .ok (.invokespecial 3, 3) := by decide +kernel
theorem dX4_init_4 : decode cX4_init 4 = .ok (.aload_n 0, 1) := by decide +kernel
theorem dX4_init_5 : decode cX4_init 5 = .ok (.aload_n 1, 1) := by decide +kernel
theorem dX4_init_6 : decode cX4_init 6 = .ok (.putfield 9, 3) := by decide +kernel
theorem dX4_init_9 : decode cX4_init 9 = .ok (.aload_n 0, 1) := by decide +kernel
theorem dX4_init_10 : decode cX4_init 10 = .ok (.aload_n 2, 1) := by decide +kernel
theorem dX4_init_11 : decode cX4_init 11 = .ok (.putfield 15, 3) := by decide +kernel
theorem dX4_init_14 : decode cX4_init 14 = .ok (.return_, 1) := by decide +kernel
theorem dX4_findPaths_0 : decode cX4_findPaths 0 = .ok (.aload_n 0, 1) := by decide +kernel
theorem dX4_findPaths_1 : decode cX4_findPaths 1 = .ok (.iload_n 2, 1) := by decide +kernel
theorem dX4_findPaths_2 : decode cX4_findPaths 2 = .ok (.putfield 19, 3) := by decide +kernel
theorem dX4_findPaths_5 : decode cX4_findPaths 5 = .ok (.aload_n 0, 1) := by decide +kernel
theorem dX4_findPaths_6 : decode cX4_findPaths 6 = .ok (.iload_n 3, 1) := by decide +kernel
theorem dX4_findPaths_7 : decode cX4_findPaths 7 = .ok (.ifCond .eq 15, 3) := by decide +kernel
theorem dX4_findPaths_10 : decode cX4_findPaths 10 = .ok (.aload_n 0, 1) := by decide +kernel
theorem dX4_findPaths_11 : decode cX4_findPaths 11 = .ok (.getfield 9, 3) := by decide +kernel
theorem dX4_findPaths_14 : decode cX4_findPaths 14 = .ok (.getfield 23, 3) := by decide +kernel
theorem dX4_findPaths_17 : decode cX4_findPaths 17 = .ok (.iconst 1, 1) := by decide +kernel
theorem dX4_findPaths_18 : decode cX4_findPaths 18 = .ok (.isub, 1) := by decide +kernel
theorem dX4_findPaths_19 : decode cX4_findPaths 19 = .ok (.goto 4, 3) := by decide +kernel
theorem dX4_findPaths_22 : decode cX4_findPaths 22 = .ok (.iconst 1, 1) := by decide +kernel
theorem dX4_findPaths_23 : decode cX4_findPaths 23 = .ok (.putfield 28, 3) := by decide +kernel
theorem dX4_findPaths_26 : decode cX4_findPaths 26 = .ok (.aload_n 0, 1) := by decide +kernel
theorem dX4_findPaths_27 : decode cX4_findPaths 27 = .ok (.iload_n 1, 1) := by decide +kernel
theorem dX4_findPaths_28 : decode cX4_findPaths 28 = .ok (.iconst 1, 1) := by decide +kernel
theorem dX4_findPaths_29 : decode cX4_findPaths 29 = .ok (.iload_n 1, 1) := by decide +kernel
theorem dX4_findPaths_30 : decode cX4_findPaths 30 = .ok (.ishl, 1) := by decide +kernel
theorem dX4_findPaths_31 : decode cX4_findPaths 31 = .ok (.iconst 0, 1) := by decide +kernel
theorem dX4_findPaths_32 : decode cX4_findPaths 32 = .ok (.iconst 0, 1) := by decide +kernel
theorem dX4_findPaths_33 : decode cX4_findPaths 33 = .ok (.invokevirtual 31, 3) := by decide +kernel
theorem dX4_findPaths_36 : decode cX4_findPaths 36 = .ok (.return_, 1) := by decide +kernel
theorem dX4_findRounds_0 : decode cX4_findRounds 0 = .ok (.aload_n 0, 1) := by decide +kernel
theorem dX4_findRounds_1 : decode cX4_findRounds 1 = .ok (.iload_n 1, 1) := by decide +kernel
theorem dX4_findRounds_2 : decode cX4_findRounds 2 = .ok (.ifCond .eq 17, 3) := by decide +kernel
theorem dX4_findRounds_5 : decode cX4_findRounds 5 = .ok (.iconst 3, 1) := by decide +kernel
theorem dX4_findRounds_6 : decode cX4_findRounds 6 = .ok (.aload_n 0, 1) := by decide +kernel
theorem dX4_findRounds_7 : decode cX4_findRounds 7 = .ok (.getfield 9, 3) := by decide +kernel
theorem dX4_findRounds_10 : decode cX4_findRounds 10 = .ok (.getfield 23, 3) := by decide +kernel
theorem dX4_findRounds_13 : decode cX4_findRounds 13 = .ok (.invokestatic 35, 3) := by decide +kernel
theorem dX4_findRounds_16 : decode cX4_findRounds 16 = .ok (.goto 4, 3) := by decide +kernel
theorem dX4_findRounds_19 : decode cX4_findRounds 19 = .ok (.iconst 3, 1) := by decide +kernel
theorem dX4_findRounds_20 : decode cX4_findRounds 20 = .ok (.putfield 28, 3) := by decide +kernel
theorem dX4_findRounds_23 : decode cX4_findRounds 23 = .ok (.iconst 0, 1) := by decide +kernel
theorem dX4_findRounds_24 : decode cX4_findRounds 24 = .ok (.istore_n 2, 1) := by decide +kernel
theorem dX4_findRounds_25 : decode cX4_findRounds 25 = .ok (.iload_n 2, 1) := by decide +kernel
theorem dX4_findRounds_26 : decode cX4_findRounds 26 = .ok (.aload_n 0, 1) := by decide +kernel
theorem dX4_findRounds_27 : decode cX4_findRounds 27 = .ok (.getfield 9, 3) := by decide +kernel
theorem dX4_findRounds_30 : decode cX4_findRounds 30 = .ok (.getfield 23, 3) := by decide +kernel
theorem dX4_findRounds_33 : decode cX4_findRounds 33 = .ok (.if_icmp .ge 26, 3) := by decide +kernel
theorem dX4_findRounds_36 : decode cX4_findRounds 36 = .ok (.aload_n 0, 1) := by decide +kernel
theorem dX4_findRounds_37 : decode cX4_findRounds 37 = .ok (.iload_n 2, 1) := by decide +kernel
theorem dX4_findRounds_38 : decode cX4_findRounds 38 = .ok (.putfield 19, 3) := by decide +kernel
theorem dX4_findRounds_41 : decode cX4_findRounds 41 = .ok (.aload_n 0, 1) := by decide +kernel
theorem dX4_findRounds_42 : decode cX4_findRounds 42 = .ok (.iload_n 2, 1) := by decide +kernel
theorem dX4_findRounds_43 : decode cX4_findRounds 43 = .ok (.iconst 1, 1) := by decide +kernel
theorem dX4_findRounds_44 : decode cX4_findRounds 44 = .ok (.iload_n 2, 1) := by decide +kernel
theorem dX4_findRounds_45 : decode cX4_findRounds 45 = .ok (.ishl, 1) := by decide +kernel
theorem dX4_findRounds_46 : decode cX4_findRounds 46 = .ok (.iconst 1, 1) := by decide +kernel
theorem dX4_findRounds_47 : decode cX4_findRounds 47 = .ok (.isub, 1) := by decide +kernel
theorem dX4_findRounds_48 : decode cX4_findRounds 48 = .ok (.iconst 0, 1) := by decide +kernel
theorem dX4_findRounds_49 : decode cX4_findRounds 49 = .ok (.iconst 0, 1) := by decide +kernel
theorem dX4_findRounds_50 : decode cX4_findRounds 50 = .ok (.invokevirtual 31, 3) := by decide +kernel
theorem dX4_findRounds_53 : decode cX4_findRounds 53 = .ok (.iinc 2 1, 3) := by decide +kernel
theorem dX4_findRounds_56 : decode cX4_findRounds 56 = .ok (.goto (-31), 3) := by decide +kernel
theorem dX4_findRounds_59 : decode cX4_findRounds 59 = .ok (.return_, 1) := by decide +kernel
theorem dX4_walk_0 : decode cX4_walk 0 = .ok (.iload 4, 2) := by decide +kernel
theorem dX4_walk_2 : decode cX4_walk 2 = .ok (.bipush 8, 2) := by decide +kernel
theorem dX4_walk_4 : decode cX4_walk 4 = .ok (.if_icmp .le 4, 3) := by decide +kernel
theorem dX4_walk_7 : decode cX4_walk 7 = .ok (.return_, 1) := by decide +kernel
theorem dX4_walk_8 : decode cX4_walk 8 = .ok (.iload 4, 2) := by decide +kernel
theorem dX4_walk_10 : decode cX4_walk 10 = .ok (.ifCond .le 31, 3) := by decide +kernel
theorem dX4_walk_13 : decode cX4_walk 13 = .ok (.iload_n 1, 1) := by decide +kernel
theorem dX4_walk_14 : decode cX4_walk 14 = .ok (.aload_n 0, 1) := by decide +kernel
theorem dX4_walk_15 : decode cX4_walk 15 = .ok (.getfield 19, 3) := by decide +kernel
theorem dX4_walk_18 : decode cX4_walk 18 = .ok (.if_icmp .ne 23, 3) := by decide +kernel
theorem dX4_walk_21 : decode cX4_walk 21 = .ok (.iload_n 3, 1) := by decide +kernel
theorem dX4_walk_22 : decode cX4_walk 22 = .ok (.invokestatic 41, 3) := by decide +kernel
theorem dX4_walk_25 : decode cX4_walk 25 = .ok (.aload_n 0, 1) := by decide +kernel
theorem dX4_walk_26 : decode cX4_walk 26 = .ok (.getfield 28, 3) := by decide +kernel
theorem dX4_walk_29 : decode cX4_walk 29 = .ok (.if_icmp .lt 11, 3) := by decide +kernel
theorem dX4_walk_32 : decode cX4_walk 32 = .ok (.aload_n 0, 1) := by decide +kernel
theorem dX4_walk_33 : decode cX4_walk 33 = .ok (.getfield 15, 3) := by decide +kernel
theorem dX4_walk_36 : decode cX4_walk 36 = .ok (.iload_n 3, 1) := by decide +kernel
theorem dX4_walk_37 : decode cX4_walk 37 = .ok (.invokevirtual 47, 3) := by decide +kernel
theorem dX4_walk_40 : decode cX4_walk 40 = .ok (.return_, 1) := by decide +kernel
theorem dX4_walk_41 : decode cX4_walk 41 = .ok (.iconst 0, 1) := by decide +kernel
theorem dX4_walk_42 : decode cX4_walk 42 = .ok (.istore 5, 2) := by decide +kernel
theorem dX4_walk_44 : decode cX4_walk 44 = .ok (.iload 5, 2) := by decide +kernel
theorem dX4_walk_46 : decode cX4_walk 46 = .ok (.aload_n 0, 1) := by decide +kernel
theorem dX4_walk_47 : decode cX4_walk 47 = .ok (.getfield 9, 3) := by decide +kernel
theorem dX4_walk_50 : decode cX4_walk 50 = .ok (.getfield 53, 3) := by decide +kernel
theorem dX4_walk_53 : decode cX4_walk 53 = .ok (.if_icmp .ge 58, 3) := by decide +kernel
theorem dX4_walk_56 : decode cX4_walk 56 = .ok (.aload_n 0, 1) := by decide +kernel
theorem dX4_walk_57 : decode cX4_walk 57 = .ok (.getfield 9, 3) := by decide +kernel
theorem dX4_walk_60 : decode cX4_walk 60 = .ok (.iload 5, 2) := by decide +kernel
theorem dX4_walk_62 : decode cX4_walk 62 = .ok (.iload_n 1, 1) := by decide +kernel
theorem dX4_walk_63 : decode cX4_walk 63 = .ok (.invokevirtual 56, 3) := by decide +kernel
theorem dX4_walk_66 : decode cX4_walk 66 = .ok (.istore 6, 2) := by decide +kernel
theorem dX4_walk_68 : decode cX4_walk 68 = .ok (.iload 6, 2) := by decide +kernel
theorem dX4_walk_70 : decode cX4_walk 70 = .ok (.ifCond .lt 35, 3) := by decide +kernel
theorem dX4_walk_73 : decode cX4_walk 73 = .ok (.iload_n 2, 1) := by decide +kernel
theorem dX4_walk_74 : decode cX4_walk 74 = .ok (.iconst 1, 1) := by decide +kernel
theorem dX4_walk_75 : decode cX4_walk 75 = .ok (.iload 6, 2) := by decide +kernel
theorem dX4_walk_77 : decode cX4_walk 77 = .ok (.ishl, 1) := by decide +kernel
theorem dX4_walk_78 : decode cX4_walk 78 = .ok (.iand, 1) := by decide +kernel
theorem dX4_walk_79 : decode cX4_walk 79 = .ok (.ifCond .ne 26, 3) := by decide +kernel
theorem dX4_walk_82 : decode cX4_walk 82 = .ok (.aload_n 0, 1) := by decide +kernel
theorem dX4_walk_83 : decode cX4_walk 83 = .ok (.iload 6, 2) := by decide +kernel
theorem dX4_walk_85 : decode cX4_walk 85 = .ok (.iload_n 2, 1) := by decide +kernel
theorem dX4_walk_86 : decode cX4_walk 86 = .ok (.iconst 1, 1) := by decide +kernel
theorem dX4_walk_87 : decode cX4_walk 87 = .ok (.iload 6, 2) := by decide +kernel
theorem dX4_walk_89 : decode cX4_walk 89 = .ok (.ishl, 1) := by decide +kernel
theorem dX4_walk_90 : decode cX4_walk 90 = .ok (.ior, 1) := by decide +kernel
theorem dX4_walk_91 : decode cX4_walk 91 = .ok (.iload_n 3, 1) := by decide +kernel
theorem dX4_walk_92 : decode cX4_walk 92 = .ok (.iload 5, 2) := by decide +kernel
theorem dX4_walk_94 : decode cX4_walk 94 = .ok (.invokestatic 59, 3) := by decide +kernel
theorem dX4_walk_97 : decode cX4_walk 97 = .ok (.ior, 1) := by decide +kernel
theorem dX4_walk_98 : decode cX4_walk 98 = .ok (.iload 4, 2) := by decide +kernel
theorem dX4_walk_100 : decode cX4_walk 100 = .ok (.iconst 1, 1) := by decide +kernel
theorem dX4_walk_101 : decode cX4_walk 101 = .ok (.iadd, 1) := by decide +kernel
theorem dX4_walk_102 : decode cX4_walk 102 = .ok (.invokevirtual 31, 3) := by decide +kernel
theorem dX4_walk_105 : decode cX4_walk 105 = .ok (.iinc 5 1, 3) := by decide +kernel
theorem dX4_walk_108 : decode cX4_walk 108 = .ok (.goto (-64), 3) := by decide +kernel
theorem dX4_walk_111 : decode cX4_walk 111 = .ok (.return_, 1) := by decide +kernel
theorem dX4_findTrees_0 : decode cX4_findTrees 0 = .ok (.aload_n 0, 1) := by decide +kernel
theorem dX4_findTrees_1 : decode cX4_findTrees 1 = .ok (.iload_n 1, 1) := by decide +kernel
theorem dX4_findTrees_2 : decode cX4_findTrees 2 = .ok (.putfield 62, 3) := by decide +kernel
theorem dX4_findTrees_5 : decode cX4_findTrees 5 = .ok (.aload_n 0, 1) := by decide +kernel
theorem dX4_findTrees_6 : decode cX4_findTrees 6 = .ok (.iconst 0, 1) := by decide +kernel
theorem dX4_findTrees_7 : decode cX4_findTrees 7 = .ok (.putfield 65, 3) := by decide +kernel
theorem dX4_findTrees_10 : decode cX4_findTrees 10 = .ok (.aload_n 0, 1) := by decide +kernel
theorem dX4_findTrees_11 : decode cX4_findTrees 11 = .ok (.iconst 0, 1) := by decide +kernel
theorem dX4_findTrees_12 : decode cX4_findTrees 12 = .ok (.iconst 0, 1) := by decide +kernel
theorem dX4_findTrees_13 : decode cX4_findTrees 13 = .ok (.ldc 69, 2) := by decide +kernel
theorem dX4_findTrees_15 : decode cX4_findTrees 15 = .ok (.aload_n 0, 1) := by decide +kernel
theorem dX4_findTrees_16 : decode cX4_findTrees 16 = .ok (.getfield 9, 3) := by decide +kernel
theorem dX4_findTrees_19 : decode cX4_findTrees 19 = .ok (.getfield 23, 3) := by decide +kernel
theorem dX4_findTrees_22 : decode cX4_findTrees 22 = .ok (.invokevirtual 70, 3) := by decide +kernel
theorem dX4_findTrees_25 : decode cX4_findTrees 25 = .ok (.return_, 1) := by decide +kernel
theorem dX4_findParts_0 : decode cX4_findParts 0 = .ok (.aload_n 0, 1) := by decide +kernel
theorem dX4_findParts_1 : decode cX4_findParts 1 = .ok (.iload_n 1, 1) := by decide +kernel
theorem dX4_findParts_2 : decode cX4_findParts 2 = .ok (.putfield 62, 3) := by decide +kernel
theorem dX4_findParts_5 : decode cX4_findParts 5 = .ok (.aload_n 0, 1) := by decide +kernel
theorem dX4_findParts_6 : decode cX4_findParts 6 = .ok (.iconst 1, 1) := by decide +kernel
theorem dX4_findParts_7 : decode cX4_findParts 7 = .ok (.putfield 65, 3) := by decide +kernel
theorem dX4_findParts_10 : decode cX4_findParts 10 = .ok (.aload_n 0, 1) := by decide +kernel
theorem dX4_findParts_11 : decode cX4_findParts 11 = .ok (.iload_n 2, 1) := by decide +kernel
theorem dX4_findParts_12 : decode cX4_findParts 12 = .ok (.putfield 73, 3) := by decide +kernel
theorem dX4_findParts_15 : decode cX4_findParts 15 = .ok (.aload_n 0, 1) := by decide +kernel
theorem dX4_findParts_16 : decode cX4_findParts 16 = .ok (.iload_n 3, 1) := by decide +kernel
theorem dX4_findParts_17 : decode cX4_findParts 17 = .ok (.putfield 76, 3) := by decide +kernel
theorem dX4_findParts_20 : decode cX4_findParts 20 = .ok (.aload_n 0, 1) := by decide +kernel
theorem dX4_findParts_21 : decode cX4_findParts 21 = .ok (.iconst 0, 1) := by decide +kernel
theorem dX4_findParts_22 : decode cX4_findParts 22 = .ok (.iconst 0, 1) := by decide +kernel
theorem dX4_findParts_23 : decode cX4_findParts 23 = .ok (.ldc 69, 2) := by decide +kernel
theorem dX4_findParts_25 : decode cX4_findParts 25 = .ok (.aload_n 0, 1) := by decide +kernel
theorem dX4_findParts_26 : decode cX4_findParts 26 = .ok (.getfield 9, 3) := by decide +kernel
theorem dX4_findParts_29 : decode cX4_findParts 29 = .ok (.getfield 23, 3) := by decide +kernel
theorem dX4_findParts_32 : decode cX4_findParts 32 = .ok (.invokevirtual 70, 3) := by decide +kernel
theorem dX4_findParts_35 : decode cX4_findParts 35 = .ok (.return_, 1) := by decide +kernel
theorem dX4_gather_0 : decode cX4_gather 0 = .ok (.iload 4, 2) := by decide +kernel
theorem dX4_gather_2 : decode cX4_gather 2 = .ok (.aload_n 0, 1) := by decide +kernel
theorem dX4_gather_3 : decode cX4_gather 3 = .ok (.getfield 62, 3) := by decide +kernel
theorem dX4_gather_6 : decode cX4_gather 6 = .ok (.if_icmp .lt 22, 3) := by decide +kernel
theorem dX4_gather_9 : decode cX4_gather 9 = .ok (.iload 4, 2) := by decide +kernel
theorem dX4_gather_11 : decode cX4_gather 11 = .ok (.aload_n 0, 1) := by decide +kernel
theorem dX4_gather_12 : decode cX4_gather 12 = .ok (.getfield 9, 3) := by decide +kernel
theorem dX4_gather_15 : decode cX4_gather 15 = .ok (.getfield 53, 3) := by decide +kernel
theorem dX4_gather_18 : decode cX4_gather 18 = .ok (.iload_n 1, 1) := by decide +kernel
theorem dX4_gather_19 : decode cX4_gather 19 = .ok (.isub, 1) := by decide +kernel
theorem dX4_gather_20 : decode cX4_gather 20 = .ok (.isub, 1) := by decide +kernel
theorem dX4_gather_21 : decode cX4_gather 21 = .ok (.aload_n 0, 1) := by decide +kernel
theorem dX4_gather_22 : decode cX4_gather 22 = .ok (.getfield 62, 3) := by decide +kernel
theorem dX4_gather_25 : decode cX4_gather 25 = .ok (.if_icmp .le 4, 3) := by decide +kernel
theorem dX4_gather_28 : decode cX4_gather 28 = .ok (.return_, 1) := by decide +kernel
theorem dX4_gather_29 : decode cX4_gather 29 = .ok (.aload_n 0, 1) := by decide +kernel
theorem dX4_gather_30 : decode cX4_gather 30 = .ok (.getfield 9, 3) := by decide +kernel
theorem dX4_gather_33 : decode cX4_gather 33 = .ok (.iload_n 1, 1) := by decide +kernel
theorem dX4_gather_34 : decode cX4_gather 34 = .ok (.invokevirtual 79, 3) := by decide +kernel
theorem dX4_gather_37 : decode cX4_gather 37 = .ok (.ifCond .ne 28, 3) := by decide +kernel
theorem dX4_gather_40 : decode cX4_gather 40 = .ok (.aload_n 0, 1) := by decide +kernel
theorem dX4_gather_41 : decode cX4_gather 41 = .ok (.getfield 65, 3) := by decide +kernel
theorem dX4_gather_44 : decode cX4_gather 44 = .ok (.ifCond .eq 12, 3) := by decide +kernel
theorem dX4_gather_47 : decode cX4_gather 47 = .ok (.aload_n 0, 1) := by decide +kernel
theorem dX4_gather_48 : decode cX4_gather 48 = .ok (.iload_n 2, 1) := by decide +kernel
theorem dX4_gather_49 : decode cX4_gather 49 = .ok (.iload_n 3, 1) := by decide +kernel
theorem dX4_gather_50 : decode cX4_gather 50 = .ok (.invokevirtual 83, 3) := by decide +kernel
theorem dX4_gather_53 : decode cX4_gather 53 = .ok (.ifCond .eq 11, 3) := by decide +kernel
theorem dX4_gather_56 : decode cX4_gather 56 = .ok (.aload_n 0, 1) := by decide +kernel
theorem dX4_gather_57 : decode cX4_gather 57 = .ok (.getfield 15, 3) := by decide +kernel
theorem dX4_gather_60 : decode cX4_gather 60 = .ok (.iload_n 2, 1) := by decide +kernel
theorem dX4_gather_61 : decode cX4_gather 61 = .ok (.invokevirtual 47, 3) := by decide +kernel
theorem dX4_gather_64 : decode cX4_gather 64 = .ok (.return_, 1) := by decide +kernel
theorem dX4_gather_65 : decode cX4_gather 65 = .ok (.iload_n 3, 1) := by decide +kernel
theorem dX4_gather_66 : decode cX4_gather 66 = .ok (.aload_n 0, 1) := by decide +kernel
theorem dX4_gather_67 : decode cX4_gather 67 = .ok (.getfield 9, 3) := by decide +kernel
theorem dX4_gather_70 : decode cX4_gather 70 = .ok (.getfield 87, 3) := by decide +kernel
theorem dX4_gather_73 : decode cX4_gather 73 = .ok (.iload_n 1, 1) := by decide +kernel
theorem dX4_gather_74 : decode cX4_gather 74 = .ok (.iaload, 1) := by decide +kernel
theorem dX4_gather_75 : decode cX4_gather 75 = .ok (.invokestatic 91, 3) := by decide +kernel
theorem dX4_gather_78 : decode cX4_gather 78 = .ok (.istore 5, 2) := by decide +kernel
theorem dX4_gather_80 : decode cX4_gather 80 = .ok (.iload_n 3, 1) := by decide +kernel
theorem dX4_gather_81 : decode cX4_gather 81 = .ok (.aload_n 0, 1) := by decide +kernel
theorem dX4_gather_82 : decode cX4_gather 82 = .ok (.getfield 9, 3) := by decide +kernel
theorem dX4_gather_85 : decode cX4_gather 85 = .ok (.getfield 94, 3) := by decide +kernel
theorem dX4_gather_88 : decode cX4_gather 88 = .ok (.iload_n 1, 1) := by decide +kernel
theorem dX4_gather_89 : decode cX4_gather 89 = .ok (.iaload, 1) := by decide +kernel
theorem dX4_gather_90 : decode cX4_gather 90 = .ok (.invokestatic 91, 3) := by decide +kernel
theorem dX4_gather_93 : decode cX4_gather 93 = .ok (.istore 6, 2) := by decide +kernel
theorem dX4_gather_95 : decode cX4_gather 95 = .ok (.iload 5, 2) := by decide +kernel
theorem dX4_gather_97 : decode cX4_gather 97 = .ok (.iload 6, 2) := by decide +kernel
theorem dX4_gather_99 : decode cX4_gather 99 = .ok (.if_icmp .ne 10, 3) := by decide +kernel
theorem dX4_gather_102 : decode cX4_gather 102 = .ok (.aload_n 0, 1) := by decide +kernel
theorem dX4_gather_103 : decode cX4_gather 103 = .ok (.getfield 65, 3) := by decide +kernel
theorem dX4_gather_106 : decode cX4_gather 106 = .ok (.ifCond .ne 14, 3) := by decide +kernel
theorem dX4_gather_109 : decode cX4_gather 109 = .ok (.aload_n 0, 1) := by decide +kernel
theorem dX4_gather_110 : decode cX4_gather 110 = .ok (.iload_n 1, 1) := by decide +kernel
theorem dX4_gather_111 : decode cX4_gather 111 = .ok (.iconst 1, 1) := by decide +kernel
theorem dX4_gather_112 : decode cX4_gather 112 = .ok (.iadd, 1) := by decide +kernel
theorem dX4_gather_113 : decode cX4_gather 113 = .ok (.iload_n 2, 1) := by decide +kernel
theorem dX4_gather_114 : decode cX4_gather 114 = .ok (.iload_n 3, 1) := by decide +kernel
theorem dX4_gather_115 : decode cX4_gather 115 = .ok (.iload 4, 2) := by decide +kernel
theorem dX4_gather_117 : decode cX4_gather 117 = .ok (.invokevirtual 70, 3) := by decide +kernel
theorem dX4_gather_120 : decode cX4_gather 120 = .ok (.iload 5, 2) := by decide +kernel
theorem dX4_gather_122 : decode cX4_gather 122 = .ok (.iload 6, 2) := by decide +kernel
theorem dX4_gather_124 : decode cX4_gather 124 = .ok (.if_icmp .eq 31, 3) := by decide +kernel
theorem dX4_gather_127 : decode cX4_gather 127 = .ok (.aload_n 0, 1) := by decide +kernel
theorem dX4_gather_128 : decode cX4_gather 128 = .ok (.iload_n 1, 1) := by decide +kernel
theorem dX4_gather_129 : decode cX4_gather 129 = .ok (.iconst 1, 1) := by decide +kernel
theorem dX4_gather_130 : decode cX4_gather 130 = .ok (.iadd, 1) := by decide +kernel
theorem dX4_gather_131 : decode cX4_gather 131 = .ok (.iload_n 2, 1) := by decide +kernel
theorem dX4_gather_132 : decode cX4_gather 132 = .ok (.iload_n 1, 1) := by decide +kernel
theorem dX4_gather_133 : decode cX4_gather 133 = .ok (.invokestatic 59, 3) := by decide +kernel
theorem dX4_gather_136 : decode cX4_gather 136 = .ok (.ior, 1) := by decide +kernel
theorem dX4_gather_137 : decode cX4_gather 137 = .ok (.iload_n 3, 1) := by decide +kernel
theorem dX4_gather_138 : decode cX4_gather 138 = .ok (.iload 6, 2) := by decide +kernel
theorem dX4_gather_140 : decode cX4_gather 140 = .ok (.iload 5, 2) := by decide +kernel
theorem dX4_gather_142 : decode cX4_gather 142 = .ok (.invokestatic 97, 3) := by decide +kernel
theorem dX4_gather_145 : decode cX4_gather 145 = .ok (.iload 4, 2) := by decide +kernel
theorem dX4_gather_147 : decode cX4_gather 147 = .ok (.iconst 1, 1) := by decide +kernel
theorem dX4_gather_148 : decode cX4_gather 148 = .ok (.isub, 1) := by decide +kernel
theorem dX4_gather_149 : decode cX4_gather 149 = .ok (.invokevirtual 70, 3) := by decide +kernel
theorem dX4_gather_152 : decode cX4_gather 152 = .ok (.goto 26, 3) := by decide +kernel
theorem dX4_gather_155 : decode cX4_gather 155 = .ok (.aload_n 0, 1) := by decide +kernel
theorem dX4_gather_156 : decode cX4_gather 156 = .ok (.getfield 65, 3) := by decide +kernel
theorem dX4_gather_159 : decode cX4_gather 159 = .ok (.ifCond .eq 19, 3) := by decide +kernel
theorem dX4_gather_162 : decode cX4_gather 162 = .ok (.aload_n 0, 1) := by decide +kernel
theorem dX4_gather_163 : decode cX4_gather 163 = .ok (.iload_n 1, 1) := by decide +kernel
theorem dX4_gather_164 : decode cX4_gather 164 = .ok (.iconst 1, 1) := by decide +kernel
theorem dX4_gather_165 : decode cX4_gather 165 = .ok (.iadd, 1) := by decide +kernel
theorem dX4_gather_166 : decode cX4_gather 166 = .ok (.iload_n 2, 1) := by decide +kernel
theorem dX4_gather_167 : decode cX4_gather 167 = .ok (.iload_n 1, 1) := by decide +kernel
theorem dX4_gather_168 : decode cX4_gather 168 = .ok (.invokestatic 59, 3) := by decide +kernel
theorem dX4_gather_171 : decode cX4_gather 171 = .ok (.ior, 1) := by decide +kernel
theorem dX4_gather_172 : decode cX4_gather 172 = .ok (.iload_n 3, 1) := by decide +kernel
theorem dX4_gather_173 : decode cX4_gather 173 = .ok (.iload 4, 2) := by decide +kernel
theorem dX4_gather_175 : decode cX4_gather 175 = .ok (.invokevirtual 70, 3) := by decide +kernel
theorem dX4_gather_178 : decode cX4_gather 178 = .ok (.return_, 1) := by decide +kernel
theorem dX4_label_0 : decode cX4_label 0 = .ok (.iload_n 0, 1) := by decide +kernel
theorem dX4_label_1 : decode cX4_label 1 = .ok (.iconst 4, 1) := by decide +kernel
theorem dX4_label_2 : decode cX4_label 2 = .ok (.iload_n 1, 1) := by decide +kernel
theorem dX4_label_3 : decode cX4_label 3 = .ok (.imul, 1) := by decide +kernel
theorem dX4_label_4 : decode cX4_label 4 = .ok (.iushr, 1) := by decide +kernel
theorem dX4_label_5 : decode cX4_label 5 = .ok (.bipush 15, 2) := by decide +kernel
theorem dX4_label_7 : decode cX4_label 7 = .ok (.iand, 1) := by decide +kernel
theorem dX4_label_8 : decode cX4_label 8 = .ok (.ireturn, 1) := by decide +kernel
theorem dX4_relabelled_0 : decode cX4_relabelled 0 = .ok (.iload_n 0, 1) := by decide +kernel
theorem dX4_relabelled_1 : decode cX4_relabelled 1 = .ok (.istore_n 3, 1) := by decide +kernel
theorem dX4_relabelled_2 : decode cX4_relabelled 2 = .ok (.iconst 0, 1) := by decide +kernel
theorem dX4_relabelled_3 : decode cX4_relabelled 3 = .ok (.istore 4, 2) := by decide +kernel
theorem dX4_relabelled_5 : decode cX4_relabelled 5 = .ok (.iload 4, 2) := by decide +kernel
theorem dX4_relabelled_7 : decode cX4_relabelled 7 = .ok (.bipush 8, 2) := by decide +kernel
theorem dX4_relabelled_9 : decode cX4_relabelled 9 = .ok (.if_icmp .ge 30, 3) := by decide +kernel
theorem dX4_relabelled_12 : decode cX4_relabelled 12 = .ok (.iload_n 0, 1) := by decide +kernel
theorem dX4_relabelled_13 : decode cX4_relabelled 13 = .ok (.iload 4, 2) := by decide +kernel
theorem dX4_relabelled_15 : decode cX4_relabelled 15 = .ok (.invokestatic 91, 3) := by decide +kernel
theorem dX4_relabelled_18 : decode cX4_relabelled 18 = .ok (.iload_n 1, 1) := by decide +kernel
theorem dX4_relabelled_19 : decode cX4_relabelled 19 = .ok (.if_icmp .ne 14, 3) := by decide +kernel
theorem dX4_relabelled_22 : decode cX4_relabelled 22 = .ok (.iload_n 3, 1) := by decide +kernel
theorem dX4_relabelled_23 : decode cX4_relabelled 23 = .ok (.iload_n 1, 1) := by decide +kernel
theorem dX4_relabelled_24 : decode cX4_relabelled 24 = .ok (.iload_n 2, 1) := by decide +kernel
theorem dX4_relabelled_25 : decode cX4_relabelled 25 = .ok (.ixor, 1) := by decide +kernel
theorem dX4_relabelled_26 : decode cX4_relabelled 26 = .ok (.iconst 4, 1) := by decide +kernel
theorem dX4_relabelled_27 : decode cX4_relabelled 27 = .ok (.iload 4, 2) := by decide +kernel
theorem dX4_relabelled_29 : decode cX4_relabelled 29 = .ok (.imul, 1) := by decide +kernel
theorem dX4_relabelled_30 : decode cX4_relabelled 30 = .ok (.ishl, 1) := by decide +kernel
theorem dX4_relabelled_31 : decode cX4_relabelled 31 = .ok (.ixor, 1) := by decide +kernel
theorem dX4_relabelled_32 : decode cX4_relabelled 32 = .ok (.istore_n 3, 1) := by decide +kernel
theorem dX4_relabelled_33 : decode cX4_relabelled 33 = .ok (.iinc 4 1, 3) := by decide +kernel
theorem dX4_relabelled_36 : decode cX4_relabelled 36 = .ok (.goto (-31), 3) := by decide +kernel
theorem dX4_relabelled_39 : decode cX4_relabelled 39 = .ok (.iload_n 3, 1) := by decide +kernel
theorem dX4_relabelled_40 : decode cX4_relabelled 40 = .ok (.ireturn, 1) := by decide +kernel
theorem dX4_isParting_0 : decode cX4_isParting 0 = .ok (.iconst 0, 1) := by decide +kernel
theorem dX4_isParting_1 : decode cX4_isParting 1 = .ok (.istore_n 3, 1) := by decide +kernel
theorem dX4_isParting_2 : decode cX4_isParting 2 = .ok (.iload_n 3, 1) := by decide +kernel
theorem dX4_isParting_3 : decode cX4_isParting 3 = .ok (.aload_n 0, 1) := by decide +kernel
theorem dX4_isParting_4 : decode cX4_isParting 4 = .ok (.getfield 9, 3) := by decide +kernel
theorem dX4_isParting_7 : decode cX4_isParting 7 = .ok (.getfield 53, 3) := by decide +kernel
theorem dX4_isParting_10 : decode cX4_isParting 10 = .ok (.if_icmp .ge 67, 3) := by decide +kernel
theorem dX4_isParting_13 : decode cX4_isParting 13 = .ok (.iload_n 3, 1) := by decide +kernel
theorem dX4_isParting_14 : decode cX4_isParting 14 = .ok (.bipush 12, 2) := by decide +kernel
theorem dX4_isParting_16 : decode cX4_isParting 16 = .ok (.if_icmp .ge 61, 3) := by decide +kernel
theorem dX4_isParting_19 : decode cX4_isParting 19 = .ok (.iload_n 1, 1) := by decide +kernel
theorem dX4_isParting_20 : decode cX4_isParting 20 = .ok (.iload_n 3, 1) := by decide +kernel
theorem dX4_isParting_21 : decode cX4_isParting 21 = .ok (.invokestatic 59, 3) := by decide +kernel
theorem dX4_isParting_24 : decode cX4_isParting 24 = .ok (.iand, 1) := by decide +kernel
theorem dX4_isParting_25 : decode cX4_isParting 25 = .ok (.ifCond .ne 7, 3) := by decide +kernel
theorem dX4_isParting_28 : decode cX4_isParting 28 = .ok (.iconst 1, 1) := by decide +kernel
theorem dX4_isParting_29 : decode cX4_isParting 29 = .ok (.goto 4, 3) := by decide +kernel
theorem dX4_isParting_32 : decode cX4_isParting 32 = .ok (.iconst 0, 1) := by decide +kernel
theorem dX4_isParting_33 : decode cX4_isParting 33 = .ok (.istore 4, 2) := by decide +kernel
theorem dX4_isParting_35 : decode cX4_isParting 35 = .ok (.iload 4, 2) := by decide +kernel
theorem dX4_isParting_37 : decode cX4_isParting 37 = .ok (.ifCond .eq 34, 3) := by decide +kernel
theorem dX4_isParting_40 : decode cX4_isParting 40 = .ok (.iload_n 2, 1) := by decide +kernel
theorem dX4_isParting_41 : decode cX4_isParting 41 = .ok (.aload_n 0, 1) := by decide +kernel
theorem dX4_isParting_42 : decode cX4_isParting 42 = .ok (.getfield 9, 3) := by decide +kernel
theorem dX4_isParting_45 : decode cX4_isParting 45 = .ok (.getfield 87, 3) := by decide +kernel
theorem dX4_isParting_48 : decode cX4_isParting 48 = .ok (.iload_n 3, 1) := by decide +kernel
theorem dX4_isParting_49 : decode cX4_isParting 49 = .ok (.iaload, 1) := by decide +kernel
theorem dX4_isParting_50 : decode cX4_isParting 50 = .ok (.invokestatic 91, 3) := by decide +kernel
theorem dX4_isParting_53 : decode cX4_isParting 53 = .ok (.iload_n 2, 1) := by decide +kernel
theorem dX4_isParting_54 : decode cX4_isParting 54 = .ok (.aload_n 0, 1) := by decide +kernel
theorem dX4_isParting_55 : decode cX4_isParting 55 = .ok (.getfield 9, 3) := by decide +kernel
theorem dX4_isParting_58 : decode cX4_isParting 58 = .ok (.getfield 94, 3) := by decide +kernel
theorem dX4_isParting_61 : decode cX4_isParting 61 = .ok (.iload_n 3, 1) := by decide +kernel
theorem dX4_isParting_62 : decode cX4_isParting 62 = .ok (.iaload, 1) := by decide +kernel
theorem dX4_isParting_63 : decode cX4_isParting 63 = .ok (.invokestatic 91, 3) := by decide +kernel
theorem dX4_isParting_66 : decode cX4_isParting 66 = .ok (.if_icmp .ne 5, 3) := by decide +kernel
theorem dX4_isParting_69 : decode cX4_isParting 69 = .ok (.iconst 0, 1) := by decide +kernel
theorem dX4_isParting_70 : decode cX4_isParting 70 = .ok (.ireturn, 1) := by decide +kernel
theorem dX4_isParting_71 : decode cX4_isParting 71 = .ok (.iinc 3 1, 3) := by decide +kernel
theorem dX4_isParting_74 : decode cX4_isParting 74 = .ok (.goto (-72), 3) := by decide +kernel
theorem dX4_isParting_77 : decode cX4_isParting 77 = .ok (.iconst 0, 1) := by decide +kernel
theorem dX4_isParting_78 : decode cX4_isParting 78 = .ok (.istore_n 3, 1) := by decide +kernel
theorem dX4_isParting_79 : decode cX4_isParting 79 = .ok (.iload_n 3, 1) := by decide +kernel
theorem dX4_isParting_80 : decode cX4_isParting 80 = .ok (.aload_n 0, 1) := by decide +kernel
theorem dX4_isParting_81 : decode cX4_isParting 81 = .ok (.getfield 9, 3) := by decide +kernel
theorem dX4_isParting_84 : decode cX4_isParting 84 = .ok (.getfield 23, 3) := by decide +kernel
theorem dX4_isParting_87 : decode cX4_isParting 87 = .ok (.if_icmp .ge 33, 3) := by decide +kernel
theorem dX4_isParting_90 : decode cX4_isParting 90 = .ok (.iload_n 2, 1) := by decide +kernel
theorem dX4_isParting_91 : decode cX4_isParting 91 = .ok (.iload_n 3, 1) := by decide +kernel
theorem dX4_isParting_92 : decode cX4_isParting 92 = .ok (.invokestatic 91, 3) := by decide +kernel
theorem dX4_isParting_95 : decode cX4_isParting 95 = .ok (.iload_n 3, 1) := by decide +kernel
theorem dX4_isParting_96 : decode cX4_isParting 96 = .ok (.if_icmp .ne 18, 3) := by decide +kernel
theorem dX4_isParting_99 : decode cX4_isParting 99 = .ok (.aload_n 0, 1) := by decide +kernel
theorem dX4_isParting_100 : decode cX4_isParting 100 = .ok (.aload_n 0, 1) := by decide +kernel
theorem dX4_isParting_101 : decode cX4_isParting 101 = .ok (.iload_n 3, 1) := by decide +kernel
theorem dX4_isParting_102 : decode cX4_isParting 102 = .ok (.iload_n 2, 1) := by decide +kernel
theorem dX4_isParting_103 : decode cX4_isParting 103 = .ok (.invokevirtual 101, 3) := by decide +kernel
theorem dX4_isParting_106 : decode cX4_isParting 106 = .ok (.invokevirtual 104, 3) := by decide +kernel
theorem dX4_isParting_109 : decode cX4_isParting 109 = .ok (.ifCond .ne 5, 3) := by decide +kernel
theorem dX4_isParting_112 : decode cX4_isParting 112 = .ok (.iconst 0, 1) := by decide +kernel
theorem dX4_isParting_113 : decode cX4_isParting 113 = .ok (.ireturn, 1) := by decide +kernel
theorem dX4_isParting_114 : decode cX4_isParting 114 = .ok (.iinc 3 1, 3) := by decide +kernel
theorem dX4_isParting_117 : decode cX4_isParting 117 = .ok (.goto (-38), 3) := by decide +kernel
theorem dX4_isParting_120 : decode cX4_isParting 120 = .ok (.iconst 1, 1) := by decide +kernel
theorem dX4_isParting_121 : decode cX4_isParting 121 = .ok (.ireturn, 1) := by decide +kernel
theorem dX4_isFitting_0 : decode cX4_isFitting 0 = .ok (.iload_n 1, 1) := by decide +kernel
theorem dX4_isFitting_1 : decode cX4_isFitting 1 = .ok (.aload_n 0, 1) := by decide +kernel
theorem dX4_isFitting_2 : decode cX4_isFitting 2 = .ok (.getfield 73, 3) := by decide +kernel
theorem dX4_isFitting_5 : decode cX4_isFitting 5 = .ok (.if_icmp .lt 15, 3) := by decide +kernel
theorem dX4_isFitting_8 : decode cX4_isFitting 8 = .ok (.iload_n 1, 1) := by decide +kernel
theorem dX4_isFitting_9 : decode cX4_isFitting 9 = .ok (.aload_n 0, 1) := by decide +kernel
theorem dX4_isFitting_10 : decode cX4_isFitting 10 = .ok (.getfield 76, 3) := by decide +kernel
theorem dX4_isFitting_13 : decode cX4_isFitting 13 = .ok (.if_icmp .gt 7, 3) := by decide +kernel
theorem dX4_isFitting_16 : decode cX4_isFitting 16 = .ok (.iconst 1, 1) := by decide +kernel
theorem dX4_isFitting_17 : decode cX4_isFitting 17 = .ok (.goto 4, 3) := by decide +kernel
theorem dX4_isFitting_20 : decode cX4_isFitting 20 = .ok (.iconst 0, 1) := by decide +kernel
theorem dX4_isFitting_21 : decode cX4_isFitting 21 = .ok (.ireturn, 1) := by decide +kernel
theorem dX4_loadOf_0 : decode cX4_loadOf 0 = .ok (.iconst 0, 1) := by decide +kernel
theorem dX4_loadOf_1 : decode cX4_loadOf 1 = .ok (.istore_n 3, 1) := by decide +kernel
theorem dX4_loadOf_2 : decode cX4_loadOf 2 = .ok (.iconst 0, 1) := by decide +kernel
theorem dX4_loadOf_3 : decode cX4_loadOf 3 = .ok (.istore 4, 2) := by decide +kernel
theorem dX4_loadOf_5 : decode cX4_loadOf 5 = .ok (.iload 4, 2) := by decide +kernel
theorem dX4_loadOf_7 : decode cX4_loadOf 7 = .ok (.aload_n 0, 1) := by decide +kernel
theorem dX4_loadOf_8 : decode cX4_loadOf 8 = .ok (.getfield 9, 3) := by decide +kernel
theorem dX4_loadOf_11 : decode cX4_loadOf 11 = .ok (.getfield 23, 3) := by decide +kernel
theorem dX4_loadOf_14 : decode cX4_loadOf 14 = .ok (.if_icmp .ge 39, 3) := by decide +kernel
theorem dX4_loadOf_17 : decode cX4_loadOf 17 = .ok (.iload 4, 2) := by decide +kernel
theorem dX4_loadOf_19 : decode cX4_loadOf 19 = .ok (.bipush 8, 2) := by decide +kernel
theorem dX4_loadOf_21 : decode cX4_loadOf 21 = .ok (.if_icmp .ge 32, 3) := by decide +kernel
theorem dX4_loadOf_24 : decode cX4_loadOf 24 = .ok (.iload_n 2, 1) := by decide +kernel
theorem dX4_loadOf_25 : decode cX4_loadOf 25 = .ok (.iload 4, 2) := by decide +kernel
theorem dX4_loadOf_27 : decode cX4_loadOf 27 = .ok (.invokestatic 91, 3) := by decide +kernel
theorem dX4_loadOf_30 : decode cX4_loadOf 30 = .ok (.iload_n 1, 1) := by decide +kernel
theorem dX4_loadOf_31 : decode cX4_loadOf 31 = .ok (.if_icmp .ne 16, 3) := by decide +kernel
theorem dX4_loadOf_34 : decode cX4_loadOf 34 = .ok (.iload_n 3, 1) := by decide +kernel
theorem dX4_loadOf_35 : decode cX4_loadOf 35 = .ok (.aload_n 0, 1) := by decide +kernel
theorem dX4_loadOf_36 : decode cX4_loadOf 36 = .ok (.getfield 9, 3) := by decide +kernel
theorem dX4_loadOf_39 : decode cX4_loadOf 39 = .ok (.getfield 107, 3) := by decide +kernel
theorem dX4_loadOf_42 : decode cX4_loadOf 42 = .ok (.iload 4, 2) := by decide +kernel
theorem dX4_loadOf_44 : decode cX4_loadOf 44 = .ok (.iaload, 1) := by decide +kernel
theorem dX4_loadOf_45 : decode cX4_loadOf 45 = .ok (.iadd, 1) := by decide +kernel
theorem dX4_loadOf_46 : decode cX4_loadOf 46 = .ok (.istore_n 3, 1) := by decide +kernel
theorem dX4_loadOf_47 : decode cX4_loadOf 47 = .ok (.iinc 4 1, 3) := by decide +kernel
theorem dX4_loadOf_50 : decode cX4_loadOf 50 = .ok (.goto (-45), 3) := by decide +kernel
theorem dX4_loadOf_53 : decode cX4_loadOf 53 = .ok (.iload_n 3, 1) := by decide +kernel
theorem dX4_loadOf_54 : decode cX4_loadOf 54 = .ok (.ireturn, 1) := by decide +kernel
theorem dX4_findPairs_0 : decode cX4_findPairs 0 = .ok (.aload_n 0, 1) := by decide +kernel
theorem dX4_findPairs_1 : decode cX4_findPairs 1 = .ok (.iload_n 1, 1) := by decide +kernel
theorem dX4_findPairs_2 : decode cX4_findPairs 2 = .ok (.putfield 65, 3) := by decide +kernel
theorem dX4_findPairs_5 : decode cX4_findPairs 5 = .ok (.aload_n 0, 1) := by decide +kernel
theorem dX4_findPairs_6 : decode cX4_findPairs 6 = .ok (.iconst 0, 1) := by decide +kernel
theorem dX4_findPairs_7 : decode cX4_findPairs 7 = .ok (.iconst 0, 1) := by decide +kernel
theorem dX4_findPairs_8 : decode cX4_findPairs 8 = .ok (.iconst 0, 1) := by decide +kernel
theorem dX4_findPairs_9 : decode cX4_findPairs 9 = .ok (.invokevirtual 110, 3) := by decide +kernel
theorem dX4_findPairs_12 : decode cX4_findPairs 12 = .ok (.return_, 1) := by decide +kernel
theorem dX4_match_0 : decode cX4_match 0 = .ok (.aload_n 0, 1) := by decide +kernel
theorem dX4_match_1 : decode cX4_match 1 = .ok (.getfield 9, 3) := by decide +kernel
theorem dX4_match_4 : decode cX4_match 4 = .ok (.iload_n 1, 1) := by decide +kernel
theorem dX4_match_5 : decode cX4_match 5 = .ok (.invokevirtual 79, 3) := by decide +kernel
theorem dX4_match_8 : decode cX4_match 8 = .ok (.ifCond .ne 34, 3) := by decide +kernel
theorem dX4_match_11 : decode cX4_match 11 = .ok (.aload_n 0, 1) := by decide +kernel
theorem dX4_match_12 : decode cX4_match 12 = .ok (.getfield 65, 3) := by decide +kernel
theorem dX4_match_15 : decode cX4_match 15 = .ok (.ifCond .eq 18, 3) := by decide +kernel
theorem dX4_match_18 : decode cX4_match 18 = .ok (.iload_n 3, 1) := by decide +kernel
theorem dX4_match_19 : decode cX4_match 19 = .ok (.iconst 1, 1) := by decide +kernel
theorem dX4_match_20 : decode cX4_match 20 = .ok (.aload_n 0, 1) := by decide +kernel
theorem dX4_match_21 : decode cX4_match 21 = .ok (.getfield 9, 3) := by decide +kernel
theorem dX4_match_24 : decode cX4_match 24 = .ok (.getfield 23, 3) := by decide +kernel
theorem dX4_match_27 : decode cX4_match 27 = .ok (.ishl, 1) := by decide +kernel
theorem dX4_match_28 : decode cX4_match 28 = .ok (.iconst 1, 1) := by decide +kernel
theorem dX4_match_29 : decode cX4_match 29 = .ok (.isub, 1) := by decide +kernel
theorem dX4_match_30 : decode cX4_match 30 = .ok (.if_icmp .ne 11, 3) := by decide +kernel
theorem dX4_match_33 : decode cX4_match 33 = .ok (.aload_n 0, 1) := by decide +kernel
theorem dX4_match_34 : decode cX4_match 34 = .ok (.getfield 15, 3) := by decide +kernel
theorem dX4_match_37 : decode cX4_match 37 = .ok (.iload_n 2, 1) := by decide +kernel
theorem dX4_match_38 : decode cX4_match 38 = .ok (.invokevirtual 47, 3) := by decide +kernel
theorem dX4_match_41 : decode cX4_match 41 = .ok (.return_, 1) := by decide +kernel
theorem dX4_match_42 : decode cX4_match 42 = .ok (.aload_n 0, 1) := by decide +kernel
theorem dX4_match_43 : decode cX4_match 43 = .ok (.iload_n 1, 1) := by decide +kernel
theorem dX4_match_44 : decode cX4_match 44 = .ok (.iconst 1, 1) := by decide +kernel
theorem dX4_match_45 : decode cX4_match 45 = .ok (.iadd, 1) := by decide +kernel
theorem dX4_match_46 : decode cX4_match 46 = .ok (.iload_n 2, 1) := by decide +kernel
theorem dX4_match_47 : decode cX4_match 47 = .ok (.iload_n 3, 1) := by decide +kernel
theorem dX4_match_48 : decode cX4_match 48 = .ok (.invokevirtual 110, 3) := by decide +kernel
theorem dX4_match_51 : decode cX4_match 51 = .ok (.iconst 1, 1) := by decide +kernel
theorem dX4_match_52 : decode cX4_match 52 = .ok (.aload_n 0, 1) := by decide +kernel
theorem dX4_match_53 : decode cX4_match 53 = .ok (.getfield 9, 3) := by decide +kernel
theorem dX4_match_56 : decode cX4_match 56 = .ok (.getfield 87, 3) := by decide +kernel
theorem dX4_match_59 : decode cX4_match 59 = .ok (.iload_n 1, 1) := by decide +kernel
theorem dX4_match_60 : decode cX4_match 60 = .ok (.iaload, 1) := by decide +kernel
theorem dX4_match_61 : decode cX4_match 61 = .ok (.ishl, 1) := by decide +kernel
theorem dX4_match_62 : decode cX4_match 62 = .ok (.iconst 1, 1) := by decide +kernel
theorem dX4_match_63 : decode cX4_match 63 = .ok (.aload_n 0, 1) := by decide +kernel
theorem dX4_match_64 : decode cX4_match 64 = .ok (.getfield 9, 3) := by decide +kernel
theorem dX4_match_67 : decode cX4_match 67 = .ok (.getfield 94, 3) := by decide +kernel
theorem dX4_match_70 : decode cX4_match 70 = .ok (.iload_n 1, 1) := by decide +kernel
theorem dX4_match_71 : decode cX4_match 71 = .ok (.iaload, 1) := by decide +kernel
theorem dX4_match_72 : decode cX4_match 72 = .ok (.ishl, 1) := by decide +kernel
theorem dX4_match_73 : decode cX4_match 73 = .ok (.ior, 1) := by decide +kernel
theorem dX4_match_74 : decode cX4_match 74 = .ok (.istore 4, 2) := by decide +kernel
theorem dX4_match_76 : decode cX4_match 76 = .ok (.iload_n 3, 1) := by decide +kernel
theorem dX4_match_77 : decode cX4_match 77 = .ok (.iload 4, 2) := by decide +kernel
theorem dX4_match_79 : decode cX4_match 79 = .ok (.iand, 1) := by decide +kernel
theorem dX4_match_80 : decode cX4_match 80 = .ok (.ifCond .ne 20, 3) := by decide +kernel
theorem dX4_match_83 : decode cX4_match 83 = .ok (.aload_n 0, 1) := by decide +kernel
theorem dX4_match_84 : decode cX4_match 84 = .ok (.iload_n 1, 1) := by decide +kernel
theorem dX4_match_85 : decode cX4_match 85 = .ok (.iconst 1, 1) := by decide +kernel
theorem dX4_match_86 : decode cX4_match 86 = .ok (.iadd, 1) := by decide +kernel
theorem dX4_match_87 : decode cX4_match 87 = .ok (.iload_n 2, 1) := by decide +kernel
theorem dX4_match_88 : decode cX4_match 88 = .ok (.iload_n 1, 1) := by decide +kernel
theorem dX4_match_89 : decode cX4_match 89 = .ok (.invokestatic 59, 3) := by decide +kernel
theorem dX4_match_92 : decode cX4_match 92 = .ok (.ior, 1) := by decide +kernel
theorem dX4_match_93 : decode cX4_match 93 = .ok (.iload_n 3, 1) := by decide +kernel
theorem dX4_match_94 : decode cX4_match 94 = .ok (.iload 4, 2) := by decide +kernel
theorem dX4_match_96 : decode cX4_match 96 = .ok (.ior, 1) := by decide +kernel
theorem dX4_match_97 : decode cX4_match 97 = .ok (.invokevirtual 110, 3) := by decide +kernel
theorem dX4_match_100 : decode cX4_match 100 = .ok (.return_, 1) := by decide +kernel
theorem dX5_init_0 : decode cX5_init 0 = .ok (.aload_n 0, 1) := by decide +kernel
theorem dX5_init_1 : decode cX5_init 1 = .ok (.invokespecial 3, 3) := by decide +kernel
theorem dX5_init_4 : decode cX5_init 4 = .ok (.aload_n 0, 1) := by decide +kernel
theorem dX5_init_5 : decode cX5_init 5 = .ok (.bipush 12, 2) := by decide +kernel
theorem dX5_init_7 : decode cX5_init 7 = .ok (.newarray .int, 2) := by decide +kernel
theorem dX5_init_9 : decode cX5_init 9 = .ok (.putfield 9, 3) := by decide +kernel
theorem dX5_init_12 : decode cX5_init 12 = .ok (.aload_n 0, 1) := by decide +kernel
theorem dX5_init_13 : decode cX5_init 13 = .ok (.bipush 64, 2) := by decide +kernel
theorem dX5_init_15 : decode cX5_init 15 = .ok (.newarray .int, 2) := by decide +kernel
theorem dX5_init_17 : decode cX5_init 17 = .ok (.putfield 15, 3) := by decide +kernel
theorem dX5_init_20 : decode cX5_init 20 = .ok (.aload_n 0, 1) := by decide +kernel
theorem dX5_init_21 : decode cX5_init 21 = .ok (.bipush 64, 2) := by decide +kernel
theorem dX5_init_23 : decode cX5_init 23 = .ok (.newarray .int, 2) := by decide +kernel
theorem dX5_init_25 : decode cX5_init 25 = .ok (.putfield 18, 3) := by decide +kernel
theorem dX5_init_28 : decode cX5_init 28 = .ok (.aload_n 0, 1) := by decide +kernel
theorem dX5_init_29 : decode cX5_init 29 = .ok (.sipush 1201, 3) := by decide +kernel
theorem dX5_init_32 : decode cX5_init 32 = .ok (.newarray .int, 2) := by decide +kernel
theorem dX5_init_34 : decode cX5_init 34 = .ok (.putfield 21, 3) := by decide +kernel
theorem dX5_init_37 : decode cX5_init 37 = .ok (.return_, 1) := by decide +kernel
theorem dX5_learnWeights_0 : decode cX5_learnWeights 0 = .ok (.iconst 0, 1) := by decide +kernel
theorem dX5_learnWeights_1 : decode cX5_learnWeights 1 = .ok (.istore_n 2, 1) := by decide +kernel
theorem dX5_learnWeights_2 : decode cX5_learnWeights 2 = .ok (.iload_n 2, 1) := by decide +kernel
theorem dX5_learnWeights_3 : decode cX5_learnWeights 3 = .ok (.bipush 12, 2) := by decide +kernel
theorem dX5_learnWeights_5 : decode cX5_learnWeights 5 = .ok (.if_icmp .ge 23, 3) := by decide +kernel
theorem dX5_learnWeights_8 : decode cX5_learnWeights 8 = .ok (.aload_n 0, 1) := by decide +kernel
theorem dX5_learnWeights_9 : decode cX5_learnWeights 9 = .ok (.getfield 9, 3) := by decide +kernel
theorem dX5_learnWeights_12 : decode cX5_learnWeights 12 = .ok (.iload_n 2, 1) := by decide +kernel
theorem dX5_learnWeights_13 : decode cX5_learnWeights 13 = .ok (.aload_n 1, 1) := by decide +kernel
theorem dX5_learnWeights_14 : decode cX5_learnWeights 14 = .ok (.bipush 11, 2) := by decide +kernel
theorem dX5_learnWeights_16 : decode cX5_learnWeights 16 = .ok (.iload_n 2, 1) := by decide +kernel
theorem dX5_learnWeights_17 : decode cX5_learnWeights 17 = .ok (.isub, 1) := by decide +kernel
theorem dX5_learnWeights_18 : decode cX5_learnWeights 18 = .ok (.invokevirtual 24, 3) := by decide +kernel
theorem dX5_learnWeights_21 : decode cX5_learnWeights 21 = .ok (.iastore, 1) := by decide +kernel
theorem dX5_learnWeights_22 : decode cX5_learnWeights 22 = .ok (.iinc 2 1, 3) := by decide +kernel
theorem dX5_learnWeights_25 : decode cX5_learnWeights 25 = .ok (.goto (-23), 3) := by decide +kernel
theorem dX5_learnWeights_28 : decode cX5_learnWeights 28 = .ok (.aload_n 0, 1) := by decide +kernel
theorem dX5_learnWeights_29 : decode cX5_learnWeights 29 = .ok (.invokevirtual 30, 3) := by decide +kernel
theorem dX5_learnWeights_32 : decode cX5_learnWeights 32 = .ok (.return_, 1) := by decide +kernel
theorem dX5_learnTurn_0 : decode cX5_learnTurn 0 = .ok (.iconst 0, 1) := by decide +kernel
theorem dX5_learnTurn_1 : decode cX5_learnTurn 1 = .ok (.istore_n 2, 1) := by decide +kernel
theorem dX5_learnTurn_2 : decode cX5_learnTurn 2 = .ok (.iload_n 2, 1) := by decide +kernel
theorem dX5_learnTurn_3 : decode cX5_learnTurn 3 = .ok (.bipush 12, 2) := by decide +kernel
theorem dX5_learnTurn_5 : decode cX5_learnTurn 5 = .ok (.if_icmp .ge 31, 3) := by decide +kernel
theorem dX5_learnTurn_8 : decode cX5_learnTurn 8 = .ok (.bipush 12, 2) := by decide +kernel
theorem dX5_learnTurn_10 : decode cX5_learnTurn 10 = .ok (.iload_n 2, 1) := by decide +kernel
theorem dX5_learnTurn_11 : decode cX5_learnTurn 11 = .ok (.isub, 1) := by decide +kernel
theorem dX5_learnTurn_12 : decode cX5_learnTurn 12 = .ok (.iload_n 1, 1) := by decide +kernel
theorem dX5_learnTurn_13 : decode cX5_learnTurn 13 = .ok (.imul, 1) := by decide +kernel
theorem dX5_learnTurn_14 : decode cX5_learnTurn 14 = .ok (.bipush 13, 2) := by decide +kernel
theorem dX5_learnTurn_16 : decode cX5_learnTurn 16 = .ok (.irem, 1) := by decide +kernel
theorem dX5_learnTurn_17 : decode cX5_learnTurn 17 = .ok (.iconst 1, 1) := by decide +kernel
theorem dX5_learnTurn_18 : decode cX5_learnTurn 18 = .ok (.isub, 1) := by decide +kernel
theorem dX5_learnTurn_19 : decode cX5_learnTurn 19 = .ok (.istore_n 3, 1) := by decide +kernel
theorem dX5_learnTurn_20 : decode cX5_learnTurn 20 = .ok (.aload_n 0, 1) := by decide +kernel
theorem dX5_learnTurn_21 : decode cX5_learnTurn 21 = .ok (.getfield 9, 3) := by decide +kernel
theorem dX5_learnTurn_24 : decode cX5_learnTurn 24 = .ok (.iload_n 2, 1) := by decide +kernel
theorem dX5_learnTurn_25 : decode cX5_learnTurn 25 = .ok (.iload_n 3, 1) := by decide +kernel
theorem dX5_learnTurn_26 : decode cX5_learnTurn 26 = .ok (.invokestatic 33, 3) := by decide +kernel
theorem dX5_learnTurn_29 : decode cX5_learnTurn 29 = .ok (.iastore, 1) := by decide +kernel
theorem dX5_learnTurn_30 : decode cX5_learnTurn 30 = .ok (.iinc 2 1, 3) := by decide +kernel
theorem dX5_learnTurn_33 : decode cX5_learnTurn 33 = .ok (.goto (-31), 3) := by decide +kernel
theorem dX5_learnTurn_36 : decode cX5_learnTurn 36 = .ok (.aload_n 0, 1) := by decide +kernel
theorem dX5_learnTurn_37 : decode cX5_learnTurn 37 = .ok (.invokevirtual 30, 3) := by decide +kernel
theorem dX5_learnTurn_40 : decode cX5_learnTurn 40 = .ok (.return_, 1) := by decide +kernel
theorem dX5_learn_0 : decode cX5_learn 0 = .ok (.iconst 0, 1) := by decide +kernel
theorem dX5_learn_1 : decode cX5_learn 1 = .ok (.istore_n 1, 1) := by decide +kernel
theorem dX5_learn_2 : decode cX5_learn 2 = .ok (.iload_n 1, 1) := by decide +kernel
theorem dX5_learn_3 : decode cX5_learn 3 = .ok (.bipush 6, 2) := by decide +kernel
theorem dX5_learn_5 : decode cX5_learn 5 = .ok (.if_icmp .ge 73, 3) := by decide +kernel
theorem dX5_learn_8 : decode cX5_learn 8 = .ok (.iconst 0, 1) := by decide +kernel
theorem dX5_learn_9 : decode cX5_learn 9 = .ok (.istore_n 2, 1) := by decide +kernel
theorem dX5_learn_10 : decode cX5_learn 10 = .ok (.iload_n 2, 1) := by decide +kernel
theorem dX5_learn_11 : decode cX5_learn 11 = .ok (.iconst 1, 1) := by decide +kernel
theorem dX5_learn_12 : decode cX5_learn 12 = .ok (.iload_n 1, 1) := by decide +kernel
theorem dX5_learn_13 : decode cX5_learn 13 = .ok (.ishl, 1) := by decide +kernel
theorem dX5_learn_14 : decode cX5_learn 14 = .ok (.if_icmp .ge 58, 3) := by decide +kernel
theorem dX5_learn_17 : decode cX5_learn 17 = .ok (.aload_n 0, 1) := by decide +kernel
theorem dX5_learn_18 : decode cX5_learn 18 = .ok (.getfield 15, 3) := by decide +kernel
theorem dX5_learn_21 : decode cX5_learn 21 = .ok (.iconst 1, 1) := by decide +kernel
theorem dX5_learn_22 : decode cX5_learn 22 = .ok (.iload_n 1, 1) := by decide +kernel
theorem dX5_learn_23 : decode cX5_learn 23 = .ok (.ishl, 1) := by decide +kernel
theorem dX5_learn_24 : decode cX5_learn 24 = .ok (.iload_n 2, 1) := by decide +kernel
theorem dX5_learn_25 : decode cX5_learn 25 = .ok (.iadd, 1) := by decide +kernel
theorem dX5_learn_26 : decode cX5_learn 26 = .ok (.aload_n 0, 1) := by decide +kernel
theorem dX5_learn_27 : decode cX5_learn 27 = .ok (.getfield 15, 3) := by decide +kernel
theorem dX5_learn_30 : decode cX5_learn 30 = .ok (.iload_n 2, 1) := by decide +kernel
theorem dX5_learn_31 : decode cX5_learn 31 = .ok (.iaload, 1) := by decide +kernel
theorem dX5_learn_32 : decode cX5_learn 32 = .ok (.aload_n 0, 1) := by decide +kernel
theorem dX5_learn_33 : decode cX5_learn 33 = .ok (.getfield 9, 3) := by decide +kernel
theorem dX5_learn_36 : decode cX5_learn 36 = .ok (.iload_n 1, 1) := by decide +kernel
theorem dX5_learn_37 : decode cX5_learn 37 = .ok (.iaload, 1) := by decide +kernel
theorem dX5_learn_38 : decode cX5_learn 38 = .ok (.iadd, 1) := by decide +kernel
theorem dX5_learn_39 : decode cX5_learn 39 = .ok (.iastore, 1) := by decide +kernel
theorem dX5_learn_40 : decode cX5_learn 40 = .ok (.aload_n 0, 1) := by decide +kernel
theorem dX5_learn_41 : decode cX5_learn 41 = .ok (.getfield 18, 3) := by decide +kernel
theorem dX5_learn_44 : decode cX5_learn 44 = .ok (.iconst 1, 1) := by decide +kernel
theorem dX5_learn_45 : decode cX5_learn 45 = .ok (.iload_n 1, 1) := by decide +kernel
theorem dX5_learn_46 : decode cX5_learn 46 = .ok (.ishl, 1) := by decide +kernel
theorem dX5_learn_47 : decode cX5_learn 47 = .ok (.iload_n 2, 1) := by decide +kernel
theorem dX5_learn_48 : decode cX5_learn 48 = .ok (.iadd, 1) := by decide +kernel
theorem dX5_learn_49 : decode cX5_learn 49 = .ok (.aload_n 0, 1) := by decide +kernel
theorem dX5_learn_50 : decode cX5_learn 50 = .ok (.getfield 18, 3) := by decide +kernel
theorem dX5_learn_53 : decode cX5_learn 53 = .ok (.iload_n 2, 1) := by decide +kernel
theorem dX5_learn_54 : decode cX5_learn 54 = .ok (.iaload, 1) := by decide +kernel
theorem dX5_learn_55 : decode cX5_learn 55 = .ok (.aload_n 0, 1) := by decide +kernel
theorem dX5_learn_56 : decode cX5_learn 56 = .ok (.getfield 9, 3) := by decide +kernel
theorem dX5_learn_59 : decode cX5_learn 59 = .ok (.iload_n 1, 1) := by decide +kernel
theorem dX5_learn_60 : decode cX5_learn 60 = .ok (.bipush 6, 2) := by decide +kernel
theorem dX5_learn_62 : decode cX5_learn 62 = .ok (.iadd, 1) := by decide +kernel
theorem dX5_learn_63 : decode cX5_learn 63 = .ok (.iaload, 1) := by decide +kernel
theorem dX5_learn_64 : decode cX5_learn 64 = .ok (.iadd, 1) := by decide +kernel
theorem dX5_learn_65 : decode cX5_learn 65 = .ok (.iastore, 1) := by decide +kernel
theorem dX5_learn_66 : decode cX5_learn 66 = .ok (.iinc 2 1, 3) := by decide +kernel
theorem dX5_learn_69 : decode cX5_learn 69 = .ok (.goto (-59), 3) := by decide +kernel
theorem dX5_learn_72 : decode cX5_learn 72 = .ok (.iinc 1 1, 3) := by decide +kernel
theorem dX5_learn_75 : decode cX5_learn 75 = .ok (.goto (-73), 3) := by decide +kernel
theorem dX5_learn_78 : decode cX5_learn 78 = .ok (.return_, 1) := by decide +kernel
theorem dX5_of_0 : decode cX5_of 0 = .ok (.aload_n 0, 1) := by decide +kernel
theorem dX5_of_1 : decode cX5_of 1 = .ok (.getfield 15, 3) := by decide +kernel
theorem dX5_of_4 : decode cX5_of 4 = .ok (.iload_n 1, 1) := by decide +kernel
theorem dX5_of_5 : decode cX5_of 5 = .ok (.bipush 63, 2) := by decide +kernel
theorem dX5_of_7 : decode cX5_of 7 = .ok (.iand, 1) := by decide +kernel
theorem dX5_of_8 : decode cX5_of 8 = .ok (.iaload, 1) := by decide +kernel
theorem dX5_of_9 : decode cX5_of 9 = .ok (.aload_n 0, 1) := by decide +kernel
theorem dX5_of_10 : decode cX5_of 10 = .ok (.getfield 18, 3) := by decide +kernel
theorem dX5_of_13 : decode cX5_of 13 = .ok (.iload_n 1, 1) := by decide +kernel
theorem dX5_of_14 : decode cX5_of 14 = .ok (.bipush 6, 2) := by decide +kernel
theorem dX5_of_16 : decode cX5_of 16 = .ok (.ishr, 1) := by decide +kernel
theorem dX5_of_17 : decode cX5_of 17 = .ok (.bipush 63, 2) := by decide +kernel
theorem dX5_of_19 : decode cX5_of 19 = .ok (.iand, 1) := by decide +kernel
theorem dX5_of_20 : decode cX5_of 20 = .ok (.iaload, 1) := by decide +kernel
theorem dX5_of_21 : decode cX5_of 21 = .ok (.iadd, 1) := by decide +kernel
theorem dX5_of_22 : decode cX5_of 22 = .ok (.ireturn, 1) := by decide +kernel
theorem dX5_nthBest_0 : decode cX5_nthBest 0 = .ok (.aload_n 0, 1) := by decide +kernel
theorem dX5_nthBest_1 : decode cX5_nthBest 1 = .ok (.aload_n 1, 1) := by decide +kernel
theorem dX5_nthBest_2 : decode cX5_nthBest 2 = .ok (.iload_n 2, 1) := by decide +kernel
theorem dX5_nthBest_3 : decode cX5_nthBest 3 = .ok (.invokevirtual 36, 3) := by decide +kernel
theorem dX5_nthBest_6 : decode cX5_nthBest 6 = .ok (.iload 4, 2) := by decide +kernel
theorem dX5_nthBest_8 : decode cX5_nthBest 8 = .ok (.istore 5, 2) := by decide +kernel
theorem dX5_nthBest_10 : decode cX5_nthBest 10 = .ok (.iconst 0, 1) := by decide +kernel
theorem dX5_nthBest_11 : decode cX5_nthBest 11 = .ok (.istore 6, 2) := by decide +kernel
theorem dX5_nthBest_13 : decode cX5_nthBest 13 = .ok (.iload 6, 2) := by decide +kernel
theorem dX5_nthBest_15 : decode cX5_nthBest 15 = .ok (.aload_n 0, 1) := by decide +kernel
theorem dX5_nthBest_16 : decode cX5_nthBest 16 = .ok (.getfield 21, 3) := by decide +kernel
theorem dX5_nthBest_19 : decode cX5_nthBest 19 = .ok (.arraylength, 1) := by decide +kernel
theorem dX5_nthBest_20 : decode cX5_nthBest 20 = .ok (.if_icmp .ge 74, 3) := by decide +kernel
theorem dX5_nthBest_23 : decode cX5_nthBest 23 = .ok (.iload 5, 2) := by decide +kernel
theorem dX5_nthBest_25 : decode cX5_nthBest 25 = .ok (.ifCond .lt 69, 3) := by decide +kernel
theorem dX5_nthBest_28 : decode cX5_nthBest 28 = .ok (.iload_n 3, 1) := by decide +kernel
theorem dX5_nthBest_29 : decode cX5_nthBest 29 = .ok (.ifCond .eq 16, 3) := by decide +kernel
theorem dX5_nthBest_32 : decode cX5_nthBest 32 = .ok (.aload_n 0, 1) := by decide +kernel
theorem dX5_nthBest_33 : decode cX5_nthBest 33 = .ok (.getfield 21, 3) := by decide +kernel
theorem dX5_nthBest_36 : decode cX5_nthBest 36 = .ok (.arraylength, 1) := by decide +kernel
theorem dX5_nthBest_37 : decode cX5_nthBest 37 = .ok (.iconst 1, 1) := by decide +kernel
theorem dX5_nthBest_38 : decode cX5_nthBest 38 = .ok (.isub, 1) := by decide +kernel
theorem dX5_nthBest_39 : decode cX5_nthBest 39 = .ok (.iload 6, 2) := by decide +kernel
theorem dX5_nthBest_41 : decode cX5_nthBest 41 = .ok (.isub, 1) := by decide +kernel
theorem dX5_nthBest_42 : decode cX5_nthBest 42 = .ok (.goto 5, 3) := by decide +kernel
theorem dX5_nthBest_45 : decode cX5_nthBest 45 = .ok (.iload 6, 2) := by decide +kernel
theorem dX5_nthBest_47 : decode cX5_nthBest 47 = .ok (.istore 7, 2) := by decide +kernel
theorem dX5_nthBest_49 : decode cX5_nthBest 49 = .ok (.iload 5, 2) := by decide +kernel
theorem dX5_nthBest_51 : decode cX5_nthBest 51 = .ok (.aload_n 0, 1) := by decide +kernel
theorem dX5_nthBest_52 : decode cX5_nthBest 52 = .ok (.getfield 21, 3) := by decide +kernel
theorem dX5_nthBest_55 : decode cX5_nthBest 55 = .ok (.iload 7, 2) := by decide +kernel
theorem dX5_nthBest_57 : decode cX5_nthBest 57 = .ok (.iaload, 1) := by decide +kernel
theorem dX5_nthBest_58 : decode cX5_nthBest 58 = .ok (.if_icmp .ge 18, 3) := by decide +kernel
theorem dX5_nthBest_61 : decode cX5_nthBest 61 = .ok (.aload_n 0, 1) := by decide +kernel
theorem dX5_nthBest_62 : decode cX5_nthBest 62 = .ok (.aload_n 1, 1) := by decide +kernel
theorem dX5_nthBest_63 : decode cX5_nthBest 63 = .ok (.iload_n 2, 1) := by decide +kernel
theorem dX5_nthBest_64 : decode cX5_nthBest 64 = .ok (.iload 7, 2) := by decide +kernel
theorem dX5_nthBest_66 : decode cX5_nthBest 66 = .ok (.sipush 600, 3) := by decide +kernel
theorem dX5_nthBest_69 : decode cX5_nthBest 69 = .ok (.isub, 1) := by decide +kernel
theorem dX5_nthBest_70 : decode cX5_nthBest 70 = .ok (.iload 5, 2) := by decide +kernel
theorem dX5_nthBest_72 : decode cX5_nthBest 72 = .ok (.invokevirtual 40, 3) := by decide +kernel
theorem dX5_nthBest_75 : decode cX5_nthBest 75 = .ok (.ireturn, 1) := by decide +kernel
theorem dX5_nthBest_76 : decode cX5_nthBest 76 = .ok (.iload 5, 2) := by decide +kernel
theorem dX5_nthBest_78 : decode cX5_nthBest 78 = .ok (.aload_n 0, 1) := by decide +kernel
theorem dX5_nthBest_79 : decode cX5_nthBest 79 = .ok (.getfield 21, 3) := by decide +kernel
theorem dX5_nthBest_82 : decode cX5_nthBest 82 = .ok (.iload 7, 2) := by decide +kernel
theorem dX5_nthBest_84 : decode cX5_nthBest 84 = .ok (.iaload, 1) := by decide +kernel
theorem dX5_nthBest_85 : decode cX5_nthBest 85 = .ok (.isub, 1) := by decide +kernel
theorem dX5_nthBest_86 : decode cX5_nthBest 86 = .ok (.istore 5, 2) := by decide +kernel
theorem dX5_nthBest_88 : decode cX5_nthBest 88 = .ok (.iinc 6 1, 3) := by decide +kernel
theorem dX5_nthBest_91 : decode cX5_nthBest 91 = .ok (.goto (-78), 3) := by decide +kernel
theorem dX5_nthBest_94 : decode cX5_nthBest 94 = .ok (.iconst (-1), 1) := by decide +kernel
theorem dX5_nthBest_95 : decode cX5_nthBest 95 = .ok (.ireturn, 1) := by decide +kernel
theorem dX5_countSums_0 : decode cX5_countSums 0 = .ok (.aload_n 0, 1) := by decide +kernel
theorem dX5_countSums_1 : decode cX5_countSums 1 = .ok (.getfield 21, 3) := by decide +kernel
theorem dX5_countSums_4 : decode cX5_countSums 4 = .ok (.iconst 0, 1) := by decide +kernel
theorem dX5_countSums_5 : decode cX5_countSums 5 = .ok (.invokestatic 44, 3) := by decide +kernel
theorem dX5_countSums_8 : decode cX5_countSums 8 = .ok (.iconst 0, 1) := by decide +kernel
theorem dX5_countSums_9 : decode cX5_countSums 9 = .ok (.istore_n 3, 1) := by decide +kernel
theorem dX5_countSums_10 : decode cX5_countSums 10 = .ok (.iload_n 3, 1) := by decide +kernel
theorem dX5_countSums_11 : decode cX5_countSums 11 = .ok (.iload_n 2, 1) := by decide +kernel
theorem dX5_countSums_12 : decode cX5_countSums 12 = .ok (.if_icmp .ge 54, 3) := by decide +kernel
theorem dX5_countSums_15 : decode cX5_countSums 15 = .ok (.iload_n 3, 1) := by decide +kernel
theorem dX5_countSums_16 : decode cX5_countSums 16 = .ok (.aload_n 1, 1) := by decide +kernel
theorem dX5_countSums_17 : decode cX5_countSums 17 = .ok (.arraylength, 1) := by decide +kernel
theorem dX5_countSums_18 : decode cX5_countSums 18 = .ok (.if_icmp .ge 48, 3) := by decide +kernel
theorem dX5_countSums_21 : decode cX5_countSums 21 = .ok (.aload_n 0, 1) := by decide +kernel
theorem dX5_countSums_22 : decode cX5_countSums 22 = .ok (.aload_n 1, 1) := by decide +kernel
theorem dX5_countSums_23 : decode cX5_countSums 23 = .ok (.iload_n 3, 1) := by decide +kernel
theorem dX5_countSums_24 : decode cX5_countSums 24 = .ok (.iaload, 1) := by decide +kernel
theorem dX5_countSums_25 : decode cX5_countSums 25 = .ok (.invokevirtual 49, 3) := by decide +kernel
theorem dX5_countSums_28 : decode cX5_countSums 28 = .ok (.sipush 600, 3) := by decide +kernel
theorem dX5_countSums_31 : decode cX5_countSums 31 = .ok (.iadd, 1) := by decide +kernel
theorem dX5_countSums_32 : decode cX5_countSums 32 = .ok (.istore 4, 2) := by decide +kernel
theorem dX5_countSums_34 : decode cX5_countSums 34 = .ok (.iload 4, 2) := by decide +kernel
theorem dX5_countSums_36 : decode cX5_countSums 36 = .ok (.ifCond .lt 24, 3) := by decide +kernel
theorem dX5_countSums_39 : decode cX5_countSums 39 = .ok (.iload 4, 2) := by decide +kernel
theorem dX5_countSums_41 : decode cX5_countSums 41 = .ok (.aload_n 0, 1) := by decide +kernel
theorem dX5_countSums_42 : decode cX5_countSums 42 = .ok (.getfield 21, 3) := by decide +kernel
theorem dX5_countSums_45 : decode cX5_countSums 45 = .ok (.arraylength, 1) := by decide +kernel
theorem dX5_countSums_46 : decode cX5_countSums 46 = .ok (.if_icmp .ge 14, 3) := by decide +kernel
theorem dX5_countSums_49 : decode cX5_countSums 49 = .ok (.aload_n 0, 1) := by decide +kernel
theorem dX5_countSums_50 : decode cX5_countSums 50 = .ok (.getfield 21, 3) := by decide +kernel
theorem dX5_countSums_53 : decode cX5_countSums 53 = .ok (.iload 4, 2) := by decide +kernel
theorem dX5_countSums_55 : decode cX5_countSums 55 = .ok (.dup2, 1) := by decide +kernel
theorem dX5_countSums_56 : decode cX5_countSums 56 = .ok (.iaload, 1) := by decide +kernel
theorem dX5_countSums_57 : decode cX5_countSums 57 = .ok (.iconst 1, 1) := by decide +kernel
theorem dX5_countSums_58 : decode cX5_countSums 58 = .ok (.iadd, 1) := by decide +kernel
theorem dX5_countSums_59 : decode cX5_countSums 59 = .ok (.iastore, 1) := by decide +kernel
theorem dX5_countSums_60 : decode cX5_countSums 60 = .ok (.iinc 3 1, 3) := by decide +kernel
theorem dX5_countSums_63 : decode cX5_countSums 63 = .ok (.goto (-53), 3) := by decide +kernel
theorem dX5_countSums_66 : decode cX5_countSums 66 = .ok (.return_, 1) := by decide +kernel
theorem dX5_nthOfSum_0 : decode cX5_nthOfSum 0 = .ok (.iload 4, 2) := by decide +kernel
theorem dX5_nthOfSum_2 : decode cX5_nthOfSum 2 = .ok (.istore 5, 2) := by decide +kernel
theorem dX5_nthOfSum_4 : decode cX5_nthOfSum 4 = .ok (.iconst 0, 1) := by decide +kernel
theorem dX5_nthOfSum_5 : decode cX5_nthOfSum 5 = .ok (.istore 6, 2) := by decide +kernel
theorem dX5_nthOfSum_7 : decode cX5_nthOfSum 7 = .ok (.iload 6, 2) := by decide +kernel
theorem dX5_nthOfSum_9 : decode cX5_nthOfSum 9 = .ok (.iload_n 2, 1) := by decide +kernel
theorem dX5_nthOfSum_10 : decode cX5_nthOfSum 10 = .ok (.if_icmp .ge 41, 3) := by decide +kernel
theorem dX5_nthOfSum_13 : decode cX5_nthOfSum 13 = .ok (.iload 6, 2) := by decide +kernel
theorem dX5_nthOfSum_15 : decode cX5_nthOfSum 15 = .ok (.aload_n 1, 1) := by decide +kernel
theorem dX5_nthOfSum_16 : decode cX5_nthOfSum 16 = .ok (.arraylength, 1) := by decide +kernel
theorem dX5_nthOfSum_17 : decode cX5_nthOfSum 17 = .ok (.if_icmp .ge 34, 3) := by decide +kernel
theorem dX5_nthOfSum_20 : decode cX5_nthOfSum 20 = .ok (.aload_n 0, 1) := by decide +kernel
theorem dX5_nthOfSum_21 : decode cX5_nthOfSum 21 = .ok (.aload_n 1, 1) := by decide +kernel
theorem dX5_nthOfSum_22 : decode cX5_nthOfSum 22 = .ok (.iload 6, 2) := by decide +kernel
theorem dX5_nthOfSum_24 : decode cX5_nthOfSum 24 = .ok (.iaload, 1) := by decide +kernel
theorem dX5_nthOfSum_25 : decode cX5_nthOfSum 25 = .ok (.invokevirtual 49, 3) := by decide +kernel
theorem dX5_nthOfSum_28 : decode cX5_nthOfSum 28 = .ok (.iload_n 3, 1) := by decide +kernel
theorem dX5_nthOfSum_29 : decode cX5_nthOfSum 29 = .ok (.if_icmp .ne 16, 3) := by decide +kernel
theorem dX5_nthOfSum_32 : decode cX5_nthOfSum 32 = .ok (.iload 5, 2) := by decide +kernel
theorem dX5_nthOfSum_34 : decode cX5_nthOfSum 34 = .ok (.ifCond .ne 8, 3) := by decide +kernel
theorem dX5_nthOfSum_37 : decode cX5_nthOfSum 37 = .ok (.aload_n 1, 1) := by decide +kernel
theorem dX5_nthOfSum_38 : decode cX5_nthOfSum 38 = .ok (.iload 6, 2) := by decide +kernel
theorem dX5_nthOfSum_40 : decode cX5_nthOfSum 40 = .ok (.iaload, 1) := by decide +kernel
theorem dX5_nthOfSum_41 : decode cX5_nthOfSum 41 = .ok (.ireturn, 1) := by decide +kernel
theorem dX5_nthOfSum_42 : decode cX5_nthOfSum 42 = .ok (.iinc 5 (-1), 3) := by decide +kernel
theorem dX5_nthOfSum_45 : decode cX5_nthOfSum 45 = .ok (.iinc 6 1, 3) := by decide +kernel
theorem dX5_nthOfSum_48 : decode cX5_nthOfSum 48 = .ok (.goto (-41), 3) := by decide +kernel
theorem dX5_nthOfSum_51 : decode cX5_nthOfSum 51 = .ok (.iconst (-1), 1) := by decide +kernel
theorem dX5_nthOfSum_52 : decode cX5_nthOfSum 52 = .ok (.ireturn, 1) := by decide +kernel
theorem dX6_init_0 : decode cX6_init 0 = .ok (.aload_n 0, 1) := by decide +kernel
theorem dX6_init_1 : decode cX6_init 1 = .ok (.invokespecial 3, 3) := by decide +kernel
theorem dX6_init_4 : decode cX6_init 4 = .ok (.aload_n 0, 1) := by decide +kernel
theorem dX6_init_5 : decode cX6_init 5 = .ok (.sipush 4096, 3) := by decide +kernel
theorem dX6_init_8 : decode cX6_init 8 = .ok (.newarray .long, 2) := by decide +kernel
theorem dX6_init_10 : decode cX6_init 10 = .ok (.putfield 9, 3) := by decide +kernel
theorem dX6_init_13 : decode cX6_init 13 = .ok (.aload_n 0, 1) := by decide +kernel
theorem dX6_init_14 : decode cX6_init 14 = .ok (.sipush 4096, 3) := by decide +kernel
theorem dX6_init_17 : decode cX6_init 17 = .ok (.newarray .long, 2) := by decide +kernel
theorem dX6_init_19 : decode cX6_init 19 = .ok (.putfield 15, 3) := by decide +kernel
theorem dX6_init_22 : decode cX6_init 22 = .ok (.return_, 1) := by decide +kernel
theorem dX6_unite_0 : decode cX6_unite 0 = .ok (.aload_n 2, 1) := by decide +kernel
theorem dX6_unite_1 : decode cX6_unite 1 = .ok (.invokevirtual 18, 3) := by decide +kernel
theorem dX6_unite_4 : decode cX6_unite 4 = .ok (.aload_n 3, 1) := by decide +kernel
theorem dX6_unite_5 : decode cX6_unite 5 = .ok (.invokevirtual 18, 3) := by decide +kernel
theorem dX6_unite_8 : decode cX6_unite 8 = .ok (.ior, 1) := by decide +kernel
theorem dX6_unite_9 : decode cX6_unite 9 = .ok (.invokestatic 24, 3) := by decide +kernel
theorem dX6_unite_12 : decode cX6_unite 12 = .ok (.istore 4, 2) := by decide +kernel
theorem dX6_unite_14 : decode cX6_unite 14 = .ok (.sipush 4096, 3) := by decide +kernel
theorem dX6_unite_17 : decode cX6_unite 17 = .ok (.iload 4, 2) := by decide +kernel
theorem dX6_unite_19 : decode cX6_unite 19 = .ok (.ishr, 1) := by decide +kernel
theorem dX6_unite_20 : decode cX6_unite 20 = .ok (.istore 5, 2) := by decide +kernel
theorem dX6_unite_22 : decode cX6_unite 22 = .ok (.iconst 0, 1) := by decide +kernel
theorem dX6_unite_23 : decode cX6_unite 23 = .ok (.istore 6, 2) := by decide +kernel
theorem dX6_unite_25 : decode cX6_unite 25 = .ok (.iload 6, 2) := by decide +kernel
theorem dX6_unite_27 : decode cX6_unite 27 = .ok (.iload 5, 2) := by decide +kernel
theorem dX6_unite_29 : decode cX6_unite 29 = .ok (.if_icmp .ge 65, 3) := by decide +kernel
theorem dX6_unite_32 : decode cX6_unite 32 = .ok (.iload 6, 2) := by decide +kernel
theorem dX6_unite_34 : decode cX6_unite 34 = .ok (.sipush 4096, 3) := by decide +kernel
theorem dX6_unite_37 : decode cX6_unite 37 = .ok (.if_icmp .ge 57, 3) := by decide +kernel
theorem dX6_unite_40 : decode cX6_unite 40 = .ok (.aload_n 0, 1) := by decide +kernel
theorem dX6_unite_41 : decode cX6_unite 41 = .ok (.getfield 9, 3) := by decide +kernel
theorem dX6_unite_44 : decode cX6_unite 44 = .ok (.iload 6, 2) := by decide +kernel
theorem dX6_unite_46 : decode cX6_unite 46 = .ok (.aload_n 2, 1) := by decide +kernel
theorem dX6_unite_47 : decode cX6_unite 47 = .ok (.iload 6, 2) := by decide +kernel
theorem dX6_unite_49 : decode cX6_unite 49 = .ok (.iload 4, 2) := by decide +kernel
theorem dX6_unite_51 : decode cX6_unite 51 = .ok (.ishl, 1) := by decide +kernel
theorem dX6_unite_52 : decode cX6_unite 52 = .ok (.invokevirtual 28, 3) := by decide +kernel
theorem dX6_unite_55 : decode cX6_unite 55 = .ok (.ifCond .eq 7, 3) := by decide +kernel
theorem dX6_unite_58 : decode cX6_unite 58 = .ok (.lconst 1, 1) := by decide +kernel
theorem dX6_unite_59 : decode cX6_unite 59 = .ok (.goto 4, 3) := by decide +kernel
theorem dX6_unite_62 : decode cX6_unite 62 = .ok (.lconst 0, 1) := by decide +kernel
theorem dX6_unite_63 : decode cX6_unite 63 = .ok (.lastore, 1) := by decide +kernel
theorem dX6_unite_64 : decode cX6_unite 64 = .ok (.aload_n 0, 1) := by decide +kernel
theorem dX6_unite_65 : decode cX6_unite 65 = .ok (.getfield 15, 3) := by decide +kernel
theorem dX6_unite_68 : decode cX6_unite 68 = .ok (.iload 6, 2) := by decide +kernel
theorem dX6_unite_70 : decode cX6_unite 70 = .ok (.aload_n 3, 1) := by decide +kernel
theorem dX6_unite_71 : decode cX6_unite 71 = .ok (.iload 6, 2) := by decide +kernel
theorem dX6_unite_73 : decode cX6_unite 73 = .ok (.iload 4, 2) := by decide +kernel
theorem dX6_unite_75 : decode cX6_unite 75 = .ok (.ishl, 1) := by decide +kernel
theorem dX6_unite_76 : decode cX6_unite 76 = .ok (.invokevirtual 28, 3) := by decide +kernel
theorem dX6_unite_79 : decode cX6_unite 79 = .ok (.ifCond .eq 7, 3) := by decide +kernel
theorem dX6_unite_82 : decode cX6_unite 82 = .ok (.lconst 1, 1) := by decide +kernel
theorem dX6_unite_83 : decode cX6_unite 83 = .ok (.goto 4, 3) := by decide +kernel
theorem dX6_unite_86 : decode cX6_unite 86 = .ok (.lconst 0, 1) := by decide +kernel
theorem dX6_unite_87 : decode cX6_unite 87 = .ok (.lastore, 1) := by decide +kernel
theorem dX6_unite_88 : decode cX6_unite 88 = .ok (.iinc 6 1, 3) := by decide +kernel
theorem dX6_unite_91 : decode cX6_unite 91 = .ok (.goto (-66), 3) := by decide +kernel
theorem dX6_unite_94 : decode cX6_unite 94 = .ok (.aload_n 0, 1) := by decide +kernel
theorem dX6_unite_95 : decode cX6_unite 95 = .ok (.getfield 9, 3) := by decide +kernel
theorem dX6_unite_98 : decode cX6_unite 98 = .ok (.iload 5, 2) := by decide +kernel
theorem dX6_unite_100 : decode cX6_unite 100 = .ok (.iconst 1, 1) := by decide +kernel
theorem dX6_unite_101 : decode cX6_unite 101 = .ok (.invokestatic 32, 3) := by decide +kernel
theorem dX6_unite_104 : decode cX6_unite 104 = .ok (.aload_n 0, 1) := by decide +kernel
theorem dX6_unite_105 : decode cX6_unite 105 = .ok (.getfield 15, 3) := by decide +kernel
theorem dX6_unite_108 : decode cX6_unite 108 = .ok (.iload 5, 2) := by decide +kernel
theorem dX6_unite_110 : decode cX6_unite 110 = .ok (.iconst 1, 1) := by decide +kernel
theorem dX6_unite_111 : decode cX6_unite 111 = .ok (.invokestatic 32, 3) := by decide +kernel
theorem dX6_unite_114 : decode cX6_unite 114 = .ok (.iconst 0, 1) := by decide +kernel
theorem dX6_unite_115 : decode cX6_unite 115 = .ok (.istore 6, 2) := by decide +kernel
theorem dX6_unite_117 : decode cX6_unite 117 = .ok (.iload 6, 2) := by decide +kernel
theorem dX6_unite_119 : decode cX6_unite 119 = .ok (.iload 5, 2) := by decide +kernel
theorem dX6_unite_121 : decode cX6_unite 121 = .ok (.if_icmp .ge 34, 3) := by decide +kernel
theorem dX6_unite_124 : decode cX6_unite 124 = .ok (.iload 6, 2) := by decide +kernel
theorem dX6_unite_126 : decode cX6_unite 126 = .ok (.sipush 4096, 3) := by decide +kernel
theorem dX6_unite_129 : decode cX6_unite 129 = .ok (.if_icmp .ge 26, 3) := by decide +kernel
theorem dX6_unite_132 : decode cX6_unite 132 = .ok (.aload_n 0, 1) := by decide +kernel
theorem dX6_unite_133 : decode cX6_unite 133 = .ok (.getfield 9, 3) := by decide +kernel
theorem dX6_unite_136 : decode cX6_unite 136 = .ok (.iload 6, 2) := by decide +kernel
theorem dX6_unite_138 : decode cX6_unite 138 = .ok (.dup2, 1) := by decide +kernel
theorem dX6_unite_139 : decode cX6_unite 139 = .ok (.laload, 1) := by decide +kernel
theorem dX6_unite_140 : decode cX6_unite 140 = .ok (.aload_n 0, 1) := by decide +kernel
theorem dX6_unite_141 : decode cX6_unite 141 = .ok (.getfield 15, 3) := by decide +kernel
theorem dX6_unite_144 : decode cX6_unite 144 = .ok (.iload 6, 2) := by decide +kernel
theorem dX6_unite_146 : decode cX6_unite 146 = .ok (.laload, 1) := by decide +kernel
theorem dX6_unite_147 : decode cX6_unite 147 = .ok (.lmul, 1) := by decide +kernel
theorem dX6_unite_148 : decode cX6_unite 148 = .ok (.lastore, 1) := by decide +kernel
theorem dX6_unite_149 : decode cX6_unite 149 = .ok (.iinc 6 1, 3) := by decide +kernel
theorem dX6_unite_152 : decode cX6_unite 152 = .ok (.goto (-35), 3) := by decide +kernel
theorem dX6_unite_155 : decode cX6_unite 155 = .ok (.aload_n 0, 1) := by decide +kernel
theorem dX6_unite_156 : decode cX6_unite 156 = .ok (.getfield 9, 3) := by decide +kernel
theorem dX6_unite_159 : decode cX6_unite 159 = .ok (.iload 5, 2) := by decide +kernel
theorem dX6_unite_161 : decode cX6_unite 161 = .ok (.iconst (-1), 1) := by decide +kernel
theorem dX6_unite_162 : decode cX6_unite 162 = .ok (.invokestatic 32, 3) := by decide +kernel
theorem dX6_unite_165 : decode cX6_unite 165 = .ok (.aload_n 1, 1) := by decide +kernel
theorem dX6_unite_166 : decode cX6_unite 166 = .ok (.iconst 0, 1) := by decide +kernel
theorem dX6_unite_167 : decode cX6_unite 167 = .ok (.invokevirtual 36, 3) := by decide +kernel
theorem dX6_unite_170 : decode cX6_unite 170 = .ok (.iconst 0, 1) := by decide +kernel
theorem dX6_unite_171 : decode cX6_unite 171 = .ok (.istore 6, 2) := by decide +kernel
theorem dX6_unite_173 : decode cX6_unite 173 = .ok (.iload 6, 2) := by decide +kernel
theorem dX6_unite_175 : decode cX6_unite 175 = .ok (.iload 5, 2) := by decide +kernel
theorem dX6_unite_177 : decode cX6_unite 177 = .ok (.if_icmp .ge 38, 3) := by decide +kernel
theorem dX6_unite_180 : decode cX6_unite 180 = .ok (.iload 6, 2) := by decide +kernel
theorem dX6_unite_182 : decode cX6_unite 182 = .ok (.sipush 4096, 3) := by decide +kernel
theorem dX6_unite_185 : decode cX6_unite 185 = .ok (.if_icmp .ge 30, 3) := by decide +kernel
theorem dX6_unite_188 : decode cX6_unite 188 = .ok (.aload_n 0, 1) := by decide +kernel
theorem dX6_unite_189 : decode cX6_unite 189 = .ok (.getfield 9, 3) := by decide +kernel
theorem dX6_unite_192 : decode cX6_unite 192 = .ok (.iload 6, 2) := by decide +kernel
theorem dX6_unite_194 : decode cX6_unite 194 = .ok (.laload, 1) := by decide +kernel
theorem dX6_unite_195 : decode cX6_unite 195 = .ok (.lconst 0, 1) := by decide +kernel
theorem dX6_unite_196 : decode cX6_unite 196 = .ok (.lcmp, 1) := by decide +kernel
theorem dX6_unite_197 : decode cX6_unite 197 = .ok (.ifCond .eq 12, 3) := by decide +kernel
theorem dX6_unite_200 : decode cX6_unite 200 = .ok (.aload_n 1, 1) := by decide +kernel
theorem dX6_unite_201 : decode cX6_unite 201 = .ok (.iload 6, 2) := by decide +kernel
theorem dX6_unite_203 : decode cX6_unite 203 = .ok (.iload 4, 2) := by decide +kernel
theorem dX6_unite_205 : decode cX6_unite 205 = .ok (.ishl, 1) := by decide +kernel
theorem dX6_unite_206 : decode cX6_unite 206 = .ok (.invokevirtual 40, 3) := by decide +kernel
theorem dX6_unite_209 : decode cX6_unite 209 = .ok (.iinc 6 1, 3) := by decide +kernel
theorem dX6_unite_212 : decode cX6_unite 212 = .ok (.goto (-39), 3) := by decide +kernel
theorem dX6_unite_215 : decode cX6_unite 215 = .ok (.return_, 1) := by decide +kernel
theorem dX6_addWithin_0 : decode cX6_addWithin 0 = .ok (.iconst 0, 1) := by decide +kernel
theorem dX6_addWithin_1 : decode cX6_addWithin 1 = .ok (.istore_n 3, 1) := by decide +kernel
theorem dX6_addWithin_2 : decode cX6_addWithin 2 = .ok (.iload_n 3, 1) := by decide +kernel
theorem dX6_addWithin_3 : decode cX6_addWithin 3 = .ok (.bipush 12, 2) := by decide +kernel
theorem dX6_addWithin_5 : decode cX6_addWithin 5 = .ok (.if_icmp .ge 58, 3) := by decide +kernel
theorem dX6_addWithin_8 : decode cX6_addWithin 8 = .ok (.iconst 0, 1) := by decide +kernel
theorem dX6_addWithin_9 : decode cX6_addWithin 9 = .ok (.istore 4, 2) := by decide +kernel
theorem dX6_addWithin_11 : decode cX6_addWithin 11 = .ok (.iload 4, 2) := by decide +kernel
theorem dX6_addWithin_13 : decode cX6_addWithin 13 = .ok (.iload_n 1, 1) := by decide +kernel
theorem dX6_addWithin_14 : decode cX6_addWithin 14 = .ok (.if_icmp .ge 43, 3) := by decide +kernel
theorem dX6_addWithin_17 : decode cX6_addWithin 17 = .ok (.iload 4, 2) := by decide +kernel
theorem dX6_addWithin_19 : decode cX6_addWithin 19 = .ok (.aload_n 0, 1) := by decide +kernel
theorem dX6_addWithin_20 : decode cX6_addWithin 20 = .ok (.arraylength, 1) := by decide +kernel
theorem dX6_addWithin_21 : decode cX6_addWithin 21 = .ok (.if_icmp .ge 36, 3) := by decide +kernel
theorem dX6_addWithin_24 : decode cX6_addWithin 24 = .ok (.iload 4, 2) := by decide +kernel
theorem dX6_addWithin_26 : decode cX6_addWithin 26 = .ok (.iconst 1, 1) := by decide +kernel
theorem dX6_addWithin_27 : decode cX6_addWithin 27 = .ok (.iload_n 3, 1) := by decide +kernel
theorem dX6_addWithin_28 : decode cX6_addWithin 28 = .ok (.ishl, 1) := by decide +kernel
theorem dX6_addWithin_29 : decode cX6_addWithin 29 = .ok (.iand, 1) := by decide +kernel
theorem dX6_addWithin_30 : decode cX6_addWithin 30 = .ok (.ifCond .eq 21, 3) := by decide +kernel
theorem dX6_addWithin_33 : decode cX6_addWithin 33 = .ok (.aload_n 0, 1) := by decide +kernel
theorem dX6_addWithin_34 : decode cX6_addWithin 34 = .ok (.iload 4, 2) := by decide +kernel
theorem dX6_addWithin_36 : decode cX6_addWithin 36 = .ok (.dup2, 1) := by decide +kernel
theorem dX6_addWithin_37 : decode cX6_addWithin 37 = .ok (.laload, 1) := by decide +kernel
theorem dX6_addWithin_38 : decode cX6_addWithin 38 = .ok (.iload_n 2, 1) := by decide +kernel
theorem dX6_addWithin_39 : decode cX6_addWithin 39 = .ok (.i2l, 1) := by decide +kernel
theorem dX6_addWithin_40 : decode cX6_addWithin 40 = .ok (.aload_n 0, 1) := by decide +kernel
theorem dX6_addWithin_41 : decode cX6_addWithin 41 = .ok (.iload 4, 2) := by decide +kernel
theorem dX6_addWithin_43 : decode cX6_addWithin 43 = .ok (.iconst 1, 1) := by decide +kernel
theorem dX6_addWithin_44 : decode cX6_addWithin 44 = .ok (.iload_n 3, 1) := by decide +kernel
theorem dX6_addWithin_45 : decode cX6_addWithin 45 = .ok (.ishl, 1) := by decide +kernel
theorem dX6_addWithin_46 : decode cX6_addWithin 46 = .ok (.ixor, 1) := by decide +kernel
theorem dX6_addWithin_47 : decode cX6_addWithin 47 = .ok (.laload, 1) := by decide +kernel
theorem dX6_addWithin_48 : decode cX6_addWithin 48 = .ok (.lmul, 1) := by decide +kernel
theorem dX6_addWithin_49 : decode cX6_addWithin 49 = .ok (.ladd, 1) := by decide +kernel
theorem dX6_addWithin_50 : decode cX6_addWithin 50 = .ok (.lastore, 1) := by decide +kernel
theorem dX6_addWithin_51 : decode cX6_addWithin 51 = .ok (.iinc 4 1, 3) := by decide +kernel
theorem dX6_addWithin_54 : decode cX6_addWithin 54 = .ok (.goto (-43), 3) := by decide +kernel
theorem dX6_addWithin_57 : decode cX6_addWithin 57 = .ok (.iinc 3 1, 3) := by decide +kernel
theorem dX6_addWithin_60 : decode cX6_addWithin 60 = .ok (.goto (-58), 3) := by decide +kernel
theorem dX6_addWithin_63 : decode cX6_addWithin 63 = .ok (.return_, 1) := by decide +kernel
theorem dX6_chanceOf_0 : decode cX6_chanceOf 0 = .ok (.bipush 12, 2) := by decide +kernel
theorem dX6_chanceOf_2 : decode cX6_chanceOf 2 = .ok (.aload_n 2, 1) := by decide +kernel
theorem dX6_chanceOf_3 : decode cX6_chanceOf 3 = .ok (.getfield 43, 3) := by decide +kernel
theorem dX6_chanceOf_6 : decode cX6_chanceOf 6 = .ok (.isub, 1) := by decide +kernel
theorem dX6_chanceOf_7 : decode cX6_chanceOf 7 = .ok (.istore 5, 2) := by decide +kernel
theorem dX6_chanceOf_9 : decode cX6_chanceOf 9 = .ok (.sipush 4096, 3) := by decide +kernel
theorem dX6_chanceOf_12 : decode cX6_chanceOf 12 = .ok (.iload 5, 2) := by decide +kernel
theorem dX6_chanceOf_14 : decode cX6_chanceOf 14 = .ok (.ishr, 1) := by decide +kernel
theorem dX6_chanceOf_15 : decode cX6_chanceOf 15 = .ok (.istore 6, 2) := by decide +kernel
theorem dX6_chanceOf_17 : decode cX6_chanceOf 17 = .ok (.iconst 0, 1) := by decide +kernel
theorem dX6_chanceOf_18 : decode cX6_chanceOf 18 = .ok (.istore 7, 2) := by decide +kernel
theorem dX6_chanceOf_20 : decode cX6_chanceOf 20 = .ok (.iload 7, 2) := by decide +kernel
theorem dX6_chanceOf_22 : decode cX6_chanceOf 22 = .ok (.iload 6, 2) := by decide +kernel
theorem dX6_chanceOf_24 : decode cX6_chanceOf 24 = .ok (.if_icmp .ge 41, 3) := by decide +kernel
theorem dX6_chanceOf_27 : decode cX6_chanceOf 27 = .ok (.iload 7, 2) := by decide +kernel
theorem dX6_chanceOf_29 : decode cX6_chanceOf 29 = .ok (.sipush 4096, 3) := by decide +kernel
theorem dX6_chanceOf_32 : decode cX6_chanceOf 32 = .ok (.if_icmp .ge 33, 3) := by decide +kernel
theorem dX6_chanceOf_35 : decode cX6_chanceOf 35 = .ok (.aload_n 0, 1) := by decide +kernel
theorem dX6_chanceOf_36 : decode cX6_chanceOf 36 = .ok (.getfield 9, 3) := by decide +kernel
theorem dX6_chanceOf_39 : decode cX6_chanceOf 39 = .ok (.iload 7, 2) := by decide +kernel
theorem dX6_chanceOf_41 : decode cX6_chanceOf 41 = .ok (.aload_n 1, 1) := by decide +kernel
theorem dX6_chanceOf_42 : decode cX6_chanceOf 42 = .ok (.iload 7, 2) := by decide +kernel
theorem dX6_chanceOf_44 : decode cX6_chanceOf 44 = .ok (.iload 5, 2) := by decide +kernel
theorem dX6_chanceOf_46 : decode cX6_chanceOf 46 = .ok (.ishl, 1) := by decide +kernel
theorem dX6_chanceOf_47 : decode cX6_chanceOf 47 = .ok (.invokevirtual 28, 3) := by decide +kernel
theorem dX6_chanceOf_50 : decode cX6_chanceOf 50 = .ok (.ifCond .eq 7, 3) := by decide +kernel
theorem dX6_chanceOf_53 : decode cX6_chanceOf 53 = .ok (.lconst 1, 1) := by decide +kernel
theorem dX6_chanceOf_54 : decode cX6_chanceOf 54 = .ok (.goto 4, 3) := by decide +kernel
theorem dX6_chanceOf_57 : decode cX6_chanceOf 57 = .ok (.lconst 0, 1) := by decide +kernel
theorem dX6_chanceOf_58 : decode cX6_chanceOf 58 = .ok (.lastore, 1) := by decide +kernel
theorem dX6_chanceOf_59 : decode cX6_chanceOf 59 = .ok (.iinc 7 1, 3) := by decide +kernel
theorem dX6_chanceOf_62 : decode cX6_chanceOf 62 = .ok (.goto (-42), 3) := by decide +kernel
theorem dX6_chanceOf_65 : decode cX6_chanceOf 65 = .ok (.aload_n 2, 1) := by decide +kernel
theorem dX6_chanceOf_66 : decode cX6_chanceOf 66 = .ok (.getfield 43, 3) := by decide +kernel
theorem dX6_chanceOf_69 : decode cX6_chanceOf 69 = .ok (.iconst 1, 1) := by decide +kernel
theorem dX6_chanceOf_70 : decode cX6_chanceOf 70 = .ok (.isub, 1) := by decide +kernel
theorem dX6_chanceOf_71 : decode cX6_chanceOf 71 = .ok (.istore 7, 2) := by decide +kernel
theorem dX6_chanceOf_73 : decode cX6_chanceOf 73 = .ok (.iload 7, 2) := by decide +kernel
theorem dX6_chanceOf_75 : decode cX6_chanceOf 75 = .ok (.ifCond .lt 97, 3) := by decide +kernel
theorem dX6_chanceOf_78 : decode cX6_chanceOf 78 = .ok (.iload 7, 2) := by decide +kernel
theorem dX6_chanceOf_80 : decode cX6_chanceOf 80 = .ok (.iload_n 3, 1) := by decide +kernel
theorem dX6_chanceOf_81 : decode cX6_chanceOf 81 = .ok (.if_icmp .ne 8, 3) := by decide +kernel
theorem dX6_chanceOf_84 : decode cX6_chanceOf 84 = .ok (.iload 4, 2) := by decide +kernel
theorem dX6_chanceOf_86 : decode cX6_chanceOf 86 = .ok (.goto 9, 3) := by decide +kernel
theorem dX6_chanceOf_89 : decode cX6_chanceOf 89 = .ok (.aload_n 2, 1) := by decide +kernel
theorem dX6_chanceOf_90 : decode cX6_chanceOf 90 = .ok (.iload 7, 2) := by decide +kernel
theorem dX6_chanceOf_92 : decode cX6_chanceOf 92 = .ok (.invokevirtual 49, 3) := by decide +kernel
theorem dX6_chanceOf_95 : decode cX6_chanceOf 95 = .ok (.istore 8, 2) := by decide +kernel
theorem dX6_chanceOf_97 : decode cX6_chanceOf 97 = .ok (.iload 6, 2) := by decide +kernel
theorem dX6_chanceOf_99 : decode cX6_chanceOf 99 = .ok (.iconst 2, 1) := by decide +kernel
theorem dX6_chanceOf_100 : decode cX6_chanceOf 100 = .ok (.idiv, 1) := by decide +kernel
theorem dX6_chanceOf_101 : decode cX6_chanceOf 101 = .ok (.istore 6, 2) := by decide +kernel
theorem dX6_chanceOf_103 : decode cX6_chanceOf 103 = .ok (.iconst 0, 1) := by decide +kernel
theorem dX6_chanceOf_104 : decode cX6_chanceOf 104 = .ok (.istore 9, 2) := by decide +kernel
theorem dX6_chanceOf_106 : decode cX6_chanceOf 106 = .ok (.iload 9, 2) := by decide +kernel
theorem dX6_chanceOf_108 : decode cX6_chanceOf 108 = .ok (.iload 6, 2) := by decide +kernel
theorem dX6_chanceOf_110 : decode cX6_chanceOf 110 = .ok (.if_icmp .ge 56, 3) := by decide +kernel
theorem dX6_chanceOf_113 : decode cX6_chanceOf 113 = .ok (.iload 9, 2) := by decide +kernel
theorem dX6_chanceOf_115 : decode cX6_chanceOf 115 = .ok (.sipush 2048, 3) := by decide +kernel
theorem dX6_chanceOf_118 : decode cX6_chanceOf 118 = .ok (.if_icmp .ge 48, 3) := by decide +kernel
theorem dX6_chanceOf_121 : decode cX6_chanceOf 121 = .ok (.aload_n 0, 1) := by decide +kernel
theorem dX6_chanceOf_122 : decode cX6_chanceOf 122 = .ok (.getfield 9, 3) := by decide +kernel
theorem dX6_chanceOf_125 : decode cX6_chanceOf 125 = .ok (.iload 9, 2) := by decide +kernel
theorem dX6_chanceOf_127 : decode cX6_chanceOf 127 = .ok (.aload_n 0, 1) := by decide +kernel
theorem dX6_chanceOf_128 : decode cX6_chanceOf 128 = .ok (.getfield 9, 3) := by decide +kernel
theorem dX6_chanceOf_131 : decode cX6_chanceOf 131 = .ok (.iconst 2, 1) := by decide +kernel
theorem dX6_chanceOf_132 : decode cX6_chanceOf 132 = .ok (.iload 9, 2) := by decide +kernel
theorem dX6_chanceOf_134 : decode cX6_chanceOf 134 = .ok (.imul, 1) := by decide +kernel
theorem dX6_chanceOf_135 : decode cX6_chanceOf 135 = .ok (.laload, 1) := by decide +kernel
theorem dX6_chanceOf_136 : decode cX6_chanceOf 136 = .ok (.bipush 8, 2) := by decide +kernel
theorem dX6_chanceOf_138 : decode cX6_chanceOf 138 = .ok (.iload 8, 2) := by decide +kernel
theorem dX6_chanceOf_140 : decode cX6_chanceOf 140 = .ok (.isub, 1) := by decide +kernel
theorem dX6_chanceOf_141 : decode cX6_chanceOf 141 = .ok (.i2l, 1) := by decide +kernel
theorem dX6_chanceOf_142 : decode cX6_chanceOf 142 = .ok (.lmul, 1) := by decide +kernel
theorem dX6_chanceOf_143 : decode cX6_chanceOf 143 = .ok (.aload_n 0, 1) := by decide +kernel
theorem dX6_chanceOf_144 : decode cX6_chanceOf 144 = .ok (.getfield 9, 3) := by decide +kernel
theorem dX6_chanceOf_147 : decode cX6_chanceOf 147 = .ok (.iconst 2, 1) := by decide +kernel
theorem dX6_chanceOf_148 : decode cX6_chanceOf 148 = .ok (.iload 9, 2) := by decide +kernel
theorem dX6_chanceOf_150 : decode cX6_chanceOf 150 = .ok (.imul, 1) := by decide +kernel
theorem dX6_chanceOf_151 : decode cX6_chanceOf 151 = .ok (.iconst 1, 1) := by decide +kernel
theorem dX6_chanceOf_152 : decode cX6_chanceOf 152 = .ok (.iadd, 1) := by decide +kernel
theorem dX6_chanceOf_153 : decode cX6_chanceOf 153 = .ok (.laload, 1) := by decide +kernel
theorem dX6_chanceOf_154 : decode cX6_chanceOf 154 = .ok (.iload 8, 2) := by decide +kernel
theorem dX6_chanceOf_156 : decode cX6_chanceOf 156 = .ok (.i2l, 1) := by decide +kernel
theorem dX6_chanceOf_157 : decode cX6_chanceOf 157 = .ok (.lmul, 1) := by decide +kernel
theorem dX6_chanceOf_158 : decode cX6_chanceOf 158 = .ok (.ladd, 1) := by decide +kernel
theorem dX6_chanceOf_159 : decode cX6_chanceOf 159 = .ok (.lastore, 1) := by decide +kernel
theorem dX6_chanceOf_160 : decode cX6_chanceOf 160 = .ok (.iinc 9 1, 3) := by decide +kernel
theorem dX6_chanceOf_163 : decode cX6_chanceOf 163 = .ok (.goto (-57), 3) := by decide +kernel
theorem dX6_chanceOf_166 : decode cX6_chanceOf 166 = .ok (.iinc 7 (-1), 3) := by decide +kernel
theorem dX6_chanceOf_169 : decode cX6_chanceOf 169 = .ok (.goto (-96), 3) := by decide +kernel
theorem dX6_chanceOf_172 : decode cX6_chanceOf 172 = .ok (.aload_n 0, 1) := by decide +kernel
theorem dX6_chanceOf_173 : decode cX6_chanceOf 173 = .ok (.getfield 9, 3) := by decide +kernel
theorem dX6_chanceOf_176 : decode cX6_chanceOf 176 = .ok (.iconst 0, 1) := by decide +kernel
theorem dX6_chanceOf_177 : decode cX6_chanceOf 177 = .ok (.laload, 1) := by decide +kernel
theorem dX6_chanceOf_178 : decode cX6_chanceOf 178 = .ok (.iconst 3, 1) := by decide +kernel
theorem dX6_chanceOf_179 : decode cX6_chanceOf 179 = .ok (.iload 5, 2) := by decide +kernel
theorem dX6_chanceOf_181 : decode cX6_chanceOf 181 = .ok (.imul, 1) := by decide +kernel
theorem dX6_chanceOf_182 : decode cX6_chanceOf 182 = .ok (.lshl, 1) := by decide +kernel
theorem dX6_chanceOf_183 : decode cX6_chanceOf 183 = .ok (.lreturn, 1) := by decide +kernel
theorem dX7_init_0 : decode cX7_init 0 = .ok (.aload_n 0, 1) := by decide +kernel
theorem dX7_init_1 : decode cX7_init 1 = .ok (.invokespecial 3, 3) := by decide +kernel
theorem dX7_init_4 : decode cX7_init 4 = .ok (.aload_n 0, 1) := by decide +kernel
theorem dX7_init_5 : decode cX7_init 5 = .ok (.bipush 64, 2) := by decide +kernel
theorem dX7_init_7 : decode cX7_init 7 = .ok (.newarray .long, 2) := by decide +kernel
theorem dX7_init_9 : decode cX7_init 9 = .ok (.putfield 9, 3) := by decide +kernel
theorem dX7_init_12 : decode cX7_init 12 = .ok (.return_, 1) := by decide +kernel
theorem dX7_clear_0 : decode cX7_clear 0 = .ok (.aload_n 0, 1) := by decide +kernel
theorem dX7_clear_1 : decode cX7_clear 1 = .ok (.iload_n 1, 1) := by decide +kernel
theorem dX7_clear_2 : decode cX7_clear 2 = .ok (.putfield 15, 3) := by decide +kernel
theorem dX7_clear_5 : decode cX7_clear 5 = .ok (.aload_n 0, 1) := by decide +kernel
theorem dX7_clear_6 : decode cX7_clear 6 = .ok (.getfield 9, 3) := by decide +kernel
theorem dX7_clear_9 : decode cX7_clear 9 = .ok (.lconst 0, 1) := by decide +kernel
theorem dX7_clear_10 : decode cX7_clear 10 = .ok (.invokestatic 19, 3) := by decide +kernel
theorem dX7_clear_13 : decode cX7_clear 13 = .ok (.return_, 1) := by decide +kernel
theorem dX7_put_0 : decode cX7_put 0 = .ok (.iload_n 1, 1) := by decide +kernel
theorem dX7_put_1 : decode cX7_put 1 = .ok (.ifCond .lt 28, 3) := by decide +kernel
theorem dX7_put_4 : decode cX7_put 4 = .ok (.iload_n 1, 1) := by decide +kernel
theorem dX7_put_5 : decode cX7_put 5 = .ok (.sipush 4096, 3) := by decide +kernel
theorem dX7_put_8 : decode cX7_put 8 = .ok (.if_icmp .ge 21, 3) := by decide +kernel
theorem dX7_put_11 : decode cX7_put 11 = .ok (.aload_n 0, 1) := by decide +kernel
theorem dX7_put_12 : decode cX7_put 12 = .ok (.getfield 9, 3) := by decide +kernel
theorem dX7_put_15 : decode cX7_put 15 = .ok (.iload_n 1, 1) := by decide +kernel
theorem dX7_put_16 : decode cX7_put 16 = .ok (.bipush 6, 2) := by decide +kernel
theorem dX7_put_18 : decode cX7_put 18 = .ok (.ishr, 1) := by decide +kernel
theorem dX7_put_19 : decode cX7_put 19 = .ok (.dup2, 1) := by decide +kernel
theorem dX7_put_20 : decode cX7_put 20 = .ok (.laload, 1) := by decide +kernel
theorem dX7_put_21 : decode cX7_put 21 = .ok (.lconst 1, 1) := by decide +kernel
theorem dX7_put_22 : decode cX7_put 22 = .ok (.iload_n 1, 1) := by decide +kernel
theorem dX7_put_23 : decode cX7_put 23 = .ok (.bipush 63, 2) := by decide +kernel
theorem dX7_put_25 : decode cX7_put 25 = .ok (.iand, 1) := by decide +kernel
theorem dX7_put_26 : decode cX7_put 26 = .ok (.lshl, 1) := by decide +kernel
theorem dX7_put_27 : decode cX7_put 27 = .ok (.lor, 1) := by decide +kernel
theorem dX7_put_28 : decode cX7_put 28 = .ok (.lastore, 1) := by decide +kernel
theorem dX7_put_29 : decode cX7_put 29 = .ok (.return_, 1) := by decide +kernel
theorem dX7_take_0 : decode cX7_take 0 = .ok (.iload_n 1, 1) := by decide +kernel
theorem dX7_take_1 : decode cX7_take 1 = .ok (.ifCond .lt 32, 3) := by decide +kernel
theorem dX7_take_4 : decode cX7_take 4 = .ok (.iload_n 1, 1) := by decide +kernel
theorem dX7_take_5 : decode cX7_take 5 = .ok (.sipush 4096, 3) := by decide +kernel
theorem dX7_take_8 : decode cX7_take 8 = .ok (.if_icmp .ge 25, 3) := by decide +kernel
theorem dX7_take_11 : decode cX7_take 11 = .ok (.aload_n 0, 1) := by decide +kernel
theorem dX7_take_12 : decode cX7_take 12 = .ok (.getfield 9, 3) := by decide +kernel
theorem dX7_take_15 : decode cX7_take 15 = .ok (.iload_n 1, 1) := by decide +kernel
theorem dX7_take_16 : decode cX7_take 16 = .ok (.bipush 6, 2) := by decide +kernel
theorem dX7_take_18 : decode cX7_take 18 = .ok (.ishr, 1) := by decide +kernel
theorem dX7_take_19 : decode cX7_take 19 = .ok (.dup2, 1) := by decide +kernel
theorem dX7_take_20 : decode cX7_take 20 = .ok (.laload, 1) := by decide +kernel
theorem dX7_take_21 : decode cX7_take 21 = .ok (.lconst 1, 1) := by decide +kernel
theorem dX7_take_22 : decode cX7_take 22 = .ok (.iload_n 1, 1) := by decide +kernel
theorem dX7_take_23 : decode cX7_take 23 = .ok (.bipush 63, 2) := by decide +kernel
theorem dX7_take_25 : decode cX7_take 25 = .ok (.iand, 1) := by decide +kernel
theorem dX7_take_26 : decode cX7_take 26 = .ok (.lshl, 1) := by decide +kernel
theorem dX7_take_27 : decode cX7_take 27 = .ok (.ldc2_w 25, 3) := by decide +kernel
theorem dX7_take_30 : decode cX7_take 30 = .ok (.lxor, 1) := by decide +kernel
theorem dX7_take_31 : decode cX7_take 31 = .ok (.land, 1) := by decide +kernel
theorem dX7_take_32 : decode cX7_take 32 = .ok (.lastore, 1) := by decide +kernel
theorem dX7_take_33 : decode cX7_take 33 = .ok (.return_, 1) := by decide +kernel
theorem dX7_holds_0 : decode cX7_holds 0 = .ok (.iload_n 1, 1) := by decide +kernel
theorem dX7_holds_1 : decode cX7_holds 1 = .ok (.ifCond .lt 35, 3) := by decide +kernel
theorem dX7_holds_4 : decode cX7_holds 4 = .ok (.iload_n 1, 1) := by decide +kernel
theorem dX7_holds_5 : decode cX7_holds 5 = .ok (.sipush 4096, 3) := by decide +kernel
theorem dX7_holds_8 : decode cX7_holds 8 = .ok (.if_icmp .ge 28, 3) := by decide +kernel
theorem dX7_holds_11 : decode cX7_holds 11 = .ok (.aload_n 0, 1) := by decide +kernel
theorem dX7_holds_12 : decode cX7_holds 12 = .ok (.getfield 9, 3) := by decide +kernel
theorem dX7_holds_15 : decode cX7_holds 15 = .ok (.iload_n 1, 1) := by decide +kernel
theorem dX7_holds_16 : decode cX7_holds 16 = .ok (.bipush 6, 2) := by decide +kernel
theorem dX7_holds_18 : decode cX7_holds 18 = .ok (.ishr, 1) := by decide +kernel
theorem dX7_holds_19 : decode cX7_holds 19 = .ok (.laload, 1) := by decide +kernel
theorem dX7_holds_20 : decode cX7_holds 20 = .ok (.iload_n 1, 1) := by decide +kernel
theorem dX7_holds_21 : decode cX7_holds 21 = .ok (.bipush 63, 2) := by decide +kernel
theorem dX7_holds_23 : decode cX7_holds 23 = .ok (.iand, 1) := by decide +kernel
theorem dX7_holds_24 : decode cX7_holds 24 = .ok (.lushr, 1) := by decide +kernel
theorem dX7_holds_25 : decode cX7_holds 25 = .ok (.lconst 1, 1) := by decide +kernel
theorem dX7_holds_26 : decode cX7_holds 26 = .ok (.land, 1) := by decide +kernel
theorem dX7_holds_27 : decode cX7_holds 27 = .ok (.lconst 0, 1) := by decide +kernel
theorem dX7_holds_28 : decode cX7_holds 28 = .ok (.lcmp, 1) := by decide +kernel
theorem dX7_holds_29 : decode cX7_holds 29 = .ok (.ifCond .eq 7, 3) := by decide +kernel
theorem dX7_holds_32 : decode cX7_holds 32 = .ok (.iconst 1, 1) := by decide +kernel
theorem dX7_holds_33 : decode cX7_holds 33 = .ok (.goto 4, 3) := by decide +kernel
theorem dX7_holds_36 : decode cX7_holds 36 = .ok (.iconst 0, 1) := by decide +kernel
theorem dX7_holds_37 : decode cX7_holds 37 = .ok (.ireturn, 1) := by decide +kernel
theorem dX7_list_0 : decode cX7_list 0 = .ok (.iconst 0, 1) := by decide +kernel
theorem dX7_list_1 : decode cX7_list 1 = .ok (.istore_n 2, 1) := by decide +kernel
theorem dX7_list_2 : decode cX7_list 2 = .ok (.iconst 0, 1) := by decide +kernel
theorem dX7_list_3 : decode cX7_list 3 = .ok (.istore_n 3, 1) := by decide +kernel
theorem dX7_list_4 : decode cX7_list 4 = .ok (.iload_n 3, 1) := by decide +kernel
theorem dX7_list_5 : decode cX7_list 5 = .ok (.bipush 64, 2) := by decide +kernel
theorem dX7_list_7 : decode cX7_list 7 = .ok (.if_icmp .ge 74, 3) := by decide +kernel
theorem dX7_list_10 : decode cX7_list 10 = .ok (.aload_n 0, 1) := by decide +kernel
theorem dX7_list_11 : decode cX7_list 11 = .ok (.getfield 9, 3) := by decide +kernel
theorem dX7_list_14 : decode cX7_list 14 = .ok (.iload_n 3, 1) := by decide +kernel
theorem dX7_list_15 : decode cX7_list 15 = .ok (.laload, 1) := by decide +kernel
theorem dX7_list_16 : decode cX7_list 16 = .ok (.lstore 4, 2) := by decide +kernel
theorem dX7_list_18 : decode cX7_list 18 = .ok (.iconst 0, 1) := by decide +kernel
theorem dX7_list_19 : decode cX7_list 19 = .ok (.istore 6, 2) := by decide +kernel
theorem dX7_list_21 : decode cX7_list 21 = .ok (.iload 6, 2) := by decide +kernel
theorem dX7_list_23 : decode cX7_list 23 = .ok (.bipush 64, 2) := by decide +kernel
theorem dX7_list_25 : decode cX7_list 25 = .ok (.if_icmp .ge 50, 3) := by decide +kernel
theorem dX7_list_28 : decode cX7_list 28 = .ok (.lload 4, 2) := by decide +kernel
theorem dX7_list_30 : decode cX7_list 30 = .ok (.lconst 0, 1) := by decide +kernel
theorem dX7_list_31 : decode cX7_list 31 = .ok (.lcmp, 1) := by decide +kernel
theorem dX7_list_32 : decode cX7_list 32 = .ok (.ifCond .eq 43, 3) := by decide +kernel
theorem dX7_list_35 : decode cX7_list 35 = .ok (.lload 4, 2) := by decide +kernel
theorem dX7_list_37 : decode cX7_list 37 = .ok (.lconst 1, 1) := by decide +kernel
theorem dX7_list_38 : decode cX7_list 38 = .ok (.land, 1) := by decide +kernel
theorem dX7_list_39 : decode cX7_list 39 = .ok (.lconst 0, 1) := by decide +kernel
theorem dX7_list_40 : decode cX7_list 40 = .ok (.lcmp, 1) := by decide +kernel
theorem dX7_list_41 : decode cX7_list 41 = .ok (.ifCond .eq 22, 3) := by decide +kernel
theorem dX7_list_44 : decode cX7_list 44 = .ok (.iload_n 2, 1) := by decide +kernel
theorem dX7_list_45 : decode cX7_list 45 = .ok (.aload_n 1, 1) := by decide +kernel
theorem dX7_list_46 : decode cX7_list 46 = .ok (.arraylength, 1) := by decide +kernel
theorem dX7_list_47 : decode cX7_list 47 = .ok (.if_icmp .ge 16, 3) := by decide +kernel
theorem dX7_list_50 : decode cX7_list 50 = .ok (.aload_n 1, 1) := by decide +kernel
theorem dX7_list_51 : decode cX7_list 51 = .ok (.iload_n 2, 1) := by decide +kernel
theorem dX7_list_52 : decode cX7_list 52 = .ok (.bipush 64, 2) := by decide +kernel
theorem dX7_list_54 : decode cX7_list 54 = .ok (.iload_n 3, 1) := by decide +kernel
theorem dX7_list_55 : decode cX7_list 55 = .ok (.imul, 1) := by decide +kernel
theorem dX7_list_56 : decode cX7_list 56 = .ok (.iload 6, 2) := by decide +kernel
theorem dX7_list_58 : decode cX7_list 58 = .ok (.iadd, 1) := by decide +kernel
theorem dX7_list_59 : decode cX7_list 59 = .ok (.iastore, 1) := by decide +kernel
theorem dX7_list_60 : decode cX7_list 60 = .ok (.iinc 2 1, 3) := by decide +kernel
theorem dX7_list_63 : decode cX7_list 63 = .ok (.lload 4, 2) := by decide +kernel
theorem dX7_list_65 : decode cX7_list 65 = .ok (.iconst 1, 1) := by decide +kernel
theorem dX7_list_66 : decode cX7_list 66 = .ok (.lushr, 1) := by decide +kernel
theorem dX7_list_67 : decode cX7_list 67 = .ok (.lstore 4, 2) := by decide +kernel
theorem dX7_list_69 : decode cX7_list 69 = .ok (.iinc 6 1, 3) := by decide +kernel
theorem dX7_list_72 : decode cX7_list 72 = .ok (.goto (-51), 3) := by decide +kernel
theorem dX7_list_75 : decode cX7_list 75 = .ok (.iinc 3 1, 3) := by decide +kernel
theorem dX7_list_78 : decode cX7_list 78 = .ok (.goto (-74), 3) := by decide +kernel
theorem dX7_list_81 : decode cX7_list 81 = .ok (.iload_n 2, 1) := by decide +kernel
theorem dX7_list_82 : decode cX7_list 82 = .ok (.ireturn, 1) := by decide +kernel
theorem dX7_size_0 : decode cX7_size 0 = .ok (.iconst 0, 1) := by decide +kernel
theorem dX7_size_1 : decode cX7_size 1 = .ok (.istore_n 1, 1) := by decide +kernel
theorem dX7_size_2 : decode cX7_size 2 = .ok (.iconst 0, 1) := by decide +kernel
theorem dX7_size_3 : decode cX7_size 3 = .ok (.istore_n 2, 1) := by decide +kernel
theorem dX7_size_4 : decode cX7_size 4 = .ok (.iload_n 2, 1) := by decide +kernel
theorem dX7_size_5 : decode cX7_size 5 = .ok (.bipush 64, 2) := by decide +kernel
theorem dX7_size_7 : decode cX7_size 7 = .ok (.if_icmp .ge 21, 3) := by decide +kernel
theorem dX7_size_10 : decode cX7_size 10 = .ok (.iload_n 1, 1) := by decide +kernel
theorem dX7_size_11 : decode cX7_size 11 = .ok (.aload_n 0, 1) := by decide +kernel
theorem dX7_size_12 : decode cX7_size 12 = .ok (.getfield 9, 3) := by decide +kernel
theorem dX7_size_15 : decode cX7_size 15 = .ok (.iload_n 2, 1) := by decide +kernel
theorem dX7_size_16 : decode cX7_size 16 = .ok (.laload, 1) := by decide +kernel
theorem dX7_size_17 : decode cX7_size 17 = .ok (.invokestatic 27, 3) := by decide +kernel
theorem dX7_size_20 : decode cX7_size 20 = .ok (.iadd, 1) := by decide +kernel
theorem dX7_size_21 : decode cX7_size 21 = .ok (.istore_n 1, 1) := by decide +kernel
theorem dX7_size_22 : decode cX7_size 22 = .ok (.iinc 2 1, 3) := by decide +kernel
theorem dX7_size_25 : decode cX7_size 25 = .ok (.goto (-21), 3) := by decide +kernel
theorem dX7_size_28 : decode cX7_size 28 = .ok (.iload_n 1, 1) := by decide +kernel
theorem dX7_size_29 : decode cX7_size 29 = .ok (.ireturn, 1) := by decide +kernel
theorem dX7_sizeWith_0 : decode cX7_sizeWith 0 = .ok (.iconst 0, 1) := by decide +kernel
theorem dX7_sizeWith_1 : decode cX7_sizeWith 1 = .ok (.istore_n 2, 1) := by decide +kernel
theorem dX7_sizeWith_2 : decode cX7_sizeWith 2 = .ok (.iconst 0, 1) := by decide +kernel
theorem dX7_sizeWith_3 : decode cX7_sizeWith 3 = .ok (.istore_n 3, 1) := by decide +kernel
theorem dX7_sizeWith_4 : decode cX7_sizeWith 4 = .ok (.iload_n 3, 1) := by decide +kernel
theorem dX7_sizeWith_5 : decode cX7_sizeWith 5 = .ok (.bipush 64, 2) := by decide +kernel
theorem dX7_sizeWith_7 : decode cX7_sizeWith 7 = .ok (.if_icmp .ge 27, 3) := by decide +kernel
theorem dX7_sizeWith_10 : decode cX7_sizeWith 10 = .ok (.iload_n 2, 1) := by decide +kernel
theorem dX7_sizeWith_11 : decode cX7_sizeWith 11 = .ok (.aload_n 0, 1) := by decide +kernel
theorem dX7_sizeWith_12 : decode cX7_sizeWith 12 = .ok (.getfield 9, 3) := by decide +kernel
theorem dX7_sizeWith_15 : decode cX7_sizeWith 15 = .ok (.iload_n 3, 1) := by decide +kernel
theorem dX7_sizeWith_16 : decode cX7_sizeWith 16 = .ok (.laload, 1) := by decide +kernel
theorem dX7_sizeWith_17 : decode cX7_sizeWith 17 = .ok (.iload_n 3, 1) := by decide +kernel
theorem dX7_sizeWith_18 : decode cX7_sizeWith 18 = .ok (.iload_n 1, 1) := by decide +kernel
theorem dX7_sizeWith_19 : decode cX7_sizeWith 19 = .ok (.invokestatic 33, 3) := by decide +kernel
theorem dX7_sizeWith_22 : decode cX7_sizeWith 22 = .ok (.land, 1) := by decide +kernel
theorem dX7_sizeWith_23 : decode cX7_sizeWith 23 = .ok (.invokestatic 27, 3) := by decide +kernel
theorem dX7_sizeWith_26 : decode cX7_sizeWith 26 = .ok (.iadd, 1) := by decide +kernel
theorem dX7_sizeWith_27 : decode cX7_sizeWith 27 = .ok (.istore_n 2, 1) := by decide +kernel
theorem dX7_sizeWith_28 : decode cX7_sizeWith 28 = .ok (.iinc 3 1, 3) := by decide +kernel
theorem dX7_sizeWith_31 : decode cX7_sizeWith 31 = .ok (.goto (-27), 3) := by decide +kernel
theorem dX7_sizeWith_34 : decode cX7_sizeWith 34 = .ok (.iload_n 2, 1) := by decide +kernel
theorem dX7_sizeWith_35 : decode cX7_sizeWith 35 = .ok (.ireturn, 1) := by decide +kernel
theorem dX7_sizeAhead_0 : decode cX7_sizeAhead 0 = .ok (.iconst 0, 1) := by decide +kernel
theorem dX7_sizeAhead_1 : decode cX7_sizeAhead 1 = .ok (.istore_n 2, 1) := by decide +kernel
theorem dX7_sizeAhead_2 : decode cX7_sizeAhead 2 = .ok (.iconst 0, 1) := by decide +kernel
theorem dX7_sizeAhead_3 : decode cX7_sizeAhead 3 = .ok (.istore_n 3, 1) := by decide +kernel
theorem dX7_sizeAhead_4 : decode cX7_sizeAhead 4 = .ok (.iload_n 3, 1) := by decide +kernel
theorem dX7_sizeAhead_5 : decode cX7_sizeAhead 5 = .ok (.bipush 64, 2) := by decide +kernel
theorem dX7_sizeAhead_7 : decode cX7_sizeAhead 7 = .ok (.if_icmp .ge 56, 3) := by decide +kernel
theorem dX7_sizeAhead_10 : decode cX7_sizeAhead 10 = .ok (.iload_n 3, 1) := by decide +kernel
theorem dX7_sizeAhead_11 : decode cX7_sizeAhead 11 = .ok (.iload_n 1, 1) := by decide +kernel
theorem dX7_sizeAhead_12 : decode cX7_sizeAhead 12 = .ok (.bipush 6, 2) := by decide +kernel
theorem dX7_sizeAhead_14 : decode cX7_sizeAhead 14 = .ok (.ishr, 1) := by decide +kernel
theorem dX7_sizeAhead_15 : decode cX7_sizeAhead 15 = .ok (.if_icmp .gt 48, 3) := by decide +kernel
theorem dX7_sizeAhead_18 : decode cX7_sizeAhead 18 = .ok (.iload_n 3, 1) := by decide +kernel
theorem dX7_sizeAhead_19 : decode cX7_sizeAhead 19 = .ok (.iload_n 1, 1) := by decide +kernel
theorem dX7_sizeAhead_20 : decode cX7_sizeAhead 20 = .ok (.bipush 6, 2) := by decide +kernel
theorem dX7_sizeAhead_22 : decode cX7_sizeAhead 22 = .ok (.ishr, 1) := by decide +kernel
theorem dX7_sizeAhead_23 : decode cX7_sizeAhead 23 = .ok (.if_icmp .ge 9, 3) := by decide +kernel
theorem dX7_sizeAhead_26 : decode cX7_sizeAhead 26 = .ok (.ldc2_w 25, 3) := by decide +kernel
theorem dX7_sizeAhead_29 : decode cX7_sizeAhead 29 = .ok (.goto 11, 3) := by decide +kernel
theorem dX7_sizeAhead_32 : decode cX7_sizeAhead 32 = .ok (.lconst 1, 1) := by decide +kernel
theorem dX7_sizeAhead_33 : decode cX7_sizeAhead 33 = .ok (.iload_n 1, 1) := by decide +kernel
theorem dX7_sizeAhead_34 : decode cX7_sizeAhead 34 = .ok (.bipush 63, 2) := by decide +kernel
theorem dX7_sizeAhead_36 : decode cX7_sizeAhead 36 = .ok (.iand, 1) := by decide +kernel
theorem dX7_sizeAhead_37 : decode cX7_sizeAhead 37 = .ok (.lshl, 1) := by decide +kernel
theorem dX7_sizeAhead_38 : decode cX7_sizeAhead 38 = .ok (.lconst 1, 1) := by decide +kernel
theorem dX7_sizeAhead_39 : decode cX7_sizeAhead 39 = .ok (.lsub, 1) := by decide +kernel
theorem dX7_sizeAhead_40 : decode cX7_sizeAhead 40 = .ok (.lstore 4, 2) := by decide +kernel
theorem dX7_sizeAhead_42 : decode cX7_sizeAhead 42 = .ok (.iload_n 2, 1) := by decide +kernel
theorem dX7_sizeAhead_43 : decode cX7_sizeAhead 43 = .ok (.aload_n 0, 1) := by decide +kernel
theorem dX7_sizeAhead_44 : decode cX7_sizeAhead 44 = .ok (.getfield 9, 3) := by decide +kernel
theorem dX7_sizeAhead_47 : decode cX7_sizeAhead 47 = .ok (.iload_n 3, 1) := by decide +kernel
theorem dX7_sizeAhead_48 : decode cX7_sizeAhead 48 = .ok (.laload, 1) := by decide +kernel
theorem dX7_sizeAhead_49 : decode cX7_sizeAhead 49 = .ok (.lload 4, 2) := by decide +kernel
theorem dX7_sizeAhead_51 : decode cX7_sizeAhead 51 = .ok (.land, 1) := by decide +kernel
theorem dX7_sizeAhead_52 : decode cX7_sizeAhead 52 = .ok (.invokestatic 27, 3) := by decide +kernel
theorem dX7_sizeAhead_55 : decode cX7_sizeAhead 55 = .ok (.iadd, 1) := by decide +kernel
theorem dX7_sizeAhead_56 : decode cX7_sizeAhead 56 = .ok (.istore_n 2, 1) := by decide +kernel
theorem dX7_sizeAhead_57 : decode cX7_sizeAhead 57 = .ok (.iinc 3 1, 3) := by decide +kernel
theorem dX7_sizeAhead_60 : decode cX7_sizeAhead 60 = .ok (.goto (-56), 3) := by decide +kernel
theorem dX7_sizeAhead_63 : decode cX7_sizeAhead 63 = .ok (.iload_n 2, 1) := by decide +kernel
theorem dX7_sizeAhead_64 : decode cX7_sizeAhead 64 = .ok (.ireturn, 1) := by decide +kernel
theorem dX7_nth_0 : decode cX7_nth 0 = .ok (.iload_n 1, 1) := by decide +kernel
theorem dX7_nth_1 : decode cX7_nth 1 = .ok (.istore_n 2, 1) := by decide +kernel
theorem dX7_nth_2 : decode cX7_nth 2 = .ok (.iconst 0, 1) := by decide +kernel
theorem dX7_nth_3 : decode cX7_nth 3 = .ok (.istore_n 3, 1) := by decide +kernel
theorem dX7_nth_4 : decode cX7_nth 4 = .ok (.iload_n 3, 1) := by decide +kernel
theorem dX7_nth_5 : decode cX7_nth 5 = .ok (.bipush 64, 2) := by decide +kernel
theorem dX7_nth_7 : decode cX7_nth 7 = .ok (.if_icmp .ge 51, 3) := by decide +kernel
theorem dX7_nth_10 : decode cX7_nth 10 = .ok (.iload_n 2, 1) := by decide +kernel
theorem dX7_nth_11 : decode cX7_nth 11 = .ok (.ifCond .lt 47, 3) := by decide +kernel
theorem dX7_nth_14 : decode cX7_nth 14 = .ok (.aload_n 0, 1) := by decide +kernel
theorem dX7_nth_15 : decode cX7_nth 15 = .ok (.getfield 9, 3) := by decide +kernel
theorem dX7_nth_18 : decode cX7_nth 18 = .ok (.iload_n 3, 1) := by decide +kernel
theorem dX7_nth_19 : decode cX7_nth 19 = .ok (.laload, 1) := by decide +kernel
theorem dX7_nth_20 : decode cX7_nth 20 = .ok (.invokestatic 27, 3) := by decide +kernel
theorem dX7_nth_23 : decode cX7_nth 23 = .ok (.istore 4, 2) := by decide +kernel
theorem dX7_nth_25 : decode cX7_nth 25 = .ok (.iload_n 2, 1) := by decide +kernel
theorem dX7_nth_26 : decode cX7_nth 26 = .ok (.iload 4, 2) := by decide +kernel
theorem dX7_nth_28 : decode cX7_nth 28 = .ok (.if_icmp .ge 19, 3) := by decide +kernel
theorem dX7_nth_31 : decode cX7_nth 31 = .ok (.bipush 64, 2) := by decide +kernel
theorem dX7_nth_33 : decode cX7_nth 33 = .ok (.iload_n 3, 1) := by decide +kernel
theorem dX7_nth_34 : decode cX7_nth 34 = .ok (.imul, 1) := by decide +kernel
theorem dX7_nth_35 : decode cX7_nth 35 = .ok (.aload_n 0, 1) := by decide +kernel
theorem dX7_nth_36 : decode cX7_nth 36 = .ok (.getfield 9, 3) := by decide +kernel
theorem dX7_nth_39 : decode cX7_nth 39 = .ok (.iload_n 3, 1) := by decide +kernel
theorem dX7_nth_40 : decode cX7_nth 40 = .ok (.laload, 1) := by decide +kernel
theorem dX7_nth_41 : decode cX7_nth 41 = .ok (.iload_n 2, 1) := by decide +kernel
theorem dX7_nth_42 : decode cX7_nth 42 = .ok (.invokestatic 37, 3) := by decide +kernel
theorem dX7_nth_45 : decode cX7_nth 45 = .ok (.iadd, 1) := by decide +kernel
theorem dX7_nth_46 : decode cX7_nth 46 = .ok (.ireturn, 1) := by decide +kernel
theorem dX7_nth_47 : decode cX7_nth 47 = .ok (.iload_n 2, 1) := by decide +kernel
theorem dX7_nth_48 : decode cX7_nth 48 = .ok (.iload 4, 2) := by decide +kernel
theorem dX7_nth_50 : decode cX7_nth 50 = .ok (.isub, 1) := by decide +kernel
theorem dX7_nth_51 : decode cX7_nth 51 = .ok (.istore_n 2, 1) := by decide +kernel
theorem dX7_nth_52 : decode cX7_nth 52 = .ok (.iinc 3 1, 3) := by decide +kernel
theorem dX7_nth_55 : decode cX7_nth 55 = .ok (.goto (-51), 3) := by decide +kernel
theorem dX7_nth_58 : decode cX7_nth 58 = .ok (.iconst (-1), 1) := by decide +kernel
theorem dX7_nth_59 : decode cX7_nth 59 = .ok (.ireturn, 1) := by decide +kernel
theorem dX7_nthBit_0 : decode cX7_nthBit 0 = .ok (.iload_n 2, 1) := by decide +kernel
theorem dX7_nthBit_1 : decode cX7_nthBit 1 = .ok (.istore_n 3, 1) := by decide +kernel
theorem dX7_nthBit_2 : decode cX7_nthBit 2 = .ok (.iconst 0, 1) := by decide +kernel
theorem dX7_nthBit_3 : decode cX7_nthBit 3 = .ok (.istore 4, 2) := by decide +kernel
theorem dX7_nthBit_5 : decode cX7_nthBit 5 = .ok (.iload 4, 2) := by decide +kernel
theorem dX7_nthBit_7 : decode cX7_nthBit 7 = .ok (.bipush 64, 2) := by decide +kernel
theorem dX7_nthBit_9 : decode cX7_nthBit 9 = .ok (.if_icmp .ge 30, 3) := by decide +kernel
theorem dX7_nthBit_12 : decode cX7_nthBit 12 = .ok (.lload_n 0, 1) := by decide +kernel
theorem dX7_nthBit_13 : decode cX7_nthBit 13 = .ok (.iload 4, 2) := by decide +kernel
theorem dX7_nthBit_15 : decode cX7_nthBit 15 = .ok (.lushr, 1) := by decide +kernel
theorem dX7_nthBit_16 : decode cX7_nthBit 16 = .ok (.lconst 1, 1) := by decide +kernel
theorem dX7_nthBit_17 : decode cX7_nthBit 17 = .ok (.land, 1) := by decide +kernel
theorem dX7_nthBit_18 : decode cX7_nthBit 18 = .ok (.lconst 0, 1) := by decide +kernel
theorem dX7_nthBit_19 : decode cX7_nthBit 19 = .ok (.lcmp, 1) := by decide +kernel
theorem dX7_nthBit_20 : decode cX7_nthBit 20 = .ok (.ifCond .eq 13, 3) := by decide +kernel
theorem dX7_nthBit_23 : decode cX7_nthBit 23 = .ok (.iload_n 3, 1) := by decide +kernel
theorem dX7_nthBit_24 : decode cX7_nthBit 24 = .ok (.ifCond .ne 6, 3) := by decide +kernel
theorem dX7_nthBit_27 : decode cX7_nthBit 27 = .ok (.iload 4, 2) := by decide +kernel
theorem dX7_nthBit_29 : decode cX7_nthBit 29 = .ok (.ireturn, 1) := by decide +kernel
theorem dX7_nthBit_30 : decode cX7_nthBit 30 = .ok (.iinc 3 (-1), 3) := by decide +kernel
theorem dX7_nthBit_33 : decode cX7_nthBit 33 = .ok (.iinc 4 1, 3) := by decide +kernel
theorem dX7_nthBit_36 : decode cX7_nthBit 36 = .ok (.goto (-31), 3) := by decide +kernel
theorem dX7_nthBit_39 : decode cX7_nthBit 39 = .ok (.iconst 0, 1) := by decide +kernel
theorem dX7_nthBit_40 : decode cX7_nthBit 40 = .ok (.ireturn, 1) := by decide +kernel
theorem dX7_used_0 : decode cX7_used 0 = .ok (.iconst 0, 1) := by decide +kernel
theorem dX7_used_1 : decode cX7_used 1 = .ok (.istore_n 1, 1) := by decide +kernel
theorem dX7_used_2 : decode cX7_used 2 = .ok (.iconst 0, 1) := by decide +kernel
theorem dX7_used_3 : decode cX7_used 3 = .ok (.istore_n 2, 1) := by decide +kernel
theorem dX7_used_4 : decode cX7_used 4 = .ok (.iload_n 2, 1) := by decide +kernel
theorem dX7_used_5 : decode cX7_used 5 = .ok (.bipush 12, 2) := by decide +kernel
theorem dX7_used_7 : decode cX7_used 7 = .ok (.if_icmp .ge 23, 3) := by decide +kernel
theorem dX7_used_10 : decode cX7_used 10 = .ok (.aload_n 0, 1) := by decide +kernel
theorem dX7_used_11 : decode cX7_used 11 = .ok (.iload_n 2, 1) := by decide +kernel
theorem dX7_used_12 : decode cX7_used 12 = .ok (.invokevirtual 41, 3) := by decide +kernel
theorem dX7_used_15 : decode cX7_used 15 = .ok (.ifCond .le 9, 3) := by decide +kernel
theorem dX7_used_18 : decode cX7_used 18 = .ok (.iload_n 1, 1) := by decide +kernel
theorem dX7_used_19 : decode cX7_used 19 = .ok (.iconst 1, 1) := by decide +kernel
theorem dX7_used_20 : decode cX7_used 20 = .ok (.iload_n 2, 1) := by decide +kernel
theorem dX7_used_21 : decode cX7_used 21 = .ok (.ishl, 1) := by decide +kernel
theorem dX7_used_22 : decode cX7_used 22 = .ok (.ior, 1) := by decide +kernel
theorem dX7_used_23 : decode cX7_used 23 = .ok (.istore_n 1, 1) := by decide +kernel
theorem dX7_used_24 : decode cX7_used 24 = .ok (.iinc 2 1, 3) := by decide +kernel
theorem dX7_used_27 : decode cX7_used 27 = .ok (.goto (-23), 3) := by decide +kernel
theorem dX7_used_30 : decode cX7_used 30 = .ok (.iload_n 1, 1) := by decide +kernel
theorem dX7_used_31 : decode cX7_used 31 = .ok (.ireturn, 1) := by decide +kernel
theorem dX7_levelsBelow_0 : decode cX7_levelsBelow 0 = .ok (.iconst 0, 1) := by decide +kernel
theorem dX7_levelsBelow_1 : decode cX7_levelsBelow 1 = .ok (.istore_n 1, 1) := by decide +kernel
theorem dX7_levelsBelow_2 : decode cX7_levelsBelow 2 = .ok (.iload_n 1, 1) := by decide +kernel
theorem dX7_levelsBelow_3 : decode cX7_levelsBelow 3 = .ok (.bipush 12, 2) := by decide +kernel
theorem dX7_levelsBelow_5 : decode cX7_levelsBelow 5 = .ok (.if_icmp .ge 17, 3) := by decide +kernel
theorem dX7_levelsBelow_8 : decode cX7_levelsBelow 8 = .ok (.iload_n 0, 1) := by decide +kernel
theorem dX7_levelsBelow_9 : decode cX7_levelsBelow 9 = .ok (.iconst 1, 1) := by decide +kernel
theorem dX7_levelsBelow_10 : decode cX7_levelsBelow 10 = .ok (.iload_n 1, 1) := by decide +kernel
theorem dX7_levelsBelow_11 : decode cX7_levelsBelow 11 = .ok (.ishl, 1) := by decide +kernel
theorem dX7_levelsBelow_12 : decode cX7_levelsBelow 12 = .ok (.iand, 1) := by decide +kernel
theorem dX7_levelsBelow_13 : decode cX7_levelsBelow 13 = .ok (.ifCond .ne 9, 3) := by decide +kernel
theorem dX7_levelsBelow_16 : decode cX7_levelsBelow 16 = .ok (.iinc 1 1, 3) := by decide +kernel
theorem dX7_levelsBelow_19 : decode cX7_levelsBelow 19 = .ok (.goto (-17), 3) := by decide +kernel
theorem dX7_levelsBelow_22 : decode cX7_levelsBelow 22 = .ok (.iload_n 1, 1) := by decide +kernel
theorem dX7_levelsBelow_23 : decode cX7_levelsBelow 23 = .ok (.ireturn, 1) := by decide +kernel
theorem dX7_isLike_0 : decode cX7_isLike 0 = .ok (.iconst 0, 1) := by decide +kernel
theorem dX7_isLike_1 : decode cX7_isLike 1 = .ok (.istore_n 2, 1) := by decide +kernel
theorem dX7_isLike_2 : decode cX7_isLike 2 = .ok (.iload_n 2, 1) := by decide +kernel
theorem dX7_isLike_3 : decode cX7_isLike 3 = .ok (.bipush 64, 2) := by decide +kernel
theorem dX7_isLike_5 : decode cX7_isLike 5 = .ok (.if_icmp .ge 27, 3) := by decide +kernel
theorem dX7_isLike_8 : decode cX7_isLike 8 = .ok (.aload_n 0, 1) := by decide +kernel
theorem dX7_isLike_9 : decode cX7_isLike 9 = .ok (.getfield 9, 3) := by decide +kernel
theorem dX7_isLike_12 : decode cX7_isLike 12 = .ok (.iload_n 2, 1) := by decide +kernel
theorem dX7_isLike_13 : decode cX7_isLike 13 = .ok (.laload, 1) := by decide +kernel
theorem dX7_isLike_14 : decode cX7_isLike 14 = .ok (.aload_n 1, 1) := by decide +kernel
theorem dX7_isLike_15 : decode cX7_isLike 15 = .ok (.getfield 9, 3) := by decide +kernel
theorem dX7_isLike_18 : decode cX7_isLike 18 = .ok (.iload_n 2, 1) := by decide +kernel
theorem dX7_isLike_19 : decode cX7_isLike 19 = .ok (.laload, 1) := by decide +kernel
theorem dX7_isLike_20 : decode cX7_isLike 20 = .ok (.lcmp, 1) := by decide +kernel
theorem dX7_isLike_21 : decode cX7_isLike 21 = .ok (.ifCond .eq 5, 3) := by decide +kernel
theorem dX7_isLike_24 : decode cX7_isLike 24 = .ok (.iconst 0, 1) := by decide +kernel
theorem dX7_isLike_25 : decode cX7_isLike 25 = .ok (.ireturn, 1) := by decide +kernel
theorem dX7_isLike_26 : decode cX7_isLike 26 = .ok (.iinc 2 1, 3) := by decide +kernel
theorem dX7_isLike_29 : decode cX7_isLike 29 = .ok (.goto (-27), 3) := by decide +kernel
theorem dX7_isLike_32 : decode cX7_isLike 32 = .ok (.iconst 1, 1) := by decide +kernel
theorem dX7_isLike_33 : decode cX7_isLike 33 = .ok (.ireturn, 1) := by decide +kernel
theorem dX7_having_0 : decode cX7_having 0 = .ok (.iload_n 1, 1) := by decide +kernel
theorem dX7_having_1 : decode cX7_having 1 = .ok (.ifCond .lt 17, 3) := by decide +kernel
theorem dX7_having_4 : decode cX7_having 4 = .ok (.iload_n 1, 1) := by decide +kernel
theorem dX7_having_5 : decode cX7_having 5 = .ok (.getstatic 45, 3) := by decide +kernel
theorem dX7_having_8 : decode cX7_having 8 = .ok (.arraylength, 1) := by decide +kernel
theorem dX7_having_9 : decode cX7_having 9 = .ok (.if_icmp .ge 9, 3) := by decide +kernel
theorem dX7_having_12 : decode cX7_having 12 = .ok (.getstatic 45, 3) := by decide +kernel
theorem dX7_having_15 : decode cX7_having 15 = .ok (.iload_n 1, 1) := by decide +kernel
theorem dX7_having_16 : decode cX7_having 16 = .ok (.laload, 1) := by decide +kernel
theorem dX7_having_17 : decode cX7_having 17 = .ok (.lreturn, 1) := by decide +kernel
theorem dX7_having_18 : decode cX7_having 18 = .ok (.iload_n 0, 1) := by decide +kernel
theorem dX7_having_19 : decode cX7_having 19 = .ok (.iload_n 1, 1) := by decide +kernel
theorem dX7_having_20 : decode cX7_having 20 = .ok (.bipush 6, 2) := by decide +kernel
theorem dX7_having_22 : decode cX7_having 22 = .ok (.isub, 1) := by decide +kernel
theorem dX7_having_23 : decode cX7_having 23 = .ok (.ishr, 1) := by decide +kernel
theorem dX7_having_24 : decode cX7_having 24 = .ok (.iconst 1, 1) := by decide +kernel
theorem dX7_having_25 : decode cX7_having 25 = .ok (.iand, 1) := by decide +kernel
theorem dX7_having_26 : decode cX7_having 26 = .ok (.ifCond .eq 9, 3) := by decide +kernel
theorem dX7_having_29 : decode cX7_having 29 = .ok (.ldc2_w 25, 3) := by decide +kernel
theorem dX7_having_32 : decode cX7_having 32 = .ok (.goto 4, 3) := by decide +kernel
theorem dX7_having_35 : decode cX7_having 35 = .ok (.lconst 0, 1) := by decide +kernel
theorem dX7_having_36 : decode cX7_having 36 = .ok (.lreturn, 1) := by decide +kernel
theorem dX7_copy_0 : decode cX7_copy 0 = .ok (.aload_n 1, 1) := by decide +kernel
theorem dX7_copy_1 : decode cX7_copy 1 = .ok (.getfield 9, 3) := by decide +kernel
theorem dX7_copy_4 : decode cX7_copy 4 = .ok (.iconst 0, 1) := by decide +kernel
theorem dX7_copy_5 : decode cX7_copy 5 = .ok (.aload_n 0, 1) := by decide +kernel
theorem dX7_copy_6 : decode cX7_copy 6 = .ok (.getfield 9, 3) := by decide +kernel
theorem dX7_copy_9 : decode cX7_copy 9 = .ok (.iconst 0, 1) := by decide +kernel
theorem dX7_copy_10 : decode cX7_copy 10 = .ok (.bipush 64, 2) := by decide +kernel
theorem dX7_copy_12 : decode cX7_copy 12 = .ok (.invokestatic 48, 3) := by decide +kernel
theorem dX7_copy_15 : decode cX7_copy 15 = .ok (.return_, 1) := by decide +kernel
theorem dX7_takeBoth_0 : decode cX7_takeBoth 0 = .ok (.iconst 0, 1) := by decide +kernel
theorem dX7_takeBoth_1 : decode cX7_takeBoth 1 = .ok (.istore_n 3, 1) := by decide +kernel
theorem dX7_takeBoth_2 : decode cX7_takeBoth 2 = .ok (.iload_n 3, 1) := by decide +kernel
theorem dX7_takeBoth_3 : decode cX7_takeBoth 3 = .ok (.bipush 64, 2) := by decide +kernel
theorem dX7_takeBoth_5 : decode cX7_takeBoth 5 = .ok (.if_icmp .ge 28, 3) := by decide +kernel
theorem dX7_takeBoth_8 : decode cX7_takeBoth 8 = .ok (.aload_n 0, 1) := by decide +kernel
theorem dX7_takeBoth_9 : decode cX7_takeBoth 9 = .ok (.getfield 9, 3) := by decide +kernel
theorem dX7_takeBoth_12 : decode cX7_takeBoth 12 = .ok (.iload_n 3, 1) := by decide +kernel
theorem dX7_takeBoth_13 : decode cX7_takeBoth 13 = .ok (.aload_n 1, 1) := by decide +kernel
theorem dX7_takeBoth_14 : decode cX7_takeBoth 14 = .ok (.getfield 9, 3) := by decide +kernel
theorem dX7_takeBoth_17 : decode cX7_takeBoth 17 = .ok (.iload_n 3, 1) := by decide +kernel
theorem dX7_takeBoth_18 : decode cX7_takeBoth 18 = .ok (.laload, 1) := by decide +kernel
theorem dX7_takeBoth_19 : decode cX7_takeBoth 19 = .ok (.aload_n 2, 1) := by decide +kernel
theorem dX7_takeBoth_20 : decode cX7_takeBoth 20 = .ok (.getfield 9, 3) := by decide +kernel
theorem dX7_takeBoth_23 : decode cX7_takeBoth 23 = .ok (.iload_n 3, 1) := by decide +kernel
theorem dX7_takeBoth_24 : decode cX7_takeBoth 24 = .ok (.laload, 1) := by decide +kernel
theorem dX7_takeBoth_25 : decode cX7_takeBoth 25 = .ok (.land, 1) := by decide +kernel
theorem dX7_takeBoth_26 : decode cX7_takeBoth 26 = .ok (.lastore, 1) := by decide +kernel
theorem dX7_takeBoth_27 : decode cX7_takeBoth 27 = .ok (.iinc 3 1, 3) := by decide +kernel
theorem dX7_takeBoth_30 : decode cX7_takeBoth 30 = .ok (.goto (-28), 3) := by decide +kernel
theorem dX7_takeBoth_33 : decode cX7_takeBoth 33 = .ok (.return_, 1) := by decide +kernel
theorem dX7_takeEither_0 : decode cX7_takeEither 0 = .ok (.iconst 0, 1) := by decide +kernel
theorem dX7_takeEither_1 : decode cX7_takeEither 1 = .ok (.istore_n 3, 1) := by decide +kernel
theorem dX7_takeEither_2 : decode cX7_takeEither 2 = .ok (.iload_n 3, 1) := by decide +kernel
theorem dX7_takeEither_3 : decode cX7_takeEither 3 = .ok (.bipush 64, 2) := by decide +kernel
theorem dX7_takeEither_5 : decode cX7_takeEither 5 = .ok (.if_icmp .ge 28, 3) := by decide +kernel
theorem dX7_takeEither_8 : decode cX7_takeEither 8 = .ok (.aload_n 0, 1) := by decide +kernel
theorem dX7_takeEither_9 : decode cX7_takeEither 9 = .ok (.getfield 9, 3) := by decide +kernel
theorem dX7_takeEither_12 : decode cX7_takeEither 12 = .ok (.iload_n 3, 1) := by decide +kernel
theorem dX7_takeEither_13 : decode cX7_takeEither 13 = .ok (.aload_n 1, 1) := by decide +kernel
theorem dX7_takeEither_14 : decode cX7_takeEither 14 = .ok (.getfield 9, 3) := by decide +kernel
theorem dX7_takeEither_17 : decode cX7_takeEither 17 = .ok (.iload_n 3, 1) := by decide +kernel
theorem dX7_takeEither_18 : decode cX7_takeEither 18 = .ok (.laload, 1) := by decide +kernel
theorem dX7_takeEither_19 : decode cX7_takeEither 19 = .ok (.aload_n 2, 1) := by decide +kernel
theorem dX7_takeEither_20 : decode cX7_takeEither 20 = .ok (.getfield 9, 3) := by decide +kernel
theorem dX7_takeEither_23 : decode cX7_takeEither 23 = .ok (.iload_n 3, 1) := by decide +kernel
theorem dX7_takeEither_24 : decode cX7_takeEither 24 = .ok (.laload, 1) := by decide +kernel
theorem dX7_takeEither_25 : decode cX7_takeEither 25 = .ok (.lor, 1) := by decide +kernel
theorem dX7_takeEither_26 : decode cX7_takeEither 26 = .ok (.lastore, 1) := by decide +kernel
theorem dX7_takeEither_27 : decode cX7_takeEither 27 = .ok (.iinc 3 1, 3) := by decide +kernel
theorem dX7_takeEither_30 : decode cX7_takeEither 30 = .ok (.goto (-28), 3) := by decide +kernel
theorem dX7_takeEither_33 : decode cX7_takeEither 33 = .ok (.return_, 1) := by decide +kernel
theorem dX7_takeFirstAlone_0 : decode cX7_takeFirstAlone 0 = .ok (.iconst 0, 1) := by decide +kernel
theorem dX7_takeFirstAlone_1 : decode cX7_takeFirstAlone 1 = .ok (.istore_n 3, 1) := by decide +kernel
theorem dX7_takeFirstAlone_2 : decode cX7_takeFirstAlone 2 = .ok (.iload_n 3, 1) := by decide +kernel
theorem dX7_takeFirstAlone_3 : decode cX7_takeFirstAlone 3 = .ok (.bipush 64, 2) := by decide +kernel
theorem dX7_takeFirstAlone_5 : decode cX7_takeFirstAlone 5 = .ok (.if_icmp .ge 32, 3) := by decide +kernel
theorem dX7_takeFirstAlone_8 : decode cX7_takeFirstAlone 8 = .ok (.aload_n 0, 1) := by decide +kernel
theorem dX7_takeFirstAlone_9 : decode cX7_takeFirstAlone 9 = .ok (.getfield 9, 3) := by decide +kernel
theorem dX7_takeFirstAlone_12 : decode cX7_takeFirstAlone 12 = .ok (.iload_n 3, 1) := by decide +kernel
theorem dX7_takeFirstAlone_13 : decode cX7_takeFirstAlone 13 = .ok (.aload_n 1, 1) := by decide +kernel
theorem dX7_takeFirstAlone_14 : decode cX7_takeFirstAlone 14 = .ok (.getfield 9, 3) := by decide +kernel
theorem dX7_takeFirstAlone_17 : decode cX7_takeFirstAlone 17 = .ok (.iload_n 3, 1) := by decide +kernel
theorem dX7_takeFirstAlone_18 : decode cX7_takeFirstAlone 18 = .ok (.laload, 1) := by decide +kernel
theorem dX7_takeFirstAlone_19 : decode cX7_takeFirstAlone 19 = .ok (.aload_n 2, 1) := by decide +kernel
theorem dX7_takeFirstAlone_20 : decode cX7_takeFirstAlone 20 = .ok (.getfield 9, 3) := by decide +kernel
theorem dX7_takeFirstAlone_23 : decode cX7_takeFirstAlone 23 = .ok (.iload_n 3, 1) := by decide +kernel
theorem dX7_takeFirstAlone_24 : decode cX7_takeFirstAlone 24 = .ok (.laload, 1) := by decide +kernel
theorem dX7_takeFirstAlone_25 : decode cX7_takeFirstAlone 25 = .ok (.ldc2_w 25, 3) := by decide +kernel
theorem dX7_takeFirstAlone_28 : decode cX7_takeFirstAlone 28 = .ok (.lxor, 1) := by decide +kernel
theorem dX7_takeFirstAlone_29 : decode cX7_takeFirstAlone 29 = .ok (.land, 1) := by decide +kernel
theorem dX7_takeFirstAlone_30 : decode cX7_takeFirstAlone 30 = .ok (.lastore, 1) := by decide +kernel
theorem dX7_takeFirstAlone_31 : decode cX7_takeFirstAlone 31 = .ok (.iinc 3 1, 3) := by decide +kernel
theorem dX7_takeFirstAlone_34 : decode cX7_takeFirstAlone 34 = .ok (.goto (-32), 3) := by decide +kernel
theorem dX7_takeFirstAlone_37 : decode cX7_takeFirstAlone 37 = .ok (.return_, 1) := by decide +kernel
theorem dX7_takeBy_0 : decode cX7_takeBy 0 = .ok (.iconst 0, 1) := by decide +kernel
theorem dX7_takeBy_1 : decode cX7_takeBy 1 = .ok (.istore 4, 2) := by decide +kernel
theorem dX7_takeBy_3 : decode cX7_takeBy 3 = .ok (.iload 4, 2) := by decide +kernel
theorem dX7_takeBy_5 : decode cX7_takeBy 5 = .ok (.bipush 64, 2) := by decide +kernel
theorem dX7_takeBy_7 : decode cX7_takeBy 7 = .ok (.if_icmp .ge 47, 3) := by decide +kernel
theorem dX7_takeBy_10 : decode cX7_takeBy 10 = .ok (.iload 4, 2) := by decide +kernel
theorem dX7_takeBy_12 : decode cX7_takeBy 12 = .ok (.iload_n 2, 1) := by decide +kernel
theorem dX7_takeBy_13 : decode cX7_takeBy 13 = .ok (.invokestatic 33, 3) := by decide +kernel
theorem dX7_takeBy_16 : decode cX7_takeBy 16 = .ok (.lstore 5, 2) := by decide +kernel
theorem dX7_takeBy_18 : decode cX7_takeBy 18 = .ok (.aload_n 0, 1) := by decide +kernel
theorem dX7_takeBy_19 : decode cX7_takeBy 19 = .ok (.getfield 9, 3) := by decide +kernel
theorem dX7_takeBy_22 : decode cX7_takeBy 22 = .ok (.iload 4, 2) := by decide +kernel
theorem dX7_takeBy_24 : decode cX7_takeBy 24 = .ok (.aload_n 1, 1) := by decide +kernel
theorem dX7_takeBy_25 : decode cX7_takeBy 25 = .ok (.getfield 9, 3) := by decide +kernel
theorem dX7_takeBy_28 : decode cX7_takeBy 28 = .ok (.iload 4, 2) := by decide +kernel
theorem dX7_takeBy_30 : decode cX7_takeBy 30 = .ok (.laload, 1) := by decide +kernel
theorem dX7_takeBy_31 : decode cX7_takeBy 31 = .ok (.iload_n 3, 1) := by decide +kernel
theorem dX7_takeBy_32 : decode cX7_takeBy 32 = .ok (.ifCond .eq 8, 3) := by decide +kernel
theorem dX7_takeBy_35 : decode cX7_takeBy 35 = .ok (.lload 5, 2) := by decide +kernel
theorem dX7_takeBy_37 : decode cX7_takeBy 37 = .ok (.goto 9, 3) := by decide +kernel
theorem dX7_takeBy_40 : decode cX7_takeBy 40 = .ok (.lload 5, 2) := by decide +kernel
theorem dX7_takeBy_42 : decode cX7_takeBy 42 = .ok (.ldc2_w 25, 3) := by decide +kernel
theorem dX7_takeBy_45 : decode cX7_takeBy 45 = .ok (.lxor, 1) := by decide +kernel
theorem dX7_takeBy_46 : decode cX7_takeBy 46 = .ok (.land, 1) := by decide +kernel
theorem dX7_takeBy_47 : decode cX7_takeBy 47 = .ok (.lastore, 1) := by decide +kernel
theorem dX7_takeBy_48 : decode cX7_takeBy 48 = .ok (.iinc 4 1, 3) := by decide +kernel
theorem dX7_takeBy_51 : decode cX7_takeBy 51 = .ok (.goto (-48), 3) := by decide +kernel
theorem dX7_takeBy_54 : decode cX7_takeBy 54 = .ok (.return_, 1) := by decide +kernel
theorem dX7_raise_0 : decode cX7_raise 0 = .ok (.iconst 0, 1) := by decide +kernel
theorem dX7_raise_1 : decode cX7_raise 1 = .ok (.istore_n 3, 1) := by decide +kernel
theorem dX7_raise_2 : decode cX7_raise 2 = .ok (.iload_n 3, 1) := by decide +kernel
theorem dX7_raise_3 : decode cX7_raise 3 = .ok (.bipush 64, 2) := by decide +kernel
theorem dX7_raise_5 : decode cX7_raise 5 = .ok (.if_icmp .ge 86, 3) := by decide +kernel
theorem dX7_raise_8 : decode cX7_raise 8 = .ok (.iload_n 3, 1) := by decide +kernel
theorem dX7_raise_9 : decode cX7_raise 9 = .ok (.iconst 1, 1) := by decide +kernel
theorem dX7_raise_10 : decode cX7_raise 10 = .ok (.iload_n 2, 1) := by decide +kernel
theorem dX7_raise_11 : decode cX7_raise 11 = .ok (.bipush 6, 2) := by decide +kernel
theorem dX7_raise_13 : decode cX7_raise 13 = .ok (.isub, 1) := by decide +kernel
theorem dX7_raise_14 : decode cX7_raise 14 = .ok (.ishl, 1) := by decide +kernel
theorem dX7_raise_15 : decode cX7_raise 15 = .ok (.iconst (-1), 1) := by decide +kernel
theorem dX7_raise_16 : decode cX7_raise 16 = .ok (.ixor, 1) := by decide +kernel
theorem dX7_raise_17 : decode cX7_raise 17 = .ok (.iand, 1) := by decide +kernel
theorem dX7_raise_18 : decode cX7_raise 18 = .ok (.istore 4, 2) := by decide +kernel
theorem dX7_raise_20 : decode cX7_raise 20 = .ok (.iload_n 2, 1) := by decide +kernel
theorem dX7_raise_21 : decode cX7_raise 21 = .ok (.bipush 6, 2) := by decide +kernel
theorem dX7_raise_23 : decode cX7_raise 23 = .ok (.if_icmp .ge 35, 3) := by decide +kernel
theorem dX7_raise_26 : decode cX7_raise 26 = .ok (.aload_n 0, 1) := by decide +kernel
theorem dX7_raise_27 : decode cX7_raise 27 = .ok (.getfield 9, 3) := by decide +kernel
theorem dX7_raise_30 : decode cX7_raise 30 = .ok (.iload_n 3, 1) := by decide +kernel
theorem dX7_raise_31 : decode cX7_raise 31 = .ok (.dup2, 1) := by decide +kernel
theorem dX7_raise_32 : decode cX7_raise 32 = .ok (.laload, 1) := by decide +kernel
theorem dX7_raise_33 : decode cX7_raise 33 = .ok (.aload_n 1, 1) := by decide +kernel
theorem dX7_raise_34 : decode cX7_raise 34 = .ok (.getfield 9, 3) := by decide +kernel
theorem dX7_raise_37 : decode cX7_raise 37 = .ok (.iload_n 3, 1) := by decide +kernel
theorem dX7_raise_38 : decode cX7_raise 38 = .ok (.laload, 1) := by decide +kernel
theorem dX7_raise_39 : decode cX7_raise 39 = .ok (.iload_n 3, 1) := by decide +kernel
theorem dX7_raise_40 : decode cX7_raise 40 = .ok (.iload_n 2, 1) := by decide +kernel
theorem dX7_raise_41 : decode cX7_raise 41 = .ok (.invokestatic 33, 3) := by decide +kernel
theorem dX7_raise_44 : decode cX7_raise 44 = .ok (.ldc2_w 25, 3) := by decide +kernel
theorem dX7_raise_47 : decode cX7_raise 47 = .ok (.lxor, 1) := by decide +kernel
theorem dX7_raise_48 : decode cX7_raise 48 = .ok (.land, 1) := by decide +kernel
theorem dX7_raise_49 : decode cX7_raise 49 = .ok (.iconst 1, 1) := by decide +kernel
theorem dX7_raise_50 : decode cX7_raise 50 = .ok (.iload_n 2, 1) := by decide +kernel
theorem dX7_raise_51 : decode cX7_raise 51 = .ok (.ishl, 1) := by decide +kernel
theorem dX7_raise_52 : decode cX7_raise 52 = .ok (.lshl, 1) := by decide +kernel
theorem dX7_raise_53 : decode cX7_raise 53 = .ok (.lor, 1) := by decide +kernel
theorem dX7_raise_54 : decode cX7_raise 54 = .ok (.lastore, 1) := by decide +kernel
theorem dX7_raise_55 : decode cX7_raise 55 = .ok (.goto 30, 3) := by decide +kernel
theorem dX7_raise_58 : decode cX7_raise 58 = .ok (.iload 4, 2) := by decide +kernel
theorem dX7_raise_60 : decode cX7_raise 60 = .ok (.ifCond .lt 25, 3) := by decide +kernel
theorem dX7_raise_63 : decode cX7_raise 63 = .ok (.iload 4, 2) := by decide +kernel
theorem dX7_raise_65 : decode cX7_raise 65 = .ok (.iload_n 3, 1) := by decide +kernel
theorem dX7_raise_66 : decode cX7_raise 66 = .ok (.if_icmp .ge 19, 3) := by decide +kernel
theorem dX7_raise_69 : decode cX7_raise 69 = .ok (.aload_n 0, 1) := by decide +kernel
theorem dX7_raise_70 : decode cX7_raise 70 = .ok (.getfield 9, 3) := by decide +kernel
theorem dX7_raise_73 : decode cX7_raise 73 = .ok (.iload_n 3, 1) := by decide +kernel
theorem dX7_raise_74 : decode cX7_raise 74 = .ok (.dup2, 1) := by decide +kernel
theorem dX7_raise_75 : decode cX7_raise 75 = .ok (.laload, 1) := by decide +kernel
theorem dX7_raise_76 : decode cX7_raise 76 = .ok (.aload_n 1, 1) := by decide +kernel
theorem dX7_raise_77 : decode cX7_raise 77 = .ok (.getfield 9, 3) := by decide +kernel
theorem dX7_raise_80 : decode cX7_raise 80 = .ok (.iload 4, 2) := by decide +kernel
theorem dX7_raise_82 : decode cX7_raise 82 = .ok (.laload, 1) := by decide +kernel
theorem dX7_raise_83 : decode cX7_raise 83 = .ok (.lor, 1) := by decide +kernel
theorem dX7_raise_84 : decode cX7_raise 84 = .ok (.lastore, 1) := by decide +kernel
theorem dX7_raise_85 : decode cX7_raise 85 = .ok (.iinc 3 1, 3) := by decide +kernel
theorem dX7_raise_88 : decode cX7_raise 88 = .ok (.goto (-86), 3) := by decide +kernel
theorem dX7_raise_91 : decode cX7_raise 91 = .ok (.return_, 1) := by decide +kernel
theorem dX7_lower_0 : decode cX7_lower 0 = .ok (.iconst 0, 1) := by decide +kernel
theorem dX7_lower_1 : decode cX7_lower 1 = .ok (.istore_n 3, 1) := by decide +kernel
theorem dX7_lower_2 : decode cX7_lower 2 = .ok (.iload_n 3, 1) := by decide +kernel
theorem dX7_lower_3 : decode cX7_lower 3 = .ok (.bipush 64, 2) := by decide +kernel
theorem dX7_lower_5 : decode cX7_lower 5 = .ok (.if_icmp .ge 82, 3) := by decide +kernel
theorem dX7_lower_8 : decode cX7_lower 8 = .ok (.iload_n 3, 1) := by decide +kernel
theorem dX7_lower_9 : decode cX7_lower 9 = .ok (.iconst 1, 1) := by decide +kernel
theorem dX7_lower_10 : decode cX7_lower 10 = .ok (.iload_n 2, 1) := by decide +kernel
theorem dX7_lower_11 : decode cX7_lower 11 = .ok (.bipush 6, 2) := by decide +kernel
theorem dX7_lower_13 : decode cX7_lower 13 = .ok (.isub, 1) := by decide +kernel
theorem dX7_lower_14 : decode cX7_lower 14 = .ok (.ishl, 1) := by decide +kernel
theorem dX7_lower_15 : decode cX7_lower 15 = .ok (.ior, 1) := by decide +kernel
theorem dX7_lower_16 : decode cX7_lower 16 = .ok (.istore 4, 2) := by decide +kernel
theorem dX7_lower_18 : decode cX7_lower 18 = .ok (.iload_n 2, 1) := by decide +kernel
theorem dX7_lower_19 : decode cX7_lower 19 = .ok (.bipush 6, 2) := by decide +kernel
theorem dX7_lower_21 : decode cX7_lower 21 = .ok (.if_icmp .ge 31, 3) := by decide +kernel
theorem dX7_lower_24 : decode cX7_lower 24 = .ok (.aload_n 0, 1) := by decide +kernel
theorem dX7_lower_25 : decode cX7_lower 25 = .ok (.getfield 9, 3) := by decide +kernel
theorem dX7_lower_28 : decode cX7_lower 28 = .ok (.iload_n 3, 1) := by decide +kernel
theorem dX7_lower_29 : decode cX7_lower 29 = .ok (.dup2, 1) := by decide +kernel
theorem dX7_lower_30 : decode cX7_lower 30 = .ok (.laload, 1) := by decide +kernel
theorem dX7_lower_31 : decode cX7_lower 31 = .ok (.aload_n 1, 1) := by decide +kernel
theorem dX7_lower_32 : decode cX7_lower 32 = .ok (.getfield 9, 3) := by decide +kernel
theorem dX7_lower_35 : decode cX7_lower 35 = .ok (.iload_n 3, 1) := by decide +kernel
theorem dX7_lower_36 : decode cX7_lower 36 = .ok (.laload, 1) := by decide +kernel
theorem dX7_lower_37 : decode cX7_lower 37 = .ok (.iload_n 3, 1) := by decide +kernel
theorem dX7_lower_38 : decode cX7_lower 38 = .ok (.iload_n 2, 1) := by decide +kernel
theorem dX7_lower_39 : decode cX7_lower 39 = .ok (.invokestatic 33, 3) := by decide +kernel
theorem dX7_lower_42 : decode cX7_lower 42 = .ok (.land, 1) := by decide +kernel
theorem dX7_lower_43 : decode cX7_lower 43 = .ok (.iconst 1, 1) := by decide +kernel
theorem dX7_lower_44 : decode cX7_lower 44 = .ok (.iload_n 2, 1) := by decide +kernel
theorem dX7_lower_45 : decode cX7_lower 45 = .ok (.ishl, 1) := by decide +kernel
theorem dX7_lower_46 : decode cX7_lower 46 = .ok (.lushr, 1) := by decide +kernel
theorem dX7_lower_47 : decode cX7_lower 47 = .ok (.lor, 1) := by decide +kernel
theorem dX7_lower_48 : decode cX7_lower 48 = .ok (.lastore, 1) := by decide +kernel
theorem dX7_lower_49 : decode cX7_lower 49 = .ok (.goto 32, 3) := by decide +kernel
theorem dX7_lower_52 : decode cX7_lower 52 = .ok (.iload 4, 2) := by decide +kernel
theorem dX7_lower_54 : decode cX7_lower 54 = .ok (.iload_n 3, 1) := by decide +kernel
theorem dX7_lower_55 : decode cX7_lower 55 = .ok (.if_icmp .le 26, 3) := by decide +kernel
theorem dX7_lower_58 : decode cX7_lower 58 = .ok (.iload 4, 2) := by decide +kernel
theorem dX7_lower_60 : decode cX7_lower 60 = .ok (.bipush 64, 2) := by decide +kernel
theorem dX7_lower_62 : decode cX7_lower 62 = .ok (.if_icmp .ge 19, 3) := by decide +kernel
theorem dX7_lower_65 : decode cX7_lower 65 = .ok (.aload_n 0, 1) := by decide +kernel
theorem dX7_lower_66 : decode cX7_lower 66 = .ok (.getfield 9, 3) := by decide +kernel
theorem dX7_lower_69 : decode cX7_lower 69 = .ok (.iload_n 3, 1) := by decide +kernel
theorem dX7_lower_70 : decode cX7_lower 70 = .ok (.dup2, 1) := by decide +kernel
theorem dX7_lower_71 : decode cX7_lower 71 = .ok (.laload, 1) := by decide +kernel
theorem dX7_lower_72 : decode cX7_lower 72 = .ok (.aload_n 1, 1) := by decide +kernel
theorem dX7_lower_73 : decode cX7_lower 73 = .ok (.getfield 9, 3) := by decide +kernel
theorem dX7_lower_76 : decode cX7_lower 76 = .ok (.iload 4, 2) := by decide +kernel
theorem dX7_lower_78 : decode cX7_lower 78 = .ok (.laload, 1) := by decide +kernel
theorem dX7_lower_79 : decode cX7_lower 79 = .ok (.lor, 1) := by decide +kernel
theorem dX7_lower_80 : decode cX7_lower 80 = .ok (.lastore, 1) := by decide +kernel
theorem dX7_lower_81 : decode cX7_lower 81 = .ok (.iinc 3 1, 3) := by decide +kernel
theorem dX7_lower_84 : decode cX7_lower 84 = .ok (.goto (-82), 3) := by decide +kernel
theorem dX7_lower_87 : decode cX7_lower 87 = .ok (.return_, 1) := by decide +kernel
theorem dX7_spreadUp_0 : decode cX7_spreadUp 0 = .ok (.iconst 0, 1) := by decide +kernel
theorem dX7_spreadUp_1 : decode cX7_spreadUp 1 = .ok (.istore_n 1, 1) := by decide +kernel
theorem dX7_spreadUp_2 : decode cX7_spreadUp 2 = .ok (.iload_n 1, 1) := by decide +kernel
theorem dX7_spreadUp_3 : decode cX7_spreadUp 3 = .ok (.bipush 12, 2) := by decide +kernel
theorem dX7_spreadUp_5 : decode cX7_spreadUp 5 = .ok (.if_icmp .ge 15, 3) := by decide +kernel
theorem dX7_spreadUp_8 : decode cX7_spreadUp 8 = .ok (.aload_n 0, 1) := by decide +kernel
theorem dX7_spreadUp_9 : decode cX7_spreadUp 9 = .ok (.aload_n 0, 1) := by decide +kernel
theorem dX7_spreadUp_10 : decode cX7_spreadUp 10 = .ok (.iload_n 1, 1) := by decide +kernel
theorem dX7_spreadUp_11 : decode cX7_spreadUp 11 = .ok (.invokevirtual 54, 3) := by decide +kernel
theorem dX7_spreadUp_14 : decode cX7_spreadUp 14 = .ok (.iinc 1 1, 3) := by decide +kernel
theorem dX7_spreadUp_17 : decode cX7_spreadUp 17 = .ok (.goto (-15), 3) := by decide +kernel
theorem dX7_spreadUp_20 : decode cX7_spreadUp 20 = .ok (.return_, 1) := by decide +kernel
theorem dX7_spreadDown_0 : decode cX7_spreadDown 0 = .ok (.iconst 0, 1) := by decide +kernel
theorem dX7_spreadDown_1 : decode cX7_spreadDown 1 = .ok (.istore_n 1, 1) := by decide +kernel
theorem dX7_spreadDown_2 : decode cX7_spreadDown 2 = .ok (.iload_n 1, 1) := by decide +kernel
theorem dX7_spreadDown_3 : decode cX7_spreadDown 3 = .ok (.bipush 12, 2) := by decide +kernel
theorem dX7_spreadDown_5 : decode cX7_spreadDown 5 = .ok (.if_icmp .ge 15, 3) := by decide +kernel
theorem dX7_spreadDown_8 : decode cX7_spreadDown 8 = .ok (.aload_n 0, 1) := by decide +kernel
theorem dX7_spreadDown_9 : decode cX7_spreadDown 9 = .ok (.aload_n 0, 1) := by decide +kernel
theorem dX7_spreadDown_10 : decode cX7_spreadDown 10 = .ok (.iload_n 1, 1) := by decide +kernel
theorem dX7_spreadDown_11 : decode cX7_spreadDown 11 = .ok (.invokevirtual 58, 3) := by decide +kernel
theorem dX7_spreadDown_14 : decode cX7_spreadDown 14 = .ok (.iinc 1 1, 3) := by decide +kernel
theorem dX7_spreadDown_17 : decode cX7_spreadDown 17 = .ok (.goto (-15), 3) := by decide +kernel
theorem dX7_spreadDown_20 : decode cX7_spreadDown 20 = .ok (.return_, 1) := by decide +kernel
theorem dX7_takeLeast_0 : decode cX7_takeLeast 0 = .ok (.aload_n 2, 1) := by decide +kernel
theorem dX7_takeLeast_1 : decode cX7_takeLeast 1 = .ok (.aload_n 1, 1) := by decide +kernel
theorem dX7_takeLeast_2 : decode cX7_takeLeast 2 = .ok (.invokevirtual 61, 3) := by decide +kernel
theorem dX7_takeLeast_5 : decode cX7_takeLeast 5 = .ok (.aload_n 2, 1) := by decide +kernel
theorem dX7_takeLeast_6 : decode cX7_takeLeast 6 = .ok (.invokevirtual 65, 3) := by decide +kernel
theorem dX7_takeLeast_9 : decode cX7_takeLeast 9 = .ok (.aload_n 0, 1) := by decide +kernel
theorem dX7_takeLeast_10 : decode cX7_takeLeast 10 = .ok (.getfield 9, 3) := by decide +kernel
theorem dX7_takeLeast_13 : decode cX7_takeLeast 13 = .ok (.lconst 0, 1) := by decide +kernel
theorem dX7_takeLeast_14 : decode cX7_takeLeast 14 = .ok (.invokestatic 19, 3) := by decide +kernel
theorem dX7_takeLeast_17 : decode cX7_takeLeast 17 = .ok (.iconst 0, 1) := by decide +kernel
theorem dX7_takeLeast_18 : decode cX7_takeLeast 18 = .ok (.istore_n 3, 1) := by decide +kernel
theorem dX7_takeLeast_19 : decode cX7_takeLeast 19 = .ok (.iload_n 3, 1) := by decide +kernel
theorem dX7_takeLeast_20 : decode cX7_takeLeast 20 = .ok (.bipush 12, 2) := by decide +kernel
theorem dX7_takeLeast_22 : decode cX7_takeLeast 22 = .ok (.if_icmp .ge 15, 3) := by decide +kernel
theorem dX7_takeLeast_25 : decode cX7_takeLeast 25 = .ok (.aload_n 0, 1) := by decide +kernel
theorem dX7_takeLeast_26 : decode cX7_takeLeast 26 = .ok (.aload_n 2, 1) := by decide +kernel
theorem dX7_takeLeast_27 : decode cX7_takeLeast 27 = .ok (.iload_n 3, 1) := by decide +kernel
theorem dX7_takeLeast_28 : decode cX7_takeLeast 28 = .ok (.invokevirtual 54, 3) := by decide +kernel
theorem dX7_takeLeast_31 : decode cX7_takeLeast 31 = .ok (.iinc 3 1, 3) := by decide +kernel
theorem dX7_takeLeast_34 : decode cX7_takeLeast 34 = .ok (.goto (-15), 3) := by decide +kernel
theorem dX7_takeLeast_37 : decode cX7_takeLeast 37 = .ok (.aload_n 0, 1) := by decide +kernel
theorem dX7_takeLeast_38 : decode cX7_takeLeast 38 = .ok (.aload_n 1, 1) := by decide +kernel
theorem dX7_takeLeast_39 : decode cX7_takeLeast 39 = .ok (.aload_n 0, 1) := by decide +kernel
theorem dX7_takeLeast_40 : decode cX7_takeLeast 40 = .ok (.invokevirtual 68, 3) := by decide +kernel
theorem dX7_takeLeast_43 : decode cX7_takeLeast 43 = .ok (.return_, 1) := by decide +kernel
theorem dX7_takeGreatest_0 : decode cX7_takeGreatest 0 = .ok (.aload_n 2, 1) := by decide +kernel
theorem dX7_takeGreatest_1 : decode cX7_takeGreatest 1 = .ok (.aload_n 1, 1) := by decide +kernel
theorem dX7_takeGreatest_2 : decode cX7_takeGreatest 2 = .ok (.invokevirtual 61, 3) := by decide +kernel
theorem dX7_takeGreatest_5 : decode cX7_takeGreatest 5 = .ok (.aload_n 2, 1) := by decide +kernel
theorem dX7_takeGreatest_6 : decode cX7_takeGreatest 6 = .ok (.invokevirtual 72, 3) := by decide +kernel
theorem dX7_takeGreatest_9 : decode cX7_takeGreatest 9 = .ok (.aload_n 0, 1) := by decide +kernel
theorem dX7_takeGreatest_10 : decode cX7_takeGreatest 10 = .ok (.getfield 9, 3) := by decide +kernel
theorem dX7_takeGreatest_13 : decode cX7_takeGreatest 13 = .ok (.lconst 0, 1) := by decide +kernel
theorem dX7_takeGreatest_14 : decode cX7_takeGreatest 14 = .ok (.invokestatic 19, 3) := by decide +kernel
theorem dX7_takeGreatest_17 : decode cX7_takeGreatest 17 = .ok (.iconst 0, 1) := by decide +kernel
theorem dX7_takeGreatest_18 : decode cX7_takeGreatest 18 = .ok (.istore_n 3, 1) := by decide +kernel
theorem dX7_takeGreatest_19 : decode cX7_takeGreatest 19 = .ok (.iload_n 3, 1) := by decide +kernel
theorem dX7_takeGreatest_20 : decode cX7_takeGreatest 20 = .ok (.bipush 12, 2) := by decide +kernel
theorem dX7_takeGreatest_22 : decode cX7_takeGreatest 22 = .ok (.if_icmp .ge 15, 3) := by decide +kernel
theorem dX7_takeGreatest_25 : decode cX7_takeGreatest 25 = .ok (.aload_n 0, 1) := by decide +kernel
theorem dX7_takeGreatest_26 : decode cX7_takeGreatest 26 = .ok (.aload_n 2, 1) := by decide +kernel
theorem dX7_takeGreatest_27 : decode cX7_takeGreatest 27 = .ok (.iload_n 3, 1) := by decide +kernel
theorem dX7_takeGreatest_28 : decode cX7_takeGreatest 28 = .ok (.invokevirtual 58, 3) := by decide +kernel
theorem dX7_takeGreatest_31 : decode cX7_takeGreatest 31 = .ok (.iinc 3 1, 3) := by decide +kernel
theorem dX7_takeGreatest_34 : decode cX7_takeGreatest 34 = .ok (.goto (-15), 3) := by decide +kernel
theorem dX7_takeGreatest_37 : decode cX7_takeGreatest 37 = .ok (.aload_n 0, 1) := by decide +kernel
theorem dX7_takeGreatest_38 : decode cX7_takeGreatest 38 = .ok (.aload_n 1, 1) := by decide +kernel
theorem dX7_takeGreatest_39 : decode cX7_takeGreatest 39 = .ok (.aload_n 0, 1) := by decide +kernel
theorem dX7_takeGreatest_40 : decode cX7_takeGreatest 40 = .ok (.invokevirtual 68, 3) := by decide +kernel
theorem dX7_takeGreatest_43 : decode cX7_takeGreatest 43 = .ok (.return_, 1) := by decide +kernel
theorem dX7_takeHitting_0 : decode cX7_takeHitting 0 = .ok (.aload_n 2, 1) := by decide +kernel
theorem dX7_takeHitting_1 : decode cX7_takeHitting 1 = .ok (.aload_n 1, 1) := by decide +kernel
theorem dX7_takeHitting_2 : decode cX7_takeHitting 2 = .ok (.invokevirtual 61, 3) := by decide +kernel
theorem dX7_takeHitting_5 : decode cX7_takeHitting 5 = .ok (.aload_n 2, 1) := by decide +kernel
theorem dX7_takeHitting_6 : decode cX7_takeHitting 6 = .ok (.invokevirtual 65, 3) := by decide +kernel
theorem dX7_takeHitting_9 : decode cX7_takeHitting 9 = .ok (.aload_n 0, 1) := by decide +kernel
theorem dX7_takeHitting_10 : decode cX7_takeHitting 10 = .ok (.getfield 9, 3) := by decide +kernel
theorem dX7_takeHitting_13 : decode cX7_takeHitting 13 = .ok (.lconst 0, 1) := by decide +kernel
theorem dX7_takeHitting_14 : decode cX7_takeHitting 14 = .ok (.invokestatic 19, 3) := by decide +kernel
theorem dX7_takeHitting_17 : decode cX7_takeHitting 17 = .ok (.aload_n 1, 1) := by decide +kernel
theorem dX7_takeHitting_18 : decode cX7_takeHitting 18 = .ok (.invokevirtual 75, 3) := by decide +kernel
theorem dX7_takeHitting_21 : decode cX7_takeHitting 21 = .ok (.invokestatic 79, 3) := by decide +kernel
theorem dX7_takeHitting_24 : decode cX7_takeHitting 24 = .ok (.istore_n 3, 1) := by decide +kernel
theorem dX7_takeHitting_25 : decode cX7_takeHitting 25 = .ok (.iconst 0, 1) := by decide +kernel
theorem dX7_takeHitting_26 : decode cX7_takeHitting 26 = .ok (.istore 4, 2) := by decide +kernel
theorem dX7_takeHitting_28 : decode cX7_takeHitting 28 = .ok (.iload 4, 2) := by decide +kernel
theorem dX7_takeHitting_30 : decode cX7_takeHitting 30 = .ok (.sipush 4096, 3) := by decide +kernel
theorem dX7_takeHitting_33 : decode cX7_takeHitting 33 = .ok (.iload_n 3, 1) := by decide +kernel
theorem dX7_takeHitting_34 : decode cX7_takeHitting 34 = .ok (.ishr, 1) := by decide +kernel
theorem dX7_takeHitting_35 : decode cX7_takeHitting 35 = .ok (.if_icmp .ge 34, 3) := by decide +kernel
theorem dX7_takeHitting_38 : decode cX7_takeHitting 38 = .ok (.iload 4, 2) := by decide +kernel
theorem dX7_takeHitting_40 : decode cX7_takeHitting 40 = .ok (.iload_n 3, 1) := by decide +kernel
theorem dX7_takeHitting_41 : decode cX7_takeHitting 41 = .ok (.ishl, 1) := by decide +kernel
theorem dX7_takeHitting_42 : decode cX7_takeHitting 42 = .ok (.istore 5, 2) := by decide +kernel
theorem dX7_takeHitting_44 : decode cX7_takeHitting 44 = .ok (.aload_n 2, 1) := by decide +kernel
theorem dX7_takeHitting_45 : decode cX7_takeHitting 45 = .ok (.sipush 4095, 3) := by decide +kernel
theorem dX7_takeHitting_48 : decode cX7_takeHitting 48 = .ok (.iload 5, 2) := by decide +kernel
theorem dX7_takeHitting_50 : decode cX7_takeHitting 50 = .ok (.isub, 1) := by decide +kernel
theorem dX7_takeHitting_51 : decode cX7_takeHitting 51 = .ok (.invokevirtual 82, 3) := by decide +kernel
theorem dX7_takeHitting_54 : decode cX7_takeHitting 54 = .ok (.ifCond .ne 9, 3) := by decide +kernel
theorem dX7_takeHitting_57 : decode cX7_takeHitting 57 = .ok (.aload_n 0, 1) := by decide +kernel
theorem dX7_takeHitting_58 : decode cX7_takeHitting 58 = .ok (.iload 5, 2) := by decide +kernel
theorem dX7_takeHitting_60 : decode cX7_takeHitting 60 = .ok (.invokevirtual 86, 3) := by decide +kernel
theorem dX7_takeHitting_63 : decode cX7_takeHitting 63 = .ok (.iinc 4 1, 3) := by decide +kernel
theorem dX7_takeHitting_66 : decode cX7_takeHitting 66 = .ok (.goto (-38), 3) := by decide +kernel
theorem dX7_takeHitting_69 : decode cX7_takeHitting 69 = .ok (.return_, 1) := by decide +kernel
theorem dX7_takeOver_0 : decode cX7_takeOver 0 = .ok (.aload_n 0, 1) := by decide +kernel
theorem dX7_takeOver_1 : decode cX7_takeOver 1 = .ok (.getfield 9, 3) := by decide +kernel
theorem dX7_takeOver_4 : decode cX7_takeOver 4 = .ok (.lconst 0, 1) := by decide +kernel
theorem dX7_takeOver_5 : decode cX7_takeOver 5 = .ok (.invokestatic 19, 3) := by decide +kernel
theorem dX7_takeOver_8 : decode cX7_takeOver 8 = .ok (.sipush 4095, 3) := by decide +kernel
theorem dX7_takeOver_11 : decode cX7_takeOver 11 = .ok (.aload_n 2, 1) := by decide +kernel
theorem dX7_takeOver_12 : decode cX7_takeOver 12 = .ok (.invokevirtual 75, 3) := by decide +kernel
theorem dX7_takeOver_15 : decode cX7_takeOver 15 = .ok (.iconst (-1), 1) := by decide +kernel
theorem dX7_takeOver_16 : decode cX7_takeOver 16 = .ok (.ixor, 1) := by decide +kernel
theorem dX7_takeOver_17 : decode cX7_takeOver 17 = .ok (.iand, 1) := by decide +kernel
theorem dX7_takeOver_18 : decode cX7_takeOver 18 = .ok (.istore 4, 2) := by decide +kernel
theorem dX7_takeOver_20 : decode cX7_takeOver 20 = .ok (.iconst 1, 1) := by decide +kernel
theorem dX7_takeOver_21 : decode cX7_takeOver 21 = .ok (.iload 4, 2) := by decide +kernel
theorem dX7_takeOver_23 : decode cX7_takeOver 23 = .ok (.invokestatic 90, 3) := by decide +kernel
theorem dX7_takeOver_26 : decode cX7_takeOver 26 = .ok (.ishl, 1) := by decide +kernel
theorem dX7_takeOver_27 : decode cX7_takeOver 27 = .ok (.istore 5, 2) := by decide +kernel
theorem dX7_takeOver_29 : decode cX7_takeOver 29 = .ok (.iconst 0, 1) := by decide +kernel
theorem dX7_takeOver_30 : decode cX7_takeOver 30 = .ok (.istore 6, 2) := by decide +kernel
theorem dX7_takeOver_32 : decode cX7_takeOver 32 = .ok (.iconst 0, 1) := by decide +kernel
theorem dX7_takeOver_33 : decode cX7_takeOver 33 = .ok (.istore 7, 2) := by decide +kernel
theorem dX7_takeOver_35 : decode cX7_takeOver 35 = .ok (.iload 7, 2) := by decide +kernel
theorem dX7_takeOver_37 : decode cX7_takeOver 37 = .ok (.iload 5, 2) := by decide +kernel
theorem dX7_takeOver_39 : decode cX7_takeOver 39 = .ok (.if_icmp .ge 24, 3) := by decide +kernel
theorem dX7_takeOver_42 : decode cX7_takeOver 42 = .ok (.aload_n 0, 1) := by decide +kernel
theorem dX7_takeOver_43 : decode cX7_takeOver 43 = .ok (.iload 6, 2) := by decide +kernel
theorem dX7_takeOver_45 : decode cX7_takeOver 45 = .ok (.invokevirtual 86, 3) := by decide +kernel
theorem dX7_takeOver_48 : decode cX7_takeOver 48 = .ok (.iload 6, 2) := by decide +kernel
theorem dX7_takeOver_50 : decode cX7_takeOver 50 = .ok (.iload 4, 2) := by decide +kernel
theorem dX7_takeOver_52 : decode cX7_takeOver 52 = .ok (.invokestatic 94, 3) := by decide +kernel
theorem dX7_takeOver_55 : decode cX7_takeOver 55 = .ok (.istore 6, 2) := by decide +kernel
theorem dX7_takeOver_57 : decode cX7_takeOver 57 = .ok (.iinc 7 1, 3) := by decide +kernel
theorem dX7_takeOver_60 : decode cX7_takeOver 60 = .ok (.goto (-25), 3) := by decide +kernel
theorem dX7_takeOver_63 : decode cX7_takeOver 63 = .ok (.aload_n 2, 1) := by decide +kernel
theorem dX7_takeOver_64 : decode cX7_takeOver 64 = .ok (.aload_n 3, 1) := by decide +kernel
theorem dX7_takeOver_65 : decode cX7_takeOver 65 = .ok (.invokevirtual 98, 3) := by decide +kernel
theorem dX7_takeOver_68 : decode cX7_takeOver 68 = .ok (.istore 7, 2) := by decide +kernel
theorem dX7_takeOver_70 : decode cX7_takeOver 70 = .ok (.iconst 0, 1) := by decide +kernel
theorem dX7_takeOver_71 : decode cX7_takeOver 71 = .ok (.istore 8, 2) := by decide +kernel
theorem dX7_takeOver_73 : decode cX7_takeOver 73 = .ok (.iload 8, 2) := by decide +kernel
theorem dX7_takeOver_75 : decode cX7_takeOver 75 = .ok (.iload 7, 2) := by decide +kernel
theorem dX7_takeOver_77 : decode cX7_takeOver 77 = .ok (.if_icmp .ge 64, 3) := by decide +kernel
theorem dX7_takeOver_80 : decode cX7_takeOver 80 = .ok (.iload 8, 2) := by decide +kernel
theorem dX7_takeOver_82 : decode cX7_takeOver 82 = .ok (.aload_n 3, 1) := by decide +kernel
theorem dX7_takeOver_83 : decode cX7_takeOver 83 = .ok (.arraylength, 1) := by decide +kernel
theorem dX7_takeOver_84 : decode cX7_takeOver 84 = .ok (.if_icmp .ge 57, 3) := by decide +kernel
theorem dX7_takeOver_87 : decode cX7_takeOver 87 = .ok (.iconst 0, 1) := by decide +kernel
theorem dX7_takeOver_88 : decode cX7_takeOver 88 = .ok (.istore 6, 2) := by decide +kernel
theorem dX7_takeOver_90 : decode cX7_takeOver 90 = .ok (.iconst 0, 1) := by decide +kernel
theorem dX7_takeOver_91 : decode cX7_takeOver 91 = .ok (.istore 9, 2) := by decide +kernel
theorem dX7_takeOver_93 : decode cX7_takeOver 93 = .ok (.iload 9, 2) := by decide +kernel
theorem dX7_takeOver_95 : decode cX7_takeOver 95 = .ok (.iload 5, 2) := by decide +kernel
theorem dX7_takeOver_97 : decode cX7_takeOver 97 = .ok (.if_icmp .ge 38, 3) := by decide +kernel
theorem dX7_takeOver_100 : decode cX7_takeOver 100 = .ok (.aload_n 1, 1) := by decide +kernel
theorem dX7_takeOver_101 : decode cX7_takeOver 101 = .ok (.iload 6, 2) := by decide +kernel
theorem dX7_takeOver_103 : decode cX7_takeOver 103 = .ok (.aload_n 3, 1) := by decide +kernel
theorem dX7_takeOver_104 : decode cX7_takeOver 104 = .ok (.iload 8, 2) := by decide +kernel
theorem dX7_takeOver_106 : decode cX7_takeOver 106 = .ok (.iaload, 1) := by decide +kernel
theorem dX7_takeOver_107 : decode cX7_takeOver 107 = .ok (.ior, 1) := by decide +kernel
theorem dX7_takeOver_108 : decode cX7_takeOver 108 = .ok (.invokevirtual 82, 3) := by decide +kernel
theorem dX7_takeOver_111 : decode cX7_takeOver 111 = .ok (.ifCond .ne 9, 3) := by decide +kernel
theorem dX7_takeOver_114 : decode cX7_takeOver 114 = .ok (.aload_n 0, 1) := by decide +kernel
theorem dX7_takeOver_115 : decode cX7_takeOver 115 = .ok (.iload 6, 2) := by decide +kernel
theorem dX7_takeOver_117 : decode cX7_takeOver 117 = .ok (.invokevirtual 102, 3) := by decide +kernel
theorem dX7_takeOver_120 : decode cX7_takeOver 120 = .ok (.iload 6, 2) := by decide +kernel
theorem dX7_takeOver_122 : decode cX7_takeOver 122 = .ok (.iload 4, 2) := by decide +kernel
theorem dX7_takeOver_124 : decode cX7_takeOver 124 = .ok (.invokestatic 94, 3) := by decide +kernel
theorem dX7_takeOver_127 : decode cX7_takeOver 127 = .ok (.istore 6, 2) := by decide +kernel
theorem dX7_takeOver_129 : decode cX7_takeOver 129 = .ok (.iinc 9 1, 3) := by decide +kernel
theorem dX7_takeOver_132 : decode cX7_takeOver 132 = .ok (.goto (-39), 3) := by decide +kernel
theorem dX7_takeOver_135 : decode cX7_takeOver 135 = .ok (.iinc 8 1, 3) := by decide +kernel
theorem dX7_takeOver_138 : decode cX7_takeOver 138 = .ok (.goto (-65), 3) := by decide +kernel
theorem dX7_takeOver_141 : decode cX7_takeOver 141 = .ok (.return_, 1) := by decide +kernel
theorem dX7_nextWithin_0 : decode cX7_nextWithin 0 = .ok (.iload_n 0, 1) := by decide +kernel
theorem dX7_nextWithin_1 : decode cX7_nextWithin 1 = .ok (.iload_n 1, 1) := by decide +kernel
theorem dX7_nextWithin_2 : decode cX7_nextWithin 2 = .ok (.isub, 1) := by decide +kernel
theorem dX7_nextWithin_3 : decode cX7_nextWithin 3 = .ok (.iload_n 1, 1) := by decide +kernel
theorem dX7_nextWithin_4 : decode cX7_nextWithin 4 = .ok (.iand, 1) := by decide +kernel
theorem dX7_nextWithin_5 : decode cX7_nextWithin 5 = .ok (.ireturn, 1) := by decide +kernel
theorem dX8_init_0 : decode cX8_init 0 = .ok (.aload_n 0, 1) := by decide +kernel
theorem dX8_init_1 : decode cX8_init 1 = .ok (.invokespecial 1, 3) := by decide +kernel
theorem dX8_init_4 : decode cX8_init 4 = .ok (.aload_n 0, 1) := by decide +kernel
theorem dX8_init_5 : decode cX8_init 5 = .ok (.new 7, 3) := by decide +kernel
theorem dX8_init_8 : decode cX8_init 8 = .ok (.dup, 1) := by decide +kernel
theorem dX8_init_9 : decode cX8_init 9 = .ok (.invokespecial 9, 3) := by decide +kernel
theorem dX8_init_12 : decode cX8_init 12 = .ok (.putfield 10, 3) := by decide +kernel
theorem dX8_init_15 : decode cX8_init 15 = .ok (.aload_n 0, 1) := by decide +kernel
theorem dX8_init_16 : decode cX8_init 16 = .ok (.bipush 30, 2) := by decide +kernel
theorem dX8_init_18 : decode cX8_init 18 = .ok (.anewarray 16, 3) := by decide +kernel
theorem dX8_init_21 : decode cX8_init 21 = .ok (.putfield 18, 3) := by decide +kernel
theorem dX8_init_24 : decode cX8_init 24 = .ok (.iconst 0, 1) := by decide +kernel
theorem dX8_init_25 : decode cX8_init 25 = .ok (.istore_n 1, 1) := by decide +kernel
theorem dX8_init_26 : decode cX8_init 26 = .ok (.iload_n 1, 1) := by decide +kernel
theorem dX8_init_27 : decode cX8_init 27 = .ok (.bipush 30, 2) := by decide +kernel
theorem dX8_init_29 : decode cX8_init 29 = .ok (.if_icmp .ge 22, 3) := by decide +kernel
theorem dX8_init_32 : decode cX8_init 32 = .ok (.aload_n 0, 1) := by decide +kernel
theorem dX8_init_33 : decode cX8_init 33 = .ok (.getfield 18, 3) := by decide +kernel
theorem dX8_init_36 : decode cX8_init 36 = .ok (.iload_n 1, 1) := by decide +kernel
theorem dX8_init_37 : decode cX8_init 37 = .ok (.new 16, 3) := by decide +kernel
theorem dX8_init_40 : decode cX8_init 40 = .ok (.dup, 1) := by decide +kernel
theorem dX8_init_41 : decode cX8_init 41 = .ok (.invokespecial 22, 3) := by decide +kernel
theorem dX8_init_44 : decode cX8_init 44 = .ok (.aastore, 1) := by decide +kernel
theorem dX8_init_45 : decode cX8_init 45 = .ok (.iinc 1 1, 3) := by decide +kernel
theorem dX8_init_48 : decode cX8_init 48 = .ok (.goto (-22), 3) := by decide +kernel
theorem dX8_init_51 : decode cX8_init 51 = .ok (.aload_n 0, 1) := by decide +kernel
theorem dX8_init_52 : decode cX8_init 52 = .ok (.new 16, 3) := by decide +kernel
theorem dX8_init_55 : decode cX8_init 55 = .ok (.dup, 1) := by decide +kernel
theorem dX8_init_56 : decode cX8_init 56 = .ok (.invokespecial 22, 3) := by decide +kernel
theorem dX8_init_59 : decode cX8_init 59 = .ok (.putfield 23, 3) := by decide +kernel
theorem dX8_init_62 : decode cX8_init 62 = .ok (.aload_n 0, 1) := by decide +kernel
theorem dX8_init_63 : decode cX8_init 63 = .ok (.new 16, 3) := by decide +kernel
theorem dX8_init_66 : decode cX8_init 66 = .ok (.dup, 1) := by decide +kernel
theorem dX8_init_67 : decode cX8_init 67 = .ok (.invokespecial 22, 3) := by decide +kernel
theorem dX8_init_70 : decode cX8_init 70 = .ok (.putfield 27, 3) := by decide +kernel
theorem dX8_init_73 : decode cX8_init 73 = .ok (.aload_n 0, 1) := by decide +kernel
theorem dX8_init_74 : decode cX8_init 74 = .ok (.sipush 4096, 3) := by decide +kernel
theorem dX8_init_77 : decode cX8_init 77 = .ok (.newarray .int, 2) := by decide +kernel
theorem dX8_init_79 : decode cX8_init 79 = .ok (.putfield 30, 3) := by decide +kernel
theorem dX8_init_82 : decode cX8_init 82 = .ok (.aload_n 0, 1) := by decide +kernel
theorem dX8_init_83 : decode cX8_init 83 = .ok (.new 34, 3) := by decide +kernel
theorem dX8_init_86 : decode cX8_init 86 = .ok (.dup, 1) := by decide +kernel
theorem dX8_init_87 : decode cX8_init 87 = .ok (.invokespecial 36, 3) := by decide +kernel
theorem dX8_init_90 : decode cX8_init 90 = .ok (.putfield 37, 3) := by decide +kernel
theorem dX8_init_93 : decode cX8_init 93 = .ok (.aload_n 0, 1) := by decide +kernel
theorem dX8_init_94 : decode cX8_init 94 = .ok (.new 41, 3) := by decide +kernel
theorem dX8_init_97 : decode cX8_init 97 = .ok (.dup, 1) := by decide +kernel
theorem dX8_init_98 : decode cX8_init 98 = .ok (.invokespecial 43, 3) := by decide +kernel
theorem dX8_init_101 : decode cX8_init 101 = .ok (.putfield 44, 3) := by decide +kernel
theorem dX8_init_104 : decode cX8_init 104 = .ok (.aload_n 0, 1) := by decide +kernel
theorem dX8_init_105 : decode cX8_init 105 = .ok (.new 48, 3) := by decide +kernel
theorem dX8_init_108 : decode cX8_init 108 = .ok (.dup, 1) := by decide +kernel
theorem dX8_init_109 : decode cX8_init 109 = .ok (.invokespecial 50, 3) := by decide +kernel
theorem dX8_init_112 : decode cX8_init 112 = .ok (.putfield 51, 3) := by decide +kernel
theorem dX8_init_115 : decode cX8_init 115 = .ok (.aload_n 0, 1) := by decide +kernel
theorem dX8_init_116 : decode cX8_init 116 = .ok (.new 48, 3) := by decide +kernel
theorem dX8_init_119 : decode cX8_init 119 = .ok (.dup, 1) := by decide +kernel
theorem dX8_init_120 : decode cX8_init 120 = .ok (.invokespecial 50, 3) := by decide +kernel
theorem dX8_init_123 : decode cX8_init 123 = .ok (.putfield 55, 3) := by decide +kernel
theorem dX8_init_126 : decode cX8_init 126 = .ok (.aload_n 0, 1) := by decide +kernel
theorem dX8_init_127 : decode cX8_init 127 = .ok (.new 58, 3) := by decide +kernel
theorem dX8_init_130 : decode cX8_init 130 = .ok (.dup, 1) := by decide +kernel
theorem dX8_init_131 : decode cX8_init 131 = .ok (.invokespecial 60, 3) := by decide +kernel
theorem dX8_init_134 : decode cX8_init 134 = .ok (.putfield 61, 3) := by decide +kernel
theorem dX8_init_137 : decode cX8_init 137 = .ok (.aload_n 0, 1) := by decide +kernel
theorem dX8_init_138 : decode cX8_init 138 = .ok (.new 65, 3) := by decide +kernel
theorem dX8_init_141 : decode cX8_init 141 = .ok (.dup, 1) := by decide +kernel
theorem dX8_init_142 : decode cX8_init 142 = .ok (.invokespecial 67, 3) := by decide +kernel
theorem dX8_init_145 : decode cX8_init 145 = .ok (.putfield 68, 3) := by decide +kernel
theorem dX8_init_148 : decode cX8_init 148 = .ok (.return_, 1) := by decide +kernel
theorem dX8_post_0 : decode cX8_post 0 = .ok (.iload_n 1, 1) := by decide +kernel
theorem dX8_post_1 : decode cX8_post 1 = .ok (.ifCond .lt 9, 3) := by decide +kernel
theorem dX8_post_4 : decode cX8_post 4 = .ok (.iload_n 1, 1) := by decide +kernel
theorem dX8_post_5 : decode cX8_post 5 = .ok (.bipush 99, 2) := by decide +kernel
theorem dX8_post_7 : decode cX8_post 7 = .ok (.if_icmp .le 6, 3) := by decide +kernel
theorem dX8_post_10 : decode cX8_post 10 = .ok (.bipush (-2), 2) := by decide +kernel
theorem dX8_post_12 : decode cX8_post 12 = .ok (.ireturn, 1) := by decide +kernel
theorem dX8_post_13 : decode cX8_post 13 = .ok (.aload_n 0, 1) := by decide +kernel
theorem dX8_post_14 : decode cX8_post 14 = .ok (.getfield 10, 3) := by decide +kernel
theorem dX8_post_17 : decode cX8_post 17 = .ok (.iload_n 1, 1) := by decide +kernel
theorem dX8_post_18 : decode cX8_post 18 = .ok (.invokevirtual 72, 3) := by decide +kernel
theorem dX8_post_21 : decode cX8_post 21 = .ok (.ireturn, 1) := by decide +kernel
theorem dX8_road_0 : decode cX8_road 0 = .ok (.aload_n 0, 1) := by decide +kernel
theorem dX8_road_1 : decode cX8_road 1 = .ok (.getfield 10, 3) := by decide +kernel
theorem dX8_road_4 : decode cX8_road 4 = .ok (.iload_n 1, 1) := by decide +kernel
theorem dX8_road_5 : decode cX8_road 5 = .ok (.invokevirtual 76, 3) := by decide +kernel
theorem dX8_road_8 : decode cX8_road 8 = .ok (.ifCond .eq 31, 3) := by decide +kernel
theorem dX8_road_11 : decode cX8_road 11 = .ok (.aload_n 0, 1) := by decide +kernel
theorem dX8_road_12 : decode cX8_road 12 = .ok (.getfield 10, 3) := by decide +kernel
theorem dX8_road_15 : decode cX8_road 15 = .ok (.iload_n 2, 1) := by decide +kernel
theorem dX8_road_16 : decode cX8_road 16 = .ok (.invokevirtual 76, 3) := by decide +kernel
theorem dX8_road_19 : decode cX8_road 19 = .ok (.ifCond .eq 20, 3) := by decide +kernel
theorem dX8_road_22 : decode cX8_road 22 = .ok (.iload_n 1, 1) := by decide +kernel
theorem dX8_road_23 : decode cX8_road 23 = .ok (.iload_n 2, 1) := by decide +kernel
theorem dX8_road_24 : decode cX8_road 24 = .ok (.if_icmp .eq 15, 3) := by decide +kernel
theorem dX8_road_27 : decode cX8_road 27 = .ok (.iload_n 3, 1) := by decide +kernel
theorem dX8_road_28 : decode cX8_road 28 = .ok (.bipush (-50), 2) := by decide +kernel
theorem dX8_road_30 : decode cX8_road 30 = .ok (.if_icmp .lt 9, 3) := by decide +kernel
theorem dX8_road_33 : decode cX8_road 33 = .ok (.iload_n 3, 1) := by decide +kernel
theorem dX8_road_34 : decode cX8_road 34 = .ok (.bipush 50, 2) := by decide +kernel
theorem dX8_road_36 : decode cX8_road 36 = .ok (.if_icmp .le 6, 3) := by decide +kernel
theorem dX8_road_39 : decode cX8_road 39 = .ok (.bipush (-2), 2) := by decide +kernel
theorem dX8_road_41 : decode cX8_road 41 = .ok (.ireturn, 1) := by decide +kernel
theorem dX8_road_42 : decode cX8_road 42 = .ok (.aload_n 0, 1) := by decide +kernel
theorem dX8_road_43 : decode cX8_road 43 = .ok (.getfield 10, 3) := by decide +kernel
theorem dX8_road_46 : decode cX8_road 46 = .ok (.iload_n 1, 1) := by decide +kernel
theorem dX8_road_47 : decode cX8_road 47 = .ok (.iload_n 2, 1) := by decide +kernel
theorem dX8_road_48 : decode cX8_road 48 = .ok (.invokevirtual 80, 3) := by decide +kernel
theorem dX8_road_51 : decode cX8_road 51 = .ok (.ifCond .eq 6, 3) := by decide +kernel
theorem dX8_road_54 : decode cX8_road 54 = .ok (.bipush (-3), 2) := by decide +kernel
theorem dX8_road_56 : decode cX8_road 56 = .ok (.ireturn, 1) := by decide +kernel
theorem dX8_road_57 : decode cX8_road 57 = .ok (.aload_n 0, 1) := by decide +kernel
theorem dX8_road_58 : decode cX8_road 58 = .ok (.getfield 10, 3) := by decide +kernel
theorem dX8_road_61 : decode cX8_road 61 = .ok (.iload_n 1, 1) := by decide +kernel
theorem dX8_road_62 : decode cX8_road 62 = .ok (.iload_n 2, 1) := by decide +kernel
theorem dX8_road_63 : decode cX8_road 63 = .ok (.iload_n 3, 1) := by decide +kernel
theorem dX8_road_64 : decode cX8_road 64 = .ok (.invokevirtual 84, 3) := by decide +kernel
theorem dX8_road_67 : decode cX8_road 67 = .ok (.ireturn, 1) := by decide +kernel
theorem dX8_odds_0 : decode cX8_odds 0 = .ok (.aload_n 0, 1) := by decide +kernel
theorem dX8_odds_1 : decode cX8_odds 1 = .ok (.getfield 10, 3) := by decide +kernel
theorem dX8_odds_4 : decode cX8_odds 4 = .ok (.iload_n 1, 1) := by decide +kernel
theorem dX8_odds_5 : decode cX8_odds 5 = .ok (.invokevirtual 88, 3) := by decide +kernel
theorem dX8_odds_8 : decode cX8_odds 8 = .ok (.ifCond .eq 13, 3) := by decide +kernel
theorem dX8_odds_11 : decode cX8_odds 11 = .ok (.iload_n 2, 1) := by decide +kernel
theorem dX8_odds_12 : decode cX8_odds 12 = .ok (.ifCond .lt 9, 3) := by decide +kernel
theorem dX8_odds_15 : decode cX8_odds 15 = .ok (.iload_n 2, 1) := by decide +kernel
theorem dX8_odds_16 : decode cX8_odds 16 = .ok (.bipush 8, 2) := by decide +kernel
theorem dX8_odds_18 : decode cX8_odds 18 = .ok (.if_icmp .le 6, 3) := by decide +kernel
theorem dX8_odds_21 : decode cX8_odds 21 = .ok (.bipush (-2), 2) := by decide +kernel
theorem dX8_odds_23 : decode cX8_odds 23 = .ok (.ireturn, 1) := by decide +kernel
theorem dX8_odds_24 : decode cX8_odds 24 = .ok (.aload_n 0, 1) := by decide +kernel
theorem dX8_odds_25 : decode cX8_odds 25 = .ok (.getfield 10, 3) := by decide +kernel
theorem dX8_odds_28 : decode cX8_odds 28 = .ok (.getfield 91, 3) := by decide +kernel
theorem dX8_odds_31 : decode cX8_odds 31 = .ok (.iload_n 1, 1) := by decide +kernel
theorem dX8_odds_32 : decode cX8_odds 32 = .ok (.iaload, 1) := by decide +kernel
theorem dX8_odds_33 : decode cX8_odds 33 = .ok (.istore_n 3, 1) := by decide +kernel
theorem dX8_odds_34 : decode cX8_odds 34 = .ok (.aload_n 0, 1) := by decide +kernel
theorem dX8_odds_35 : decode cX8_odds 35 = .ok (.getfield 10, 3) := by decide +kernel
theorem dX8_odds_38 : decode cX8_odds 38 = .ok (.getfield 91, 3) := by decide +kernel
theorem dX8_odds_41 : decode cX8_odds 41 = .ok (.iload_n 1, 1) := by decide +kernel
theorem dX8_odds_42 : decode cX8_odds 42 = .ok (.iload_n 2, 1) := by decide +kernel
theorem dX8_odds_43 : decode cX8_odds 43 = .ok (.iastore, 1) := by decide +kernel
theorem dX8_odds_44 : decode cX8_odds 44 = .ok (.iload_n 3, 1) := by decide +kernel
theorem dX8_odds_45 : decode cX8_odds 45 = .ok (.ireturn, 1) := by decide +kernel
theorem dX8_roadOf_0 : decode cX8_roadOf 0 = .ok (.aload_n 0, 1) := by decide +kernel
theorem dX8_roadOf_1 : decode cX8_roadOf 1 = .ok (.getfield 10, 3) := by decide +kernel
theorem dX8_roadOf_4 : decode cX8_roadOf 4 = .ok (.iload_n 1, 1) := by decide +kernel
theorem dX8_roadOf_5 : decode cX8_roadOf 5 = .ok (.invokevirtual 88, 3) := by decide +kernel
theorem dX8_roadOf_8 : decode cX8_roadOf 8 = .ok (.ifCond .ne 6, 3) := by decide +kernel
theorem dX8_roadOf_11 : decode cX8_roadOf 11 = .ok (.bipush (-2), 2) := by decide +kernel
theorem dX8_roadOf_13 : decode cX8_roadOf 13 = .ok (.ireturn, 1) := by decide +kernel
theorem dX8_roadOf_14 : decode cX8_roadOf 14 = .ok (.iload_n 2, 1) := by decide +kernel
theorem dX8_roadOf_15 : decode cX8_roadOf 15 = .ok (.tableswitch 69 0 3 #[29, 39, 49, 59], 29) := by decide +kernel
theorem dX8_roadOf_44 : decode cX8_roadOf 44 = .ok (.aload_n 0, 1) := by decide +kernel
theorem dX8_roadOf_45 : decode cX8_roadOf 45 = .ok (.getfield 10, 3) := by decide +kernel
theorem dX8_roadOf_48 : decode cX8_roadOf 48 = .ok (.getfield 94, 3) := by decide +kernel
theorem dX8_roadOf_51 : decode cX8_roadOf 51 = .ok (.iload_n 1, 1) := by decide +kernel
theorem dX8_roadOf_52 : decode cX8_roadOf 52 = .ok (.iaload, 1) := by decide +kernel
theorem dX8_roadOf_53 : decode cX8_roadOf 53 = .ok (.ireturn, 1) := by decide +kernel
theorem dX8_roadOf_54 : decode cX8_roadOf 54 = .ok (.aload_n 0, 1) := by decide +kernel
theorem dX8_roadOf_55 : decode cX8_roadOf 55 = .ok (.getfield 10, 3) := by decide +kernel
theorem dX8_roadOf_58 : decode cX8_roadOf 58 = .ok (.getfield 97, 3) := by decide +kernel
theorem dX8_roadOf_61 : decode cX8_roadOf 61 = .ok (.iload_n 1, 1) := by decide +kernel
theorem dX8_roadOf_62 : decode cX8_roadOf 62 = .ok (.iaload, 1) := by decide +kernel
theorem dX8_roadOf_63 : decode cX8_roadOf 63 = .ok (.ireturn, 1) := by decide +kernel
theorem dX8_roadOf_64 : decode cX8_roadOf 64 = .ok (.aload_n 0, 1) := by decide +kernel
theorem dX8_roadOf_65 : decode cX8_roadOf 65 = .ok (.getfield 10, 3) := by decide +kernel
theorem dX8_roadOf_68 : decode cX8_roadOf 68 = .ok (.getfield 100, 3) := by decide +kernel
theorem dX8_roadOf_71 : decode cX8_roadOf 71 = .ok (.iload_n 1, 1) := by decide +kernel
theorem dX8_roadOf_72 : decode cX8_roadOf 72 = .ok (.iaload, 1) := by decide +kernel
theorem dX8_roadOf_73 : decode cX8_roadOf 73 = .ok (.ireturn, 1) := by decide +kernel
theorem dX8_roadOf_74 : decode cX8_roadOf 74 = .ok (.aload_n 0, 1) := by decide +kernel
theorem dX8_roadOf_75 : decode cX8_roadOf 75 = .ok (.getfield 10, 3) := by decide +kernel
theorem dX8_roadOf_78 : decode cX8_roadOf 78 = .ok (.getfield 91, 3) := by decide +kernel
theorem dX8_roadOf_81 : decode cX8_roadOf 81 = .ok (.iload_n 1, 1) := by decide +kernel
theorem dX8_roadOf_82 : decode cX8_roadOf 82 = .ok (.iaload, 1) := by decide +kernel
theorem dX8_roadOf_83 : decode cX8_roadOf 83 = .ok (.ireturn, 1) := by decide +kernel
theorem dX8_roadOf_84 : decode cX8_roadOf 84 = .ok (.bipush (-2), 2) := by decide +kernel
theorem dX8_roadOf_86 : decode cX8_roadOf 86 = .ok (.ireturn, 1) := by decide +kernel
theorem dX8_tell_0 : decode cX8_tell 0 = .ok (.iload_n 1, 1) := by decide +kernel
theorem dX8_tell_1 : decode cX8_tell 1 = .ok (.iconst (-1), 1) := by decide +kernel
theorem dX8_tell_2 : decode cX8_tell 2 = .ok (.if_icmp .eq 17, 3) := by decide +kernel
theorem dX8_tell_5 : decode cX8_tell 5 = .ok (.aload_n 0, 1) := by decide +kernel
theorem dX8_tell_6 : decode cX8_tell 6 = .ok (.getfield 10, 3) := by decide +kernel
theorem dX8_tell_9 : decode cX8_tell 9 = .ok (.iload_n 1, 1) := by decide +kernel
theorem dX8_tell_10 : decode cX8_tell 10 = .ok (.invokevirtual 103, 3) := by decide +kernel
theorem dX8_tell_13 : decode cX8_tell 13 = .ok (.ifCond .ne 6, 3) := by decide +kernel
theorem dX8_tell_16 : decode cX8_tell 16 = .ok (.bipush (-2), 2) := by decide +kernel
theorem dX8_tell_18 : decode cX8_tell 18 = .ok (.ireturn, 1) := by decide +kernel
theorem dX8_tell_19 : decode cX8_tell 19 = .ok (.aload_n 0, 1) := by decide +kernel
theorem dX8_tell_20 : decode cX8_tell 20 = .ok (.iconst 0, 1) := by decide +kernel
theorem dX8_tell_21 : decode cX8_tell 21 = .ok (.invokevirtual 106, 3) := by decide +kernel
theorem dX8_tell_24 : decode cX8_tell 24 = .ok (.astore_n 2, 1) := by decide +kernel
theorem dX8_tell_25 : decode cX8_tell 25 = .ok (.aload_n 2, 1) := by decide +kernel
theorem dX8_tell_26 : decode cX8_tell 26 = .ok (.ifnonnull 6, 3) := by decide +kernel
theorem dX8_tell_29 : decode cX8_tell 29 = .ok (.bipush (-4), 2) := by decide +kernel
theorem dX8_tell_31 : decode cX8_tell 31 = .ok (.ireturn, 1) := by decide +kernel
theorem dX8_tell_32 : decode cX8_tell 32 = .ok (.iload_n 1, 1) := by decide +kernel
theorem dX8_tell_33 : decode cX8_tell 33 = .ok (.iconst (-1), 1) := by decide +kernel
theorem dX8_tell_34 : decode cX8_tell 34 = .ok (.if_icmp .eq 11, 3) := by decide +kernel
theorem dX8_tell_37 : decode cX8_tell 37 = .ok (.aload_n 2, 1) := by decide +kernel
theorem dX8_tell_38 : decode cX8_tell 38 = .ok (.iload_n 1, 1) := by decide +kernel
theorem dX8_tell_39 : decode cX8_tell 39 = .ok (.invokestatic 110, 3) := by decide +kernel
theorem dX8_tell_42 : decode cX8_tell 42 = .ok (.invokevirtual 113, 3) := by decide +kernel
theorem dX8_tell_45 : decode cX8_tell 45 = .ok (.aload_n 0, 1) := by decide +kernel
theorem dX8_tell_46 : decode cX8_tell 46 = .ok (.invokevirtual 117, 3) := by decide +kernel
theorem dX8_tell_49 : decode cX8_tell 49 = .ok (.ireturn, 1) := by decide +kernel
theorem dX8_all_0 : decode cX8_all 0 = .ok (.aload_n 0, 1) := by decide +kernel
theorem dX8_all_1 : decode cX8_all 1 = .ok (.getfield 10, 3) := by decide +kernel
theorem dX8_all_4 : decode cX8_all 4 = .ok (.iload_n 1, 1) := by decide +kernel
theorem dX8_all_5 : decode cX8_all 5 = .ok (.invokevirtual 103, 3) := by decide +kernel
theorem dX8_all_8 : decode cX8_all 8 = .ok (.ifCond .ne 6, 3) := by decide +kernel
theorem dX8_all_11 : decode cX8_all 11 = .ok (.bipush (-2), 2) := by decide +kernel
theorem dX8_all_13 : decode cX8_all 13 = .ok (.ireturn, 1) := by decide +kernel
theorem dX8_all_14 : decode cX8_all 14 = .ok (.aload_n 0, 1) := by decide +kernel
theorem dX8_all_15 : decode cX8_all 15 = .ok (.iconst 0, 1) := by decide +kernel
theorem dX8_all_16 : decode cX8_all 16 = .ok (.invokevirtual 106, 3) := by decide +kernel
theorem dX8_all_19 : decode cX8_all 19 = .ok (.astore_n 2, 1) := by decide +kernel
theorem dX8_all_20 : decode cX8_all 20 = .ok (.aload_n 2, 1) := by decide +kernel
theorem dX8_all_21 : decode cX8_all 21 = .ok (.ifnonnull 6, 3) := by decide +kernel
theorem dX8_all_24 : decode cX8_all 24 = .ok (.bipush (-4), 2) := by decide +kernel
theorem dX8_all_26 : decode cX8_all 26 = .ok (.ireturn, 1) := by decide +kernel
theorem dX8_all_27 : decode cX8_all 27 = .ok (.aload_n 2, 1) := by decide +kernel
theorem dX8_all_28 : decode cX8_all 28 = .ok (.iload_n 1, 1) := by decide +kernel
theorem dX8_all_29 : decode cX8_all 29 = .ok (.invokestatic 110, 3) := by decide +kernel
theorem dX8_all_32 : decode cX8_all 32 = .ok (.invokevirtual 113, 3) := by decide +kernel
theorem dX8_all_35 : decode cX8_all 35 = .ok (.aload_n 2, 1) := by decide +kernel
theorem dX8_all_36 : decode cX8_all 36 = .ok (.invokevirtual 121, 3) := by decide +kernel
theorem dX8_all_39 : decode cX8_all 39 = .ok (.aload_n 0, 1) := by decide +kernel
theorem dX8_all_40 : decode cX8_all 40 = .ok (.invokevirtual 117, 3) := by decide +kernel
theorem dX8_all_43 : decode cX8_all 43 = .ok (.ireturn, 1) := by decide +kernel
theorem dX8_paths_0 : decode cX8_paths 0 = .ok (.aload_n 0, 1) := by decide +kernel
theorem dX8_paths_1 : decode cX8_paths 1 = .ok (.getfield 10, 3) := by decide +kernel
theorem dX8_paths_4 : decode cX8_paths 4 = .ok (.iload_n 1, 1) := by decide +kernel
theorem dX8_paths_5 : decode cX8_paths 5 = .ok (.invokevirtual 76, 3) := by decide +kernel
theorem dX8_paths_8 : decode cX8_paths 8 = .ok (.ifCond .eq 19, 3) := by decide +kernel
theorem dX8_paths_11 : decode cX8_paths 11 = .ok (.aload_n 0, 1) := by decide +kernel
theorem dX8_paths_12 : decode cX8_paths 12 = .ok (.getfield 10, 3) := by decide +kernel
theorem dX8_paths_15 : decode cX8_paths 15 = .ok (.iload_n 2, 1) := by decide +kernel
theorem dX8_paths_16 : decode cX8_paths 16 = .ok (.invokevirtual 76, 3) := by decide +kernel
theorem dX8_paths_19 : decode cX8_paths 19 = .ok (.ifCond .eq 8, 3) := by decide +kernel
theorem dX8_paths_22 : decode cX8_paths 22 = .ok (.iload_n 1, 1) := by decide +kernel
theorem dX8_paths_23 : decode cX8_paths 23 = .ok (.iload_n 2, 1) := by decide +kernel
theorem dX8_paths_24 : decode cX8_paths 24 = .ok (.if_icmp .ne 6, 3) := by decide +kernel
theorem dX8_paths_27 : decode cX8_paths 27 = .ok (.bipush (-2), 2) := by decide +kernel
theorem dX8_paths_29 : decode cX8_paths 29 = .ok (.ireturn, 1) := by decide +kernel
theorem dX8_paths_30 : decode cX8_paths 30 = .ok (.aload_n 0, 1) := by decide +kernel
theorem dX8_paths_31 : decode cX8_paths 31 = .ok (.iconst 1, 1) := by decide +kernel
theorem dX8_paths_32 : decode cX8_paths 32 = .ok (.invokevirtual 106, 3) := by decide +kernel
theorem dX8_paths_35 : decode cX8_paths 35 = .ok (.astore 4, 2) := by decide +kernel
theorem dX8_paths_37 : decode cX8_paths 37 = .ok (.aload 4, 2) := by decide +kernel
theorem dX8_paths_39 : decode cX8_paths 39 = .ok (.ifnonnull 6, 3) := by decide +kernel
theorem dX8_paths_42 : decode cX8_paths 42 = .ok (.bipush (-4), 2) := by decide +kernel
theorem dX8_paths_44 : decode cX8_paths 44 = .ok (.ireturn, 1) := by decide +kernel
theorem dX8_paths_45 : decode cX8_paths 45 = .ok (.new 124, 3) := by decide +kernel
theorem dX8_paths_48 : decode cX8_paths 48 = .ok (.dup, 1) := by decide +kernel
theorem dX8_paths_49 : decode cX8_paths 49 = .ok (.aload_n 0, 1) := by decide +kernel
theorem dX8_paths_50 : decode cX8_paths 50 = .ok (.getfield 10, 3) := by decide +kernel
theorem dX8_paths_53 : decode cX8_paths 53 = .ok (.aload 4, 2) := by decide +kernel
theorem dX8_paths_55 : decode cX8_paths 55 = .ok (.invokespecial 126, 3) := by decide +kernel
theorem dX8_paths_58 : decode cX8_paths 58 = .ok (.iload_n 1, 1) := by decide +kernel
theorem dX8_paths_59 : decode cX8_paths 59 = .ok (.iload_n 2, 1) := by decide +kernel
theorem dX8_paths_60 : decode cX8_paths 60 = .ok (.iload_n 3, 1) := by decide +kernel
theorem dX8_paths_61 : decode cX8_paths 61 = .ok (.invokevirtual 129, 3) := by decide +kernel
theorem dX8_paths_64 : decode cX8_paths 64 = .ok (.aload_n 0, 1) := by decide +kernel
theorem dX8_paths_65 : decode cX8_paths 65 = .ok (.invokevirtual 117, 3) := by decide +kernel
theorem dX8_paths_68 : decode cX8_paths 68 = .ok (.ireturn, 1) := by decide +kernel
theorem dX8_rounds_0 : decode cX8_rounds 0 = .ok (.aload_n 0, 1) := by decide +kernel
theorem dX8_rounds_1 : decode cX8_rounds 1 = .ok (.iconst 2, 1) := by decide +kernel
theorem dX8_rounds_2 : decode cX8_rounds 2 = .ok (.invokevirtual 106, 3) := by decide +kernel
theorem dX8_rounds_5 : decode cX8_rounds 5 = .ok (.astore_n 2, 1) := by decide +kernel
theorem dX8_rounds_6 : decode cX8_rounds 6 = .ok (.aload_n 2, 1) := by decide +kernel
theorem dX8_rounds_7 : decode cX8_rounds 7 = .ok (.ifnonnull 6, 3) := by decide +kernel
theorem dX8_rounds_10 : decode cX8_rounds 10 = .ok (.bipush (-4), 2) := by decide +kernel
theorem dX8_rounds_12 : decode cX8_rounds 12 = .ok (.ireturn, 1) := by decide +kernel
theorem dX8_rounds_13 : decode cX8_rounds 13 = .ok (.new 124, 3) := by decide +kernel
theorem dX8_rounds_16 : decode cX8_rounds 16 = .ok (.dup, 1) := by decide +kernel
theorem dX8_rounds_17 : decode cX8_rounds 17 = .ok (.aload_n 0, 1) := by decide +kernel
theorem dX8_rounds_18 : decode cX8_rounds 18 = .ok (.getfield 10, 3) := by decide +kernel
theorem dX8_rounds_21 : decode cX8_rounds 21 = .ok (.aload_n 2, 1) := by decide +kernel
theorem dX8_rounds_22 : decode cX8_rounds 22 = .ok (.invokespecial 126, 3) := by decide +kernel
theorem dX8_rounds_25 : decode cX8_rounds 25 = .ok (.iload_n 1, 1) := by decide +kernel
theorem dX8_rounds_26 : decode cX8_rounds 26 = .ok (.invokevirtual 133, 3) := by decide +kernel
theorem dX8_rounds_29 : decode cX8_rounds 29 = .ok (.aload_n 0, 1) := by decide +kernel
theorem dX8_rounds_30 : decode cX8_rounds 30 = .ok (.invokevirtual 117, 3) := by decide +kernel
theorem dX8_rounds_33 : decode cX8_rounds 33 = .ok (.ireturn, 1) := by decide +kernel
theorem dX8_trees_0 : decode cX8_trees 0 = .ok (.iload_n 1, 1) := by decide +kernel
theorem dX8_trees_1 : decode cX8_trees 1 = .ok (.iconst 1, 1) := by decide +kernel
theorem dX8_trees_2 : decode cX8_trees 2 = .ok (.if_icmp .lt 14, 3) := by decide +kernel
theorem dX8_trees_5 : decode cX8_trees 5 = .ok (.iload_n 1, 1) := by decide +kernel
theorem dX8_trees_6 : decode cX8_trees 6 = .ok (.aload_n 0, 1) := by decide +kernel
theorem dX8_trees_7 : decode cX8_trees 7 = .ok (.getfield 10, 3) := by decide +kernel
theorem dX8_trees_10 : decode cX8_trees 10 = .ok (.getfield 137, 3) := by decide +kernel
theorem dX8_trees_13 : decode cX8_trees 13 = .ok (.if_icmp .le 6, 3) := by decide +kernel
theorem dX8_trees_16 : decode cX8_trees 16 = .ok (.bipush (-2), 2) := by decide +kernel
theorem dX8_trees_18 : decode cX8_trees 18 = .ok (.ireturn, 1) := by decide +kernel
theorem dX8_trees_19 : decode cX8_trees 19 = .ok (.aload_n 0, 1) := by decide +kernel
theorem dX8_trees_20 : decode cX8_trees 20 = .ok (.iconst 3, 1) := by decide +kernel
theorem dX8_trees_21 : decode cX8_trees 21 = .ok (.invokevirtual 106, 3) := by decide +kernel
theorem dX8_trees_24 : decode cX8_trees 24 = .ok (.astore_n 2, 1) := by decide +kernel
theorem dX8_trees_25 : decode cX8_trees 25 = .ok (.aload_n 2, 1) := by decide +kernel
theorem dX8_trees_26 : decode cX8_trees 26 = .ok (.ifnonnull 6, 3) := by decide +kernel
theorem dX8_trees_29 : decode cX8_trees 29 = .ok (.bipush (-4), 2) := by decide +kernel
theorem dX8_trees_31 : decode cX8_trees 31 = .ok (.ireturn, 1) := by decide +kernel
theorem dX8_trees_32 : decode cX8_trees 32 = .ok (.new 124, 3) := by decide +kernel
theorem dX8_trees_35 : decode cX8_trees 35 = .ok (.dup, 1) := by decide +kernel
theorem dX8_trees_36 : decode cX8_trees 36 = .ok (.aload_n 0, 1) := by decide +kernel
theorem dX8_trees_37 : decode cX8_trees 37 = .ok (.getfield 10, 3) := by decide +kernel
theorem dX8_trees_40 : decode cX8_trees 40 = .ok (.aload_n 2, 1) := by decide +kernel
theorem dX8_trees_41 : decode cX8_trees 41 = .ok (.invokespecial 126, 3) := by decide +kernel
theorem dX8_trees_44 : decode cX8_trees 44 = .ok (.iload_n 1, 1) := by decide +kernel
theorem dX8_trees_45 : decode cX8_trees 45 = .ok (.invokevirtual 141, 3) := by decide +kernel
theorem dX8_trees_48 : decode cX8_trees 48 = .ok (.aload_n 0, 1) := by decide +kernel
theorem dX8_trees_49 : decode cX8_trees 49 = .ok (.invokevirtual 117, 3) := by decide +kernel
theorem dX8_trees_52 : decode cX8_trees 52 = .ok (.ireturn, 1) := by decide +kernel
theorem dX8_pairs_0 : decode cX8_pairs 0 = .ok (.aload_n 0, 1) := by decide +kernel
theorem dX8_pairs_1 : decode cX8_pairs 1 = .ok (.iconst 4, 1) := by decide +kernel
theorem dX8_pairs_2 : decode cX8_pairs 2 = .ok (.invokevirtual 106, 3) := by decide +kernel
theorem dX8_pairs_5 : decode cX8_pairs 5 = .ok (.astore_n 2, 1) := by decide +kernel
theorem dX8_pairs_6 : decode cX8_pairs 6 = .ok (.aload_n 2, 1) := by decide +kernel
theorem dX8_pairs_7 : decode cX8_pairs 7 = .ok (.ifnonnull 6, 3) := by decide +kernel
theorem dX8_pairs_10 : decode cX8_pairs 10 = .ok (.bipush (-4), 2) := by decide +kernel
theorem dX8_pairs_12 : decode cX8_pairs 12 = .ok (.ireturn, 1) := by decide +kernel
theorem dX8_pairs_13 : decode cX8_pairs 13 = .ok (.new 124, 3) := by decide +kernel
theorem dX8_pairs_16 : decode cX8_pairs 16 = .ok (.dup, 1) := by decide +kernel
theorem dX8_pairs_17 : decode cX8_pairs 17 = .ok (.aload_n 0, 1) := by decide +kernel
theorem dX8_pairs_18 : decode cX8_pairs 18 = .ok (.getfield 10, 3) := by decide +kernel
theorem dX8_pairs_21 : decode cX8_pairs 21 = .ok (.aload_n 2, 1) := by decide +kernel
theorem dX8_pairs_22 : decode cX8_pairs 22 = .ok (.invokespecial 126, 3) := by decide +kernel
theorem dX8_pairs_25 : decode cX8_pairs 25 = .ok (.iload_n 1, 1) := by decide +kernel
theorem dX8_pairs_26 : decode cX8_pairs 26 = .ok (.invokevirtual 144, 3) := by decide +kernel
theorem dX8_pairs_29 : decode cX8_pairs 29 = .ok (.aload_n 0, 1) := by decide +kernel
theorem dX8_pairs_30 : decode cX8_pairs 30 = .ok (.invokevirtual 117, 3) := by decide +kernel
theorem dX8_pairs_33 : decode cX8_pairs 33 = .ok (.ireturn, 1) := by decide +kernel
theorem dX8_parts_0 : decode cX8_parts 0 = .ok (.iload_n 1, 1) := by decide +kernel
theorem dX8_parts_1 : decode cX8_parts 1 = .ok (.iconst 1, 1) := by decide +kernel
theorem dX8_parts_2 : decode cX8_parts 2 = .ok (.if_icmp .lt 14, 3) := by decide +kernel
theorem dX8_parts_5 : decode cX8_parts 5 = .ok (.iload_n 1, 1) := by decide +kernel
theorem dX8_parts_6 : decode cX8_parts 6 = .ok (.aload_n 0, 1) := by decide +kernel
theorem dX8_parts_7 : decode cX8_parts 7 = .ok (.getfield 10, 3) := by decide +kernel
theorem dX8_parts_10 : decode cX8_parts 10 = .ok (.getfield 137, 3) := by decide +kernel
theorem dX8_parts_13 : decode cX8_parts 13 = .ok (.if_icmp .le 6, 3) := by decide +kernel
theorem dX8_parts_16 : decode cX8_parts 16 = .ok (.bipush (-2), 2) := by decide +kernel
theorem dX8_parts_18 : decode cX8_parts 18 = .ok (.ireturn, 1) := by decide +kernel
theorem dX8_parts_19 : decode cX8_parts 19 = .ok (.aload_n 0, 1) := by decide +kernel
theorem dX8_parts_20 : decode cX8_parts 20 = .ok (.iconst 5, 1) := by decide +kernel
theorem dX8_parts_21 : decode cX8_parts 21 = .ok (.invokevirtual 106, 3) := by decide +kernel
theorem dX8_parts_24 : decode cX8_parts 24 = .ok (.astore 4, 2) := by decide +kernel
theorem dX8_parts_26 : decode cX8_parts 26 = .ok (.aload 4, 2) := by decide +kernel
theorem dX8_parts_28 : decode cX8_parts 28 = .ok (.ifnonnull 6, 3) := by decide +kernel
theorem dX8_parts_31 : decode cX8_parts 31 = .ok (.bipush (-4), 2) := by decide +kernel
theorem dX8_parts_33 : decode cX8_parts 33 = .ok (.ireturn, 1) := by decide +kernel
theorem dX8_parts_34 : decode cX8_parts 34 = .ok (.new 124, 3) := by decide +kernel
theorem dX8_parts_37 : decode cX8_parts 37 = .ok (.dup, 1) := by decide +kernel
theorem dX8_parts_38 : decode cX8_parts 38 = .ok (.aload_n 0, 1) := by decide +kernel
theorem dX8_parts_39 : decode cX8_parts 39 = .ok (.getfield 10, 3) := by decide +kernel
theorem dX8_parts_42 : decode cX8_parts 42 = .ok (.aload 4, 2) := by decide +kernel
theorem dX8_parts_44 : decode cX8_parts 44 = .ok (.invokespecial 126, 3) := by decide +kernel
theorem dX8_parts_47 : decode cX8_parts 47 = .ok (.iload_n 1, 1) := by decide +kernel
theorem dX8_parts_48 : decode cX8_parts 48 = .ok (.iload_n 2, 1) := by decide +kernel
theorem dX8_parts_49 : decode cX8_parts 49 = .ok (.iload_n 3, 1) := by decide +kernel
theorem dX8_parts_50 : decode cX8_parts 50 = .ok (.invokevirtual 147, 3) := by decide +kernel
theorem dX8_parts_53 : decode cX8_parts 53 = .ok (.aload_n 0, 1) := by decide +kernel
theorem dX8_parts_54 : decode cX8_parts 54 = .ok (.invokevirtual 117, 3) := by decide +kernel
theorem dX8_parts_57 : decode cX8_parts 57 = .ok (.ireturn, 1) := by decide +kernel
theorem dX8_degrees_0 : decode cX8_degrees 0 = .ok (.aload_n 0, 1) := by decide +kernel
theorem dX8_degrees_1 : decode cX8_degrees 1 = .ok (.iload_n 1, 1) := by decide +kernel
theorem dX8_degrees_2 : decode cX8_degrees 2 = .ok (.invokevirtual 151, 3) := by decide +kernel
theorem dX8_degrees_5 : decode cX8_degrees 5 = .ok (.astore 5, 2) := by decide +kernel
theorem dX8_degrees_7 : decode cX8_degrees 7 = .ok (.aload 5, 2) := by decide +kernel
theorem dX8_degrees_9 : decode cX8_degrees 9 = .ok (.ifnull 14, 3) := by decide +kernel
theorem dX8_degrees_12 : decode cX8_degrees 12 = .ok (.aload_n 0, 1) := by decide +kernel
theorem dX8_degrees_13 : decode cX8_degrees 13 = .ok (.getfield 10, 3) := by decide +kernel
theorem dX8_degrees_16 : decode cX8_degrees 16 = .ok (.iload_n 2, 1) := by decide +kernel
theorem dX8_degrees_17 : decode cX8_degrees 17 = .ok (.invokevirtual 76, 3) := by decide +kernel
theorem dX8_degrees_20 : decode cX8_degrees 20 = .ok (.ifCond .ne 6, 3) := by decide +kernel
theorem dX8_degrees_23 : decode cX8_degrees 23 = .ok (.bipush (-2), 2) := by decide +kernel
theorem dX8_degrees_25 : decode cX8_degrees 25 = .ok (.ireturn, 1) := by decide +kernel
theorem dX8_degrees_26 : decode cX8_degrees 26 = .ok (.aload_n 0, 1) := by decide +kernel
theorem dX8_degrees_27 : decode cX8_degrees 27 = .ok (.iconst 0, 1) := by decide +kernel
theorem dX8_degrees_28 : decode cX8_degrees 28 = .ok (.invokevirtual 106, 3) := by decide +kernel
theorem dX8_degrees_31 : decode cX8_degrees 31 = .ok (.astore 6, 2) := by decide +kernel
theorem dX8_degrees_33 : decode cX8_degrees 33 = .ok (.aload 6, 2) := by decide +kernel
theorem dX8_degrees_35 : decode cX8_degrees 35 = .ok (.ifnonnull 6, 3) := by decide +kernel
theorem dX8_degrees_38 : decode cX8_degrees 38 = .ok (.bipush (-4), 2) := by decide +kernel
theorem dX8_degrees_40 : decode cX8_degrees 40 = .ok (.ireturn, 1) := by decide +kernel
theorem dX8_degrees_41 : decode cX8_degrees 41 = .ok (.aload_n 0, 1) := by decide +kernel
theorem dX8_degrees_42 : decode cX8_degrees 42 = .ok (.getfield 10, 3) := by decide +kernel
theorem dX8_degrees_45 : decode cX8_degrees 45 = .ok (.iload_n 2, 1) := by decide +kernel
theorem dX8_degrees_46 : decode cX8_degrees 46 = .ok (.invokevirtual 154, 3) := by decide +kernel
theorem dX8_degrees_49 : decode cX8_degrees 49 = .ok (.istore 7, 2) := by decide +kernel
theorem dX8_degrees_51 : decode cX8_degrees 51 = .ok (.aload 5, 2) := by decide +kernel
theorem dX8_degrees_53 : decode cX8_degrees 53 = .ok (.aload_n 0, 1) := by decide +kernel
theorem dX8_degrees_54 : decode cX8_degrees 54 = .ok (.getfield 30, 3) := by decide +kernel
theorem dX8_degrees_57 : decode cX8_degrees 57 = .ok (.invokevirtual 157, 3) := by decide +kernel
theorem dX8_degrees_60 : decode cX8_degrees 60 = .ok (.istore 8, 2) := by decide +kernel
theorem dX8_degrees_62 : decode cX8_degrees 62 = .ok (.iconst 0, 1) := by decide +kernel
theorem dX8_degrees_63 : decode cX8_degrees 63 = .ok (.istore 9, 2) := by decide +kernel
theorem dX8_degrees_65 : decode cX8_degrees 65 = .ok (.iload 9, 2) := by decide +kernel
theorem dX8_degrees_67 : decode cX8_degrees 67 = .ok (.iload 8, 2) := by decide +kernel
theorem dX8_degrees_69 : decode cX8_degrees 69 = .ok (.if_icmp .ge 57, 3) := by decide +kernel
theorem dX8_degrees_72 : decode cX8_degrees 72 = .ok (.iload 9, 2) := by decide +kernel
theorem dX8_degrees_74 : decode cX8_degrees 74 = .ok (.sipush 4096, 3) := by decide +kernel
theorem dX8_degrees_77 : decode cX8_degrees 77 = .ok (.if_icmp .ge 49, 3) := by decide +kernel
theorem dX8_degrees_80 : decode cX8_degrees 80 = .ok (.aload_n 0, 1) := by decide +kernel
theorem dX8_degrees_81 : decode cX8_degrees 81 = .ok (.getfield 30, 3) := by decide +kernel
theorem dX8_degrees_84 : decode cX8_degrees 84 = .ok (.iload 9, 2) := by decide +kernel
theorem dX8_degrees_86 : decode cX8_degrees 86 = .ok (.iaload, 1) := by decide +kernel
theorem dX8_degrees_87 : decode cX8_degrees 87 = .ok (.iload 7, 2) := by decide +kernel
theorem dX8_degrees_89 : decode cX8_degrees 89 = .ok (.iand, 1) := by decide +kernel
theorem dX8_degrees_90 : decode cX8_degrees 90 = .ok (.invokestatic 161, 3) := by decide +kernel
theorem dX8_degrees_93 : decode cX8_degrees 93 = .ok (.istore 10, 2) := by decide +kernel
theorem dX8_degrees_95 : decode cX8_degrees 95 = .ok (.iload 10, 2) := by decide +kernel
theorem dX8_degrees_97 : decode cX8_degrees 97 = .ok (.iload_n 3, 1) := by decide +kernel
theorem dX8_degrees_98 : decode cX8_degrees 98 = .ok (.if_icmp .lt 22, 3) := by decide +kernel
theorem dX8_degrees_101 : decode cX8_degrees 101 = .ok (.iload 10, 2) := by decide +kernel
theorem dX8_degrees_103 : decode cX8_degrees 103 = .ok (.iload 4, 2) := by decide +kernel
theorem dX8_degrees_105 : decode cX8_degrees 105 = .ok (.if_icmp .gt 15, 3) := by decide +kernel
theorem dX8_degrees_108 : decode cX8_degrees 108 = .ok (.aload 6, 2) := by decide +kernel
theorem dX8_degrees_110 : decode cX8_degrees 110 = .ok (.aload_n 0, 1) := by decide +kernel
theorem dX8_degrees_111 : decode cX8_degrees 111 = .ok (.getfield 30, 3) := by decide +kernel
theorem dX8_degrees_114 : decode cX8_degrees 114 = .ok (.iload 9, 2) := by decide +kernel
theorem dX8_degrees_116 : decode cX8_degrees 116 = .ok (.iaload, 1) := by decide +kernel
theorem dX8_degrees_117 : decode cX8_degrees 117 = .ok (.invokevirtual 113, 3) := by decide +kernel
theorem dX8_degrees_120 : decode cX8_degrees 120 = .ok (.iinc 9 1, 3) := by decide +kernel
theorem dX8_degrees_123 : decode cX8_degrees 123 = .ok (.goto (-58), 3) := by decide +kernel
theorem dX8_degrees_126 : decode cX8_degrees 126 = .ok (.aload_n 0, 1) := by decide +kernel
theorem dX8_degrees_127 : decode cX8_degrees 127 = .ok (.invokevirtual 117, 3) := by decide +kernel
theorem dX8_degrees_130 : decode cX8_degrees 130 = .ok (.ireturn, 1) := by decide +kernel
theorem dX8_join_0 : decode cX8_join 0 = .ok (.aload_n 0, 1) := by decide +kernel
theorem dX8_join_1 : decode cX8_join 1 = .ok (.iload_n 2, 1) := by decide +kernel
theorem dX8_join_2 : decode cX8_join 2 = .ok (.invokevirtual 151, 3) := by decide +kernel
theorem dX8_join_5 : decode cX8_join 5 = .ok (.astore 4, 2) := by decide +kernel
theorem dX8_join_7 : decode cX8_join 7 = .ok (.aload_n 0, 1) := by decide +kernel
theorem dX8_join_8 : decode cX8_join 8 = .ok (.iload_n 3, 1) := by decide +kernel
theorem dX8_join_9 : decode cX8_join 9 = .ok (.invokevirtual 151, 3) := by decide +kernel
theorem dX8_join_12 : decode cX8_join 12 = .ok (.astore 5, 2) := by decide +kernel
theorem dX8_join_14 : decode cX8_join 14 = .ok (.iload_n 1, 1) := by decide +kernel
theorem dX8_join_15 : decode cX8_join 15 = .ok (.ifCond .lt 19, 3) := by decide +kernel
theorem dX8_join_18 : decode cX8_join 18 = .ok (.iload_n 1, 1) := by decide +kernel
theorem dX8_join_19 : decode cX8_join 19 = .ok (.bipush 7, 2) := by decide +kernel
theorem dX8_join_21 : decode cX8_join 21 = .ok (.if_icmp .gt 13, 3) := by decide +kernel
theorem dX8_join_24 : decode cX8_join 24 = .ok (.aload 4, 2) := by decide +kernel
theorem dX8_join_26 : decode cX8_join 26 = .ok (.ifnull 8, 3) := by decide +kernel
theorem dX8_join_29 : decode cX8_join 29 = .ok (.aload 5, 2) := by decide +kernel
theorem dX8_join_31 : decode cX8_join 31 = .ok (.ifnonnull 6, 3) := by decide +kernel
theorem dX8_join_34 : decode cX8_join 34 = .ok (.bipush (-2), 2) := by decide +kernel
theorem dX8_join_36 : decode cX8_join 36 = .ok (.ireturn, 1) := by decide +kernel
theorem dX8_join_37 : decode cX8_join 37 = .ok (.iload_n 1, 1) := by decide +kernel
theorem dX8_join_38 : decode cX8_join 38 = .ok (.iconst 4, 1) := by decide +kernel
theorem dX8_join_39 : decode cX8_join 39 = .ok (.if_icmp .eq 8, 3) := by decide +kernel
theorem dX8_join_42 : decode cX8_join 42 = .ok (.iload_n 1, 1) := by decide +kernel
theorem dX8_join_43 : decode cX8_join 43 = .ok (.iconst 5, 1) := by decide +kernel
theorem dX8_join_44 : decode cX8_join 44 = .ok (.if_icmp .ne 14, 3) := by decide +kernel
theorem dX8_join_47 : decode cX8_join 47 = .ok (.aload 5, 2) := by decide +kernel
theorem dX8_join_49 : decode cX8_join 49 = .ok (.invokevirtual 166, 3) := by decide +kernel
theorem dX8_join_52 : decode cX8_join 52 = .ok (.ifCond .ne 6, 3) := by decide +kernel
theorem dX8_join_55 : decode cX8_join 55 = .ok (.bipush (-3), 2) := by decide +kernel
theorem dX8_join_57 : decode cX8_join 57 = .ok (.ireturn, 1) := by decide +kernel
theorem dX8_join_58 : decode cX8_join 58 = .ok (.aload_n 0, 1) := by decide +kernel
theorem dX8_join_59 : decode cX8_join 59 = .ok (.iconst 0, 1) := by decide +kernel
theorem dX8_join_60 : decode cX8_join 60 = .ok (.invokevirtual 106, 3) := by decide +kernel
theorem dX8_join_63 : decode cX8_join 63 = .ok (.astore 6, 2) := by decide +kernel
theorem dX8_join_65 : decode cX8_join 65 = .ok (.aload 6, 2) := by decide +kernel
theorem dX8_join_67 : decode cX8_join 67 = .ok (.ifnonnull 6, 3) := by decide +kernel
theorem dX8_join_70 : decode cX8_join 70 = .ok (.bipush (-4), 2) := by decide +kernel
theorem dX8_join_72 : decode cX8_join 72 = .ok (.ireturn, 1) := by decide +kernel
theorem dX8_join_73 : decode cX8_join 73 = .ok (.aload_n 0, 1) := by decide +kernel
theorem dX8_join_74 : decode cX8_join 74 = .ok (.aload 6, 2) := by decide +kernel
theorem dX8_join_76 : decode cX8_join 76 = .ok (.iload_n 1, 1) := by decide +kernel
theorem dX8_join_77 : decode cX8_join 77 = .ok (.aload 4, 2) := by decide +kernel
theorem dX8_join_79 : decode cX8_join 79 = .ok (.aload 5, 2) := by decide +kernel
theorem dX8_join_81 : decode cX8_join 81 = .ok (.invokevirtual 169, 3) := by decide +kernel
theorem dX8_join_84 : decode cX8_join 84 = .ok (.aload_n 0, 1) := by decide +kernel
theorem dX8_join_85 : decode cX8_join 85 = .ok (.invokevirtual 117, 3) := by decide +kernel
theorem dX8_join_88 : decode cX8_join 88 = .ok (.ireturn, 1) := by decide +kernel
theorem dX8_thin_0 : decode cX8_thin 0 = .ok (.aload_n 0, 1) := by decide +kernel
theorem dX8_thin_1 : decode cX8_thin 1 = .ok (.iload_n 2, 1) := by decide +kernel
theorem dX8_thin_2 : decode cX8_thin 2 = .ok (.invokevirtual 151, 3) := by decide +kernel
theorem dX8_thin_5 : decode cX8_thin 5 = .ok (.astore_n 3, 1) := by decide +kernel
theorem dX8_thin_6 : decode cX8_thin 6 = .ok (.iload_n 1, 1) := by decide +kernel
theorem dX8_thin_7 : decode cX8_thin 7 = .ok (.ifCond .lt 12, 3) := by decide +kernel
theorem dX8_thin_10 : decode cX8_thin 10 = .ok (.iload_n 1, 1) := by decide +kernel
theorem dX8_thin_11 : decode cX8_thin 11 = .ok (.iconst 2, 1) := by decide +kernel
theorem dX8_thin_12 : decode cX8_thin 12 = .ok (.if_icmp .gt 7, 3) := by decide +kernel
theorem dX8_thin_15 : decode cX8_thin 15 = .ok (.aload_n 3, 1) := by decide +kernel
theorem dX8_thin_16 : decode cX8_thin 16 = .ok (.ifnonnull 6, 3) := by decide +kernel
theorem dX8_thin_19 : decode cX8_thin 19 = .ok (.bipush (-2), 2) := by decide +kernel
theorem dX8_thin_21 : decode cX8_thin 21 = .ok (.ireturn, 1) := by decide +kernel
theorem dX8_thin_22 : decode cX8_thin 22 = .ok (.iload_n 1, 1) := by decide +kernel
theorem dX8_thin_23 : decode cX8_thin 23 = .ok (.iconst 2, 1) := by decide +kernel
theorem dX8_thin_24 : decode cX8_thin 24 = .ok (.if_icmp .ne 23, 3) := by decide +kernel
theorem dX8_thin_27 : decode cX8_thin 27 = .ok (.aload_n 0, 1) := by decide +kernel
theorem dX8_thin_28 : decode cX8_thin 28 = .ok (.getfield 10, 3) := by decide +kernel
theorem dX8_thin_31 : decode cX8_thin 31 = .ok (.aload_n 3, 1) := by decide +kernel
theorem dX8_thin_32 : decode cX8_thin 32 = .ok (.invokevirtual 173, 3) := by decide +kernel
theorem dX8_thin_35 : decode cX8_thin 35 = .ok (.invokestatic 110, 3) := by decide +kernel
theorem dX8_thin_38 : decode cX8_thin 38 = .ok (.invokevirtual 103, 3) := by decide +kernel
theorem dX8_thin_41 : decode cX8_thin 41 = .ok (.ifCond .ne 6, 3) := by decide +kernel
theorem dX8_thin_44 : decode cX8_thin 44 = .ok (.bipush (-3), 2) := by decide +kernel
theorem dX8_thin_46 : decode cX8_thin 46 = .ok (.ireturn, 1) := by decide +kernel
theorem dX8_thin_47 : decode cX8_thin 47 = .ok (.aload_n 0, 1) := by decide +kernel
theorem dX8_thin_48 : decode cX8_thin 48 = .ok (.iconst 0, 1) := by decide +kernel
theorem dX8_thin_49 : decode cX8_thin 49 = .ok (.invokevirtual 106, 3) := by decide +kernel
theorem dX8_thin_52 : decode cX8_thin 52 = .ok (.astore 4, 2) := by decide +kernel
theorem dX8_thin_54 : decode cX8_thin 54 = .ok (.aload 4, 2) := by decide +kernel
theorem dX8_thin_56 : decode cX8_thin 56 = .ok (.ifnonnull 6, 3) := by decide +kernel
theorem dX8_thin_59 : decode cX8_thin 59 = .ok (.bipush (-4), 2) := by decide +kernel
theorem dX8_thin_61 : decode cX8_thin 61 = .ok (.ireturn, 1) := by decide +kernel
theorem dX8_thin_62 : decode cX8_thin 62 = .ok (.iload_n 1, 1) := by decide +kernel
theorem dX8_thin_63 : decode cX8_thin 63 = .ok (.ifCond .ne 16, 3) := by decide +kernel
theorem dX8_thin_66 : decode cX8_thin 66 = .ok (.aload 4, 2) := by decide +kernel
theorem dX8_thin_68 : decode cX8_thin 68 = .ok (.aload_n 3, 1) := by decide +kernel
theorem dX8_thin_69 : decode cX8_thin 69 = .ok (.aload_n 0, 1) := by decide +kernel
theorem dX8_thin_70 : decode cX8_thin 70 = .ok (.getfield 23, 3) := by decide +kernel
theorem dX8_thin_73 : decode cX8_thin 73 = .ok (.invokevirtual 176, 3) := by decide +kernel
theorem dX8_thin_76 : decode cX8_thin 76 = .ok (.goto 46, 3) := by decide +kernel
theorem dX8_thin_79 : decode cX8_thin 79 = .ok (.iload_n 1, 1) := by decide +kernel
theorem dX8_thin_80 : decode cX8_thin 80 = .ok (.iconst 1, 1) := by decide +kernel
theorem dX8_thin_81 : decode cX8_thin 81 = .ok (.if_icmp .ne 16, 3) := by decide +kernel
theorem dX8_thin_84 : decode cX8_thin 84 = .ok (.aload 4, 2) := by decide +kernel
theorem dX8_thin_86 : decode cX8_thin 86 = .ok (.aload_n 3, 1) := by decide +kernel
theorem dX8_thin_87 : decode cX8_thin 87 = .ok (.aload_n 0, 1) := by decide +kernel
theorem dX8_thin_88 : decode cX8_thin 88 = .ok (.getfield 23, 3) := by decide +kernel
theorem dX8_thin_91 : decode cX8_thin 91 = .ok (.invokevirtual 180, 3) := by decide +kernel
theorem dX8_thin_94 : decode cX8_thin 94 = .ok (.goto 28, 3) := by decide +kernel
theorem dX8_thin_97 : decode cX8_thin 97 = .ok (.aload_n 0, 1) := by decide +kernel
theorem dX8_thin_98 : decode cX8_thin 98 = .ok (.getfield 27, 3) := by decide +kernel
theorem dX8_thin_101 : decode cX8_thin 101 = .ok (.aload_n 3, 1) := by decide +kernel
theorem dX8_thin_102 : decode cX8_thin 102 = .ok (.aload_n 0, 1) := by decide +kernel
theorem dX8_thin_103 : decode cX8_thin 103 = .ok (.getfield 23, 3) := by decide +kernel
theorem dX8_thin_106 : decode cX8_thin 106 = .ok (.invokevirtual 183, 3) := by decide +kernel
theorem dX8_thin_109 : decode cX8_thin 109 = .ok (.aload 4, 2) := by decide +kernel
theorem dX8_thin_111 : decode cX8_thin 111 = .ok (.aload_n 0, 1) := by decide +kernel
theorem dX8_thin_112 : decode cX8_thin 112 = .ok (.getfield 27, 3) := by decide +kernel
theorem dX8_thin_115 : decode cX8_thin 115 = .ok (.aload_n 0, 1) := by decide +kernel
theorem dX8_thin_116 : decode cX8_thin 116 = .ok (.getfield 23, 3) := by decide +kernel
theorem dX8_thin_119 : decode cX8_thin 119 = .ok (.invokevirtual 176, 3) := by decide +kernel
theorem dX8_thin_122 : decode cX8_thin 122 = .ok (.aload_n 0, 1) := by decide +kernel
theorem dX8_thin_123 : decode cX8_thin 123 = .ok (.invokevirtual 117, 3) := by decide +kernel
theorem dX8_thin_126 : decode cX8_thin 126 = .ok (.ireturn, 1) := by decide +kernel
theorem dX8_by_0 : decode cX8_by 0 = .ok (.aload_n 0, 1) := by decide +kernel
theorem dX8_by_1 : decode cX8_by 1 = .ok (.iload_n 2, 1) := by decide +kernel
theorem dX8_by_2 : decode cX8_by 2 = .ok (.invokevirtual 151, 3) := by decide +kernel
theorem dX8_by_5 : decode cX8_by 5 = .ok (.astore 4, 2) := by decide +kernel
theorem dX8_by_7 : decode cX8_by 7 = .ok (.iload_n 1, 1) := by decide +kernel
theorem dX8_by_8 : decode cX8_by 8 = .ok (.ifCond .lt 23, 3) := by decide +kernel
theorem dX8_by_11 : decode cX8_by 11 = .ok (.iload_n 1, 1) := by decide +kernel
theorem dX8_by_12 : decode cX8_by 12 = .ok (.iconst 2, 1) := by decide +kernel
theorem dX8_by_13 : decode cX8_by 13 = .ok (.if_icmp .gt 18, 3) := by decide +kernel
theorem dX8_by_16 : decode cX8_by 16 = .ok (.aload 4, 2) := by decide +kernel
theorem dX8_by_18 : decode cX8_by 18 = .ok (.ifnull 13, 3) := by decide +kernel
theorem dX8_by_21 : decode cX8_by 21 = .ok (.iload_n 3, 1) := by decide +kernel
theorem dX8_by_22 : decode cX8_by 22 = .ok (.ifCond .lt 9, 3) := by decide +kernel
theorem dX8_by_25 : decode cX8_by 25 = .ok (.iload_n 3, 1) := by decide +kernel
theorem dX8_by_26 : decode cX8_by 26 = .ok (.bipush 12, 2) := by decide +kernel
theorem dX8_by_28 : decode cX8_by 28 = .ok (.if_icmp .lt 6, 3) := by decide +kernel
theorem dX8_by_31 : decode cX8_by 31 = .ok (.bipush (-2), 2) := by decide +kernel
theorem dX8_by_33 : decode cX8_by 33 = .ok (.ireturn, 1) := by decide +kernel
theorem dX8_by_34 : decode cX8_by 34 = .ok (.aload_n 0, 1) := by decide +kernel
theorem dX8_by_35 : decode cX8_by 35 = .ok (.iconst 0, 1) := by decide +kernel
theorem dX8_by_36 : decode cX8_by 36 = .ok (.invokevirtual 106, 3) := by decide +kernel
theorem dX8_by_39 : decode cX8_by 39 = .ok (.astore 5, 2) := by decide +kernel
theorem dX8_by_41 : decode cX8_by 41 = .ok (.aload 5, 2) := by decide +kernel
theorem dX8_by_43 : decode cX8_by 43 = .ok (.ifnonnull 6, 3) := by decide +kernel
theorem dX8_by_46 : decode cX8_by 46 = .ok (.bipush (-4), 2) := by decide +kernel
theorem dX8_by_48 : decode cX8_by 48 = .ok (.ireturn, 1) := by decide +kernel
theorem dX8_by_49 : decode cX8_by 49 = .ok (.bipush 11, 2) := by decide +kernel
theorem dX8_by_51 : decode cX8_by 51 = .ok (.iload_n 3, 1) := by decide +kernel
theorem dX8_by_52 : decode cX8_by 52 = .ok (.isub, 1) := by decide +kernel
theorem dX8_by_53 : decode cX8_by 53 = .ok (.istore 6, 2) := by decide +kernel
theorem dX8_by_55 : decode cX8_by 55 = .ok (.iload_n 1, 1) := by decide +kernel
theorem dX8_by_56 : decode cX8_by 56 = .ok (.iconst 2, 1) := by decide +kernel
theorem dX8_by_57 : decode cX8_by 57 = .ok (.if_icmp .ne 24, 3) := by decide +kernel
theorem dX8_by_60 : decode cX8_by 60 = .ok (.aload 5, 2) := by decide +kernel
theorem dX8_by_62 : decode cX8_by 62 = .ok (.aload 4, 2) := by decide +kernel
theorem dX8_by_64 : decode cX8_by 64 = .ok (.iload 6, 2) := by decide +kernel
theorem dX8_by_66 : decode cX8_by 66 = .ok (.invokevirtual 186, 3) := by decide +kernel
theorem dX8_by_69 : decode cX8_by 69 = .ok (.aload 5, 2) := by decide +kernel
theorem dX8_by_71 : decode cX8_by 71 = .ok (.aload 4, 2) := by decide +kernel
theorem dX8_by_73 : decode cX8_by 73 = .ok (.iload 6, 2) := by decide +kernel
theorem dX8_by_75 : decode cX8_by 75 = .ok (.invokevirtual 190, 3) := by decide +kernel
theorem dX8_by_78 : decode cX8_by 78 = .ok (.goto 22, 3) := by decide +kernel
theorem dX8_by_81 : decode cX8_by 81 = .ok (.aload 5, 2) := by decide +kernel
theorem dX8_by_83 : decode cX8_by 83 = .ok (.aload 4, 2) := by decide +kernel
theorem dX8_by_85 : decode cX8_by 85 = .ok (.iload 6, 2) := by decide +kernel
theorem dX8_by_87 : decode cX8_by 87 = .ok (.iload_n 1, 1) := by decide +kernel
theorem dX8_by_88 : decode cX8_by 88 = .ok (.iconst 1, 1) := by decide +kernel
theorem dX8_by_89 : decode cX8_by 89 = .ok (.if_icmp .ne 7, 3) := by decide +kernel
theorem dX8_by_92 : decode cX8_by 92 = .ok (.iconst 1, 1) := by decide +kernel
theorem dX8_by_93 : decode cX8_by 93 = .ok (.goto 4, 3) := by decide +kernel
theorem dX8_by_96 : decode cX8_by 96 = .ok (.iconst 0, 1) := by decide +kernel
theorem dX8_by_97 : decode cX8_by 97 = .ok (.invokevirtual 193, 3) := by decide +kernel
theorem dX8_by_100 : decode cX8_by 100 = .ok (.aload_n 0, 1) := by decide +kernel
theorem dX8_by_101 : decode cX8_by 101 = .ok (.invokevirtual 117, 3) := by decide +kernel
theorem dX8_by_104 : decode cX8_by 104 = .ok (.ireturn, 1) := by decide +kernel
theorem dX8_within_0 : decode cX8_within 0 = .ok (.aload_n 0, 1) := by decide +kernel
theorem dX8_within_1 : decode cX8_within 1 = .ok (.iload_n 1, 1) := by decide +kernel
theorem dX8_within_2 : decode cX8_within 2 = .ok (.invokevirtual 151, 3) := by decide +kernel
theorem dX8_within_5 : decode cX8_within 5 = .ok (.astore 4, 2) := by decide +kernel
theorem dX8_within_7 : decode cX8_within 7 = .ok (.aload 4, 2) := by decide +kernel
theorem dX8_within_9 : decode cX8_within 9 = .ok (.ifnonnull 6, 3) := by decide +kernel
theorem dX8_within_12 : decode cX8_within 12 = .ok (.bipush (-2), 2) := by decide +kernel
theorem dX8_within_14 : decode cX8_within 14 = .ok (.ireturn, 1) := by decide +kernel
theorem dX8_within_15 : decode cX8_within 15 = .ok (.aload_n 0, 1) := by decide +kernel
theorem dX8_within_16 : decode cX8_within 16 = .ok (.iconst 0, 1) := by decide +kernel
theorem dX8_within_17 : decode cX8_within 17 = .ok (.invokevirtual 106, 3) := by decide +kernel
theorem dX8_within_20 : decode cX8_within 20 = .ok (.astore 5, 2) := by decide +kernel
theorem dX8_within_22 : decode cX8_within 22 = .ok (.aload 5, 2) := by decide +kernel
theorem dX8_within_24 : decode cX8_within 24 = .ok (.ifnonnull 6, 3) := by decide +kernel
theorem dX8_within_27 : decode cX8_within 27 = .ok (.bipush (-4), 2) := by decide +kernel
theorem dX8_within_29 : decode cX8_within 29 = .ok (.ireturn, 1) := by decide +kernel
theorem dX8_within_30 : decode cX8_within 30 = .ok (.aload_n 0, 1) := by decide +kernel
theorem dX8_within_31 : decode cX8_within 31 = .ok (.getfield 37, 3) := by decide +kernel
theorem dX8_within_34 : decode cX8_within 34 = .ok (.aload_n 0, 1) := by decide +kernel
theorem dX8_within_35 : decode cX8_within 35 = .ok (.getfield 10, 3) := by decide +kernel
theorem dX8_within_38 : decode cX8_within 38 = .ok (.invokevirtual 197, 3) := by decide +kernel
theorem dX8_within_41 : decode cX8_within 41 = .ok (.aload 4, 2) := by decide +kernel
theorem dX8_within_43 : decode cX8_within 43 = .ok (.aload_n 0, 1) := by decide +kernel
theorem dX8_within_44 : decode cX8_within 44 = .ok (.getfield 30, 3) := by decide +kernel
theorem dX8_within_47 : decode cX8_within 47 = .ok (.invokevirtual 157, 3) := by decide +kernel
theorem dX8_within_50 : decode cX8_within 50 = .ok (.istore 6, 2) := by decide +kernel
theorem dX8_within_52 : decode cX8_within 52 = .ok (.iconst 0, 1) := by decide +kernel
theorem dX8_within_53 : decode cX8_within 53 = .ok (.istore 7, 2) := by decide +kernel
theorem dX8_within_55 : decode cX8_within 55 = .ok (.iload 7, 2) := by decide +kernel
theorem dX8_within_57 : decode cX8_within 57 = .ok (.iload 6, 2) := by decide +kernel
theorem dX8_within_59 : decode cX8_within 59 = .ok (.if_icmp .ge 57, 3) := by decide +kernel
theorem dX8_within_62 : decode cX8_within 62 = .ok (.iload 7, 2) := by decide +kernel
theorem dX8_within_64 : decode cX8_within 64 = .ok (.sipush 4096, 3) := by decide +kernel
theorem dX8_within_67 : decode cX8_within 67 = .ok (.if_icmp .ge 49, 3) := by decide +kernel
theorem dX8_within_70 : decode cX8_within 70 = .ok (.aload_n 0, 1) := by decide +kernel
theorem dX8_within_71 : decode cX8_within 71 = .ok (.getfield 37, 3) := by decide +kernel
theorem dX8_within_74 : decode cX8_within 74 = .ok (.aload_n 0, 1) := by decide +kernel
theorem dX8_within_75 : decode cX8_within 75 = .ok (.getfield 30, 3) := by decide +kernel
theorem dX8_within_78 : decode cX8_within 78 = .ok (.iload 7, 2) := by decide +kernel
theorem dX8_within_80 : decode cX8_within 80 = .ok (.iaload, 1) := by decide +kernel
theorem dX8_within_81 : decode cX8_within 81 = .ok (.invokevirtual 201, 3) := by decide +kernel
theorem dX8_within_84 : decode cX8_within 84 = .ok (.istore 8, 2) := by decide +kernel
theorem dX8_within_86 : decode cX8_within 86 = .ok (.iload 8, 2) := by decide +kernel
theorem dX8_within_88 : decode cX8_within 88 = .ok (.iload_n 2, 1) := by decide +kernel
theorem dX8_within_89 : decode cX8_within 89 = .ok (.if_icmp .lt 21, 3) := by decide +kernel
theorem dX8_within_92 : decode cX8_within 92 = .ok (.iload 8, 2) := by decide +kernel
theorem dX8_within_94 : decode cX8_within 94 = .ok (.iload_n 3, 1) := by decide +kernel
theorem dX8_within_95 : decode cX8_within 95 = .ok (.if_icmp .gt 15, 3) := by decide +kernel
theorem dX8_within_98 : decode cX8_within 98 = .ok (.aload 5, 2) := by decide +kernel
theorem dX8_within_100 : decode cX8_within 100 = .ok (.aload_n 0, 1) := by decide +kernel
theorem dX8_within_101 : decode cX8_within 101 = .ok (.getfield 30, 3) := by decide +kernel
theorem dX8_within_104 : decode cX8_within 104 = .ok (.iload 7, 2) := by decide +kernel
theorem dX8_within_106 : decode cX8_within 106 = .ok (.iaload, 1) := by decide +kernel
theorem dX8_within_107 : decode cX8_within 107 = .ok (.invokevirtual 113, 3) := by decide +kernel
theorem dX8_within_110 : decode cX8_within 110 = .ok (.iinc 7 1, 3) := by decide +kernel
theorem dX8_within_113 : decode cX8_within 113 = .ok (.goto (-58), 3) := by decide +kernel
theorem dX8_within_116 : decode cX8_within 116 = .ok (.aload_n 0, 1) := by decide +kernel
theorem dX8_within_117 : decode cX8_within 117 = .ok (.invokevirtual 117, 3) := by decide +kernel
theorem dX8_within_120 : decode cX8_within 120 = .ok (.ireturn, 1) := by decide +kernel
theorem dX8_drop_0 : decode cX8_drop 0 = .ok (.aload_n 0, 1) := by decide +kernel
theorem dX8_drop_1 : decode cX8_drop 1 = .ok (.getfield 204, 3) := by decide +kernel
theorem dX8_drop_4 : decode cX8_drop 4 = .ok (.ifCond .gt 6, 3) := by decide +kernel
theorem dX8_drop_7 : decode cX8_drop 7 = .ok (.bipush (-2), 2) := by decide +kernel
theorem dX8_drop_9 : decode cX8_drop 9 = .ok (.ireturn, 1) := by decide +kernel
theorem dX8_drop_10 : decode cX8_drop 10 = .ok (.aload_n 0, 1) := by decide +kernel
theorem dX8_drop_11 : decode cX8_drop 11 = .ok (.dup, 1) := by decide +kernel
theorem dX8_drop_12 : decode cX8_drop 12 = .ok (.getfield 204, 3) := by decide +kernel
theorem dX8_drop_15 : decode cX8_drop 15 = .ok (.iconst 1, 1) := by decide +kernel
theorem dX8_drop_16 : decode cX8_drop 16 = .ok (.isub, 1) := by decide +kernel
theorem dX8_drop_17 : decode cX8_drop 17 = .ok (.putfield 204, 3) := by decide +kernel
theorem dX8_drop_20 : decode cX8_drop 20 = .ok (.aload_n 0, 1) := by decide +kernel
theorem dX8_drop_21 : decode cX8_drop 21 = .ok (.getfield 204, 3) := by decide +kernel
theorem dX8_drop_24 : decode cX8_drop 24 = .ok (.ireturn, 1) := by decide +kernel
theorem dX8_close_0 : decode cX8_close 0 = .ok (.aload_n 0, 1) := by decide +kernel
theorem dX8_close_1 : decode cX8_close 1 = .ok (.getfield 10, 3) := by decide +kernel
theorem dX8_close_4 : decode cX8_close 4 = .ok (.getfield 207, 3) := by decide +kernel
theorem dX8_close_7 : decode cX8_close 7 = .ok (.ifCond .gt 8, 3) := by decide +kernel
theorem dX8_close_10 : decode cX8_close 10 = .ok (.bipush (-2), 2) := by decide +kernel
theorem dX8_close_12 : decode cX8_close 12 = .ok (.goto 10, 3) := by decide +kernel
theorem dX8_close_15 : decode cX8_close 15 = .ok (.aload_n 0, 1) := by decide +kernel
theorem dX8_close_16 : decode cX8_close 16 = .ok (.getfield 10, 3) := by decide +kernel
theorem dX8_close_19 : decode cX8_close 19 = .ok (.invokevirtual 210, 3) := by decide +kernel
theorem dX8_close_22 : decode cX8_close 22 = .ok (.ireturn, 1) := by decide +kernel
theorem dX8_count_0 : decode cX8_count 0 = .ok (.aload_n 0, 1) := by decide +kernel
theorem dX8_count_1 : decode cX8_count 1 = .ok (.iload_n 1, 1) := by decide +kernel
theorem dX8_count_2 : decode cX8_count 2 = .ok (.invokevirtual 151, 3) := by decide +kernel
theorem dX8_count_5 : decode cX8_count 5 = .ok (.astore_n 2, 1) := by decide +kernel
theorem dX8_count_6 : decode cX8_count 6 = .ok (.aload_n 2, 1) := by decide +kernel
theorem dX8_count_7 : decode cX8_count 7 = .ok (.ifnonnull 8, 3) := by decide +kernel
theorem dX8_count_10 : decode cX8_count 10 = .ok (.bipush (-2), 2) := by decide +kernel
theorem dX8_count_12 : decode cX8_count 12 = .ok (.goto 7, 3) := by decide +kernel
theorem dX8_count_15 : decode cX8_count 15 = .ok (.aload_n 2, 1) := by decide +kernel
theorem dX8_count_16 : decode cX8_count 16 = .ok (.invokevirtual 166, 3) := by decide +kernel
theorem dX8_count_19 : decode cX8_count 19 = .ok (.ireturn, 1) := by decide +kernel
theorem dX8_told_0 : decode cX8_told 0 = .ok (.aload_n 0, 1) := by decide +kernel
theorem dX8_told_1 : decode cX8_told 1 = .ok (.iload_n 1, 1) := by decide +kernel
theorem dX8_told_2 : decode cX8_told 2 = .ok (.invokevirtual 151, 3) := by decide +kernel
theorem dX8_told_5 : decode cX8_told 5 = .ok (.astore_n 3, 1) := by decide +kernel
theorem dX8_told_6 : decode cX8_told 6 = .ok (.aload_n 3, 1) := by decide +kernel
theorem dX8_told_7 : decode cX8_told 7 = .ok (.ifnonnull 6, 3) := by decide +kernel
theorem dX8_told_10 : decode cX8_told 10 = .ok (.bipush (-2), 2) := by decide +kernel
theorem dX8_told_12 : decode cX8_told 12 = .ok (.ireturn, 1) := by decide +kernel
theorem dX8_told_13 : decode cX8_told 13 = .ok (.iload_n 2, 1) := by decide +kernel
theorem dX8_told_14 : decode cX8_told 14 = .ok (.tableswitch 48 0 2 #[26, 31, 40], 26) := by decide +kernel
theorem dX8_told_40 : decode cX8_told 40 = .ok (.aload_n 3, 1) := by decide +kernel
theorem dX8_told_41 : decode cX8_told 41 = .ok (.getfield 213, 3) := by decide +kernel
theorem dX8_told_44 : decode cX8_told 44 = .ok (.ireturn, 1) := by decide +kernel
theorem dX8_told_45 : decode cX8_told 45 = .ok (.aload_n 0, 1) := by decide +kernel
theorem dX8_told_46 : decode cX8_told 46 = .ok (.getfield 55, 3) := by decide +kernel
theorem dX8_told_49 : decode cX8_told 49 = .ok (.aload_n 3, 1) := by decide +kernel
theorem dX8_told_50 : decode cX8_told 50 = .ok (.invokevirtual 216, 3) := by decide +kernel
theorem dX8_told_53 : decode cX8_told 53 = .ok (.ireturn, 1) := by decide +kernel
theorem dX8_told_54 : decode cX8_told 54 = .ok (.aload_n 3, 1) := by decide +kernel
theorem dX8_told_55 : decode cX8_told 55 = .ok (.invokevirtual 173, 3) := by decide +kernel
theorem dX8_told_58 : decode cX8_told 58 = .ok (.invokestatic 110, 3) := by decide +kernel
theorem dX8_told_61 : decode cX8_told 61 = .ok (.ireturn, 1) := by decide +kernel
theorem dX8_told_62 : decode cX8_told 62 = .ok (.bipush (-2), 2) := by decide +kernel
theorem dX8_told_64 : decode cX8_told 64 = .ok (.ireturn, 1) := by decide +kernel
theorem dX8_total_0 : decode cX8_total 0 = .ok (.aload_n 0, 1) := by decide +kernel
theorem dX8_total_1 : decode cX8_total 1 = .ok (.iload_n 1, 1) := by decide +kernel
theorem dX8_total_2 : decode cX8_total 2 = .ok (.invokevirtual 151, 3) := by decide +kernel
theorem dX8_total_5 : decode cX8_total 5 = .ok (.astore_n 2, 1) := by decide +kernel
theorem dX8_total_6 : decode cX8_total 6 = .ok (.lconst 0, 1) := by decide +kernel
theorem dX8_total_7 : decode cX8_total 7 = .ok (.lstore_n 3, 1) := by decide +kernel
theorem dX8_total_8 : decode cX8_total 8 = .ok (.aload_n 2, 1) := by decide +kernel
theorem dX8_total_9 : decode cX8_total 9 = .ok (.ifnull 43, 3) := by decide +kernel
theorem dX8_total_12 : decode cX8_total 12 = .ok (.iconst 0, 1) := by decide +kernel
theorem dX8_total_13 : decode cX8_total 13 = .ok (.istore 5, 2) := by decide +kernel
theorem dX8_total_15 : decode cX8_total 15 = .ok (.iload 5, 2) := by decide +kernel
theorem dX8_total_17 : decode cX8_total 17 = .ok (.bipush 12, 2) := by decide +kernel
theorem dX8_total_19 : decode cX8_total 19 = .ok (.if_icmp .ge 33, 3) := by decide +kernel
theorem dX8_total_22 : decode cX8_total 22 = .ok (.lload_n 3, 1) := by decide +kernel
theorem dX8_total_23 : decode cX8_total 23 = .ok (.aload_n 0, 1) := by decide +kernel
theorem dX8_total_24 : decode cX8_total 24 = .ok (.getfield 10, 3) := by decide +kernel
theorem dX8_total_27 : decode cX8_total 27 = .ok (.iload 5, 2) := by decide +kernel
theorem dX8_total_29 : decode cX8_total 29 = .ok (.invokevirtual 219, 3) := by decide +kernel
theorem dX8_total_32 : decode cX8_total 32 = .ok (.i2l, 1) := by decide +kernel
theorem dX8_total_33 : decode cX8_total 33 = .ok (.aload_n 2, 1) := by decide +kernel
theorem dX8_total_34 : decode cX8_total 34 = .ok (.bipush 11, 2) := by decide +kernel
theorem dX8_total_36 : decode cX8_total 36 = .ok (.iload 5, 2) := by decide +kernel
theorem dX8_total_38 : decode cX8_total 38 = .ok (.isub, 1) := by decide +kernel
theorem dX8_total_39 : decode cX8_total 39 = .ok (.invokevirtual 222, 3) := by decide +kernel
theorem dX8_total_42 : decode cX8_total 42 = .ok (.i2l, 1) := by decide +kernel
theorem dX8_total_43 : decode cX8_total 43 = .ok (.lmul, 1) := by decide +kernel
theorem dX8_total_44 : decode cX8_total 44 = .ok (.ladd, 1) := by decide +kernel
theorem dX8_total_45 : decode cX8_total 45 = .ok (.lstore_n 3, 1) := by decide +kernel
theorem dX8_total_46 : decode cX8_total 46 = .ok (.iinc 5 1, 3) := by decide +kernel
theorem dX8_total_49 : decode cX8_total 49 = .ok (.goto (-34), 3) := by decide +kernel
theorem dX8_total_52 : decode cX8_total 52 = .ok (.lload_n 3, 1) := by decide +kernel
theorem dX8_total_53 : decode cX8_total 53 = .ok (.lreturn, 1) := by decide +kernel
theorem dX8_often_0 : decode cX8_often 0 = .ok (.aload_n 0, 1) := by decide +kernel
theorem dX8_often_1 : decode cX8_often 1 = .ok (.iload_n 1, 1) := by decide +kernel
theorem dX8_often_2 : decode cX8_often 2 = .ok (.invokevirtual 151, 3) := by decide +kernel
theorem dX8_often_5 : decode cX8_often 5 = .ok (.astore_n 3, 1) := by decide +kernel
theorem dX8_often_6 : decode cX8_often 6 = .ok (.aload_n 3, 1) := by decide +kernel
theorem dX8_often_7 : decode cX8_often 7 = .ok (.ifnull 13, 3) := by decide +kernel
theorem dX8_often_10 : decode cX8_often 10 = .ok (.iload_n 2, 1) := by decide +kernel
theorem dX8_often_11 : decode cX8_often 11 = .ok (.ifCond .lt 9, 3) := by decide +kernel
theorem dX8_often_14 : decode cX8_often 14 = .ok (.iload_n 2, 1) := by decide +kernel
theorem dX8_often_15 : decode cX8_often 15 = .ok (.bipush 12, 2) := by decide +kernel
theorem dX8_often_17 : decode cX8_often 17 = .ok (.if_icmp .lt 6, 3) := by decide +kernel
theorem dX8_often_20 : decode cX8_often 20 = .ok (.bipush (-2), 2) := by decide +kernel
theorem dX8_often_22 : decode cX8_often 22 = .ok (.ireturn, 1) := by decide +kernel
theorem dX8_often_23 : decode cX8_often 23 = .ok (.aload_n 3, 1) := by decide +kernel
theorem dX8_often_24 : decode cX8_often 24 = .ok (.bipush 11, 2) := by decide +kernel
theorem dX8_often_26 : decode cX8_often 26 = .ok (.iload_n 2, 1) := by decide +kernel
theorem dX8_often_27 : decode cX8_often 27 = .ok (.isub, 1) := by decide +kernel
theorem dX8_often_28 : decode cX8_often 28 = .ok (.invokevirtual 222, 3) := by decide +kernel
theorem dX8_often_31 : decode cX8_often 31 = .ok (.ireturn, 1) := by decide +kernel
theorem dX8_has_0 : decode cX8_has 0 = .ok (.aload_n 0, 1) := by decide +kernel
theorem dX8_has_1 : decode cX8_has 1 = .ok (.iload_n 1, 1) := by decide +kernel
theorem dX8_has_2 : decode cX8_has 2 = .ok (.invokevirtual 151, 3) := by decide +kernel
theorem dX8_has_5 : decode cX8_has 5 = .ok (.astore_n 3, 1) := by decide +kernel
theorem dX8_has_6 : decode cX8_has 6 = .ok (.aload_n 3, 1) := by decide +kernel
theorem dX8_has_7 : decode cX8_has 7 = .ok (.ifnull 7, 3) := by decide +kernel
theorem dX8_has_10 : decode cX8_has 10 = .ok (.iload_n 2, 1) := by decide +kernel
theorem dX8_has_11 : decode cX8_has 11 = .ok (.ifCond .ge 6, 3) := by decide +kernel
theorem dX8_has_14 : decode cX8_has 14 = .ok (.bipush (-2), 2) := by decide +kernel
theorem dX8_has_16 : decode cX8_has 16 = .ok (.ireturn, 1) := by decide +kernel
theorem dX8_has_17 : decode cX8_has 17 = .ok (.iload_n 2, 1) := by decide +kernel
theorem dX8_has_18 : decode cX8_has 18 = .ok (.sipush 4096, 3) := by decide +kernel
theorem dX8_has_21 : decode cX8_has 21 = .ok (.if_icmp .ge 18, 3) := by decide +kernel
theorem dX8_has_24 : decode cX8_has 24 = .ok (.aload_n 3, 1) := by decide +kernel
theorem dX8_has_25 : decode cX8_has 25 = .ok (.iload_n 2, 1) := by decide +kernel
theorem dX8_has_26 : decode cX8_has 26 = .ok (.invokestatic 110, 3) := by decide +kernel
theorem dX8_has_29 : decode cX8_has 29 = .ok (.invokevirtual 225, 3) := by decide +kernel
theorem dX8_has_32 : decode cX8_has 32 = .ok (.ifCond .eq 7, 3) := by decide +kernel
theorem dX8_has_35 : decode cX8_has 35 = .ok (.iconst 1, 1) := by decide +kernel
theorem dX8_has_36 : decode cX8_has 36 = .ok (.goto 4, 3) := by decide +kernel
theorem dX8_has_39 : decode cX8_has 39 = .ok (.iconst 0, 1) := by decide +kernel
theorem dX8_has_40 : decode cX8_has 40 = .ok (.ireturn, 1) := by decide +kernel
theorem dX8_way_0 : decode cX8_way 0 = .ok (.aload_n 0, 1) := by decide +kernel
theorem dX8_way_1 : decode cX8_way 1 = .ok (.iload_n 1, 1) := by decide +kernel
theorem dX8_way_2 : decode cX8_way 2 = .ok (.invokevirtual 151, 3) := by decide +kernel
theorem dX8_way_5 : decode cX8_way 5 = .ok (.astore_n 3, 1) := by decide +kernel
theorem dX8_way_6 : decode cX8_way 6 = .ok (.aload_n 3, 1) := by decide +kernel
theorem dX8_way_7 : decode cX8_way 7 = .ok (.ifnonnull 8, 3) := by decide +kernel
theorem dX8_way_10 : decode cX8_way 10 = .ok (.bipush (-2), 2) := by decide +kernel
theorem dX8_way_12 : decode cX8_way 12 = .ok (.goto 11, 3) := by decide +kernel
theorem dX8_way_15 : decode cX8_way 15 = .ok (.aload_n 3, 1) := by decide +kernel
theorem dX8_way_16 : decode cX8_way 16 = .ok (.iload_n 2, 1) := by decide +kernel
theorem dX8_way_17 : decode cX8_way 17 = .ok (.invokevirtual 228, 3) := by decide +kernel
theorem dX8_way_20 : decode cX8_way 20 = .ok (.invokestatic 231, 3) := by decide +kernel
theorem dX8_way_23 : decode cX8_way 23 = .ok (.ireturn, 1) := by decide +kernel
theorem dX8_rank_0 : decode cX8_rank 0 = .ok (.aload_n 0, 1) := by decide +kernel
theorem dX8_rank_1 : decode cX8_rank 1 = .ok (.iload_n 1, 1) := by decide +kernel
theorem dX8_rank_2 : decode cX8_rank 2 = .ok (.invokevirtual 151, 3) := by decide +kernel
theorem dX8_rank_5 : decode cX8_rank 5 = .ok (.astore_n 3, 1) := by decide +kernel
theorem dX8_rank_6 : decode cX8_rank 6 = .ok (.aload_n 3, 1) := by decide +kernel
theorem dX8_rank_7 : decode cX8_rank 7 = .ok (.ifnull 14, 3) := by decide +kernel
theorem dX8_rank_10 : decode cX8_rank 10 = .ok (.iload_n 2, 1) := by decide +kernel
theorem dX8_rank_11 : decode cX8_rank 11 = .ok (.ifCond .lt 10, 3) := by decide +kernel
theorem dX8_rank_14 : decode cX8_rank 14 = .ok (.iload_n 2, 1) := by decide +kernel
theorem dX8_rank_15 : decode cX8_rank 15 = .ok (.sipush 4096, 3) := by decide +kernel
theorem dX8_rank_18 : decode cX8_rank 18 = .ok (.if_icmp .lt 6, 3) := by decide +kernel
theorem dX8_rank_21 : decode cX8_rank 21 = .ok (.bipush (-2), 2) := by decide +kernel
theorem dX8_rank_23 : decode cX8_rank 23 = .ok (.ireturn, 1) := by decide +kernel
theorem dX8_rank_24 : decode cX8_rank 24 = .ok (.aload_n 3, 1) := by decide +kernel
theorem dX8_rank_25 : decode cX8_rank 25 = .ok (.iload_n 2, 1) := by decide +kernel
theorem dX8_rank_26 : decode cX8_rank 26 = .ok (.invokestatic 110, 3) := by decide +kernel
theorem dX8_rank_29 : decode cX8_rank 29 = .ok (.invokevirtual 234, 3) := by decide +kernel
theorem dX8_rank_32 : decode cX8_rank 32 = .ok (.ireturn, 1) := by decide +kernel
theorem dX8_best_0 : decode cX8_best 0 = .ok (.aload_n 0, 1) := by decide +kernel
theorem dX8_best_1 : decode cX8_best 1 = .ok (.iload_n 1, 1) := by decide +kernel
theorem dX8_best_2 : decode cX8_best 2 = .ok (.invokevirtual 151, 3) := by decide +kernel
theorem dX8_best_5 : decode cX8_best 5 = .ok (.astore 4, 2) := by decide +kernel
theorem dX8_best_7 : decode cX8_best 7 = .ok (.aload 4, 2) := by decide +kernel
theorem dX8_best_9 : decode cX8_best 9 = .ok (.ifnull 12, 3) := by decide +kernel
theorem dX8_best_12 : decode cX8_best 12 = .ok (.iload_n 2, 1) := by decide +kernel
theorem dX8_best_13 : decode cX8_best 13 = .ok (.ifCond .lt 8, 3) := by decide +kernel
theorem dX8_best_16 : decode cX8_best 16 = .ok (.iload_n 2, 1) := by decide +kernel
theorem dX8_best_17 : decode cX8_best 17 = .ok (.iconst 1, 1) := by decide +kernel
theorem dX8_best_18 : decode cX8_best 18 = .ok (.if_icmp .le 6, 3) := by decide +kernel
theorem dX8_best_21 : decode cX8_best 21 = .ok (.bipush (-2), 2) := by decide +kernel
theorem dX8_best_23 : decode cX8_best 23 = .ok (.ireturn, 1) := by decide +kernel
theorem dX8_best_24 : decode cX8_best 24 = .ok (.aload_n 0, 1) := by decide +kernel
theorem dX8_best_25 : decode cX8_best 25 = .ok (.getfield 37, 3) := by decide +kernel
theorem dX8_best_28 : decode cX8_best 28 = .ok (.aload_n 0, 1) := by decide +kernel
theorem dX8_best_29 : decode cX8_best 29 = .ok (.getfield 10, 3) := by decide +kernel
theorem dX8_best_32 : decode cX8_best 32 = .ok (.invokevirtual 197, 3) := by decide +kernel
theorem dX8_best_35 : decode cX8_best 35 = .ok (.aload_n 0, 1) := by decide +kernel
theorem dX8_best_36 : decode cX8_best 36 = .ok (.getfield 37, 3) := by decide +kernel
theorem dX8_best_39 : decode cX8_best 39 = .ok (.aload_n 0, 1) := by decide +kernel
theorem dX8_best_40 : decode cX8_best 40 = .ok (.getfield 30, 3) := by decide +kernel
theorem dX8_best_43 : decode cX8_best 43 = .ok (.aload 4, 2) := by decide +kernel
theorem dX8_best_45 : decode cX8_best 45 = .ok (.aload_n 0, 1) := by decide +kernel
theorem dX8_best_46 : decode cX8_best 46 = .ok (.getfield 30, 3) := by decide +kernel
theorem dX8_best_49 : decode cX8_best 49 = .ok (.invokevirtual 157, 3) := by decide +kernel
theorem dX8_best_52 : decode cX8_best 52 = .ok (.iload_n 2, 1) := by decide +kernel
theorem dX8_best_53 : decode cX8_best 53 = .ok (.ifCond .ne 7, 3) := by decide +kernel
theorem dX8_best_56 : decode cX8_best 56 = .ok (.iconst 1, 1) := by decide +kernel
theorem dX8_best_57 : decode cX8_best 57 = .ok (.goto 4, 3) := by decide +kernel
theorem dX8_best_60 : decode cX8_best 60 = .ok (.iconst 0, 1) := by decide +kernel
theorem dX8_best_61 : decode cX8_best 61 = .ok (.iload_n 3, 1) := by decide +kernel
theorem dX8_best_62 : decode cX8_best 62 = .ok (.invokevirtual 237, 3) := by decide +kernel
theorem dX8_best_65 : decode cX8_best 65 = .ok (.invokestatic 231, 3) := by decide +kernel
theorem dX8_best_68 : decode cX8_best 68 = .ok (.ireturn, 1) := by decide +kernel
theorem dX8_draw_0 : decode cX8_draw 0 = .ok (.aload_n 0, 1) := by decide +kernel
theorem dX8_draw_1 : decode cX8_draw 1 = .ok (.iload_n 1, 1) := by decide +kernel
theorem dX8_draw_2 : decode cX8_draw 2 = .ok (.invokevirtual 151, 3) := by decide +kernel
theorem dX8_draw_5 : decode cX8_draw 5 = .ok (.astore_n 3, 1) := by decide +kernel
theorem dX8_draw_6 : decode cX8_draw 6 = .ok (.aload_n 3, 1) := by decide +kernel
theorem dX8_draw_7 : decode cX8_draw 7 = .ok (.ifnonnull 6, 3) := by decide +kernel
theorem dX8_draw_10 : decode cX8_draw 10 = .ok (.bipush (-2), 2) := by decide +kernel
theorem dX8_draw_12 : decode cX8_draw 12 = .ok (.ireturn, 1) := by decide +kernel
theorem dX8_draw_13 : decode cX8_draw 13 = .ok (.aload_n 3, 1) := by decide +kernel
theorem dX8_draw_14 : decode cX8_draw 14 = .ok (.invokevirtual 166, 3) := by decide +kernel
theorem dX8_draw_17 : decode cX8_draw 17 = .ok (.istore 4, 2) := by decide +kernel
theorem dX8_draw_19 : decode cX8_draw 19 = .ok (.iload 4, 2) := by decide +kernel
theorem dX8_draw_21 : decode cX8_draw 21 = .ok (.ifCond .ne 7, 3) := by decide +kernel
theorem dX8_draw_24 : decode cX8_draw 24 = .ok (.iconst (-1), 1) := by decide +kernel
theorem dX8_draw_25 : decode cX8_draw 25 = .ok (.goto 16, 3) := by decide +kernel
theorem dX8_draw_28 : decode cX8_draw 28 = .ok (.aload_n 3, 1) := by decide +kernel
theorem dX8_draw_29 : decode cX8_draw 29 = .ok (.iload 4, 2) := by decide +kernel
theorem dX8_draw_31 : decode cX8_draw 31 = .ok (.iload_n 2, 1) := by decide +kernel
theorem dX8_draw_32 : decode cX8_draw 32 = .ok (.invokestatic 241, 3) := by decide +kernel
theorem dX8_draw_35 : decode cX8_draw 35 = .ok (.invokevirtual 228, 3) := by decide +kernel
theorem dX8_draw_38 : decode cX8_draw 38 = .ok (.invokestatic 231, 3) := by decide +kernel
theorem dX8_draw_41 : decode cX8_draw 41 = .ok (.ireturn, 1) := by decide +kernel
theorem dX8_same_0 : decode cX8_same 0 = .ok (.aload_n 0, 1) := by decide +kernel
theorem dX8_same_1 : decode cX8_same 1 = .ok (.iload_n 1, 1) := by decide +kernel
theorem dX8_same_2 : decode cX8_same 2 = .ok (.invokevirtual 151, 3) := by decide +kernel
theorem dX8_same_5 : decode cX8_same 5 = .ok (.astore_n 3, 1) := by decide +kernel
theorem dX8_same_6 : decode cX8_same 6 = .ok (.aload_n 0, 1) := by decide +kernel
theorem dX8_same_7 : decode cX8_same 7 = .ok (.iload_n 2, 1) := by decide +kernel
theorem dX8_same_8 : decode cX8_same 8 = .ok (.invokevirtual 151, 3) := by decide +kernel
theorem dX8_same_11 : decode cX8_same 11 = .ok (.astore 4, 2) := by decide +kernel
theorem dX8_same_13 : decode cX8_same 13 = .ok (.aload_n 3, 1) := by decide +kernel
theorem dX8_same_14 : decode cX8_same 14 = .ok (.ifnull 8, 3) := by decide +kernel
theorem dX8_same_17 : decode cX8_same 17 = .ok (.aload 4, 2) := by decide +kernel
theorem dX8_same_19 : decode cX8_same 19 = .ok (.ifnonnull 6, 3) := by decide +kernel
theorem dX8_same_22 : decode cX8_same 22 = .ok (.bipush (-2), 2) := by decide +kernel
theorem dX8_same_24 : decode cX8_same 24 = .ok (.ireturn, 1) := by decide +kernel
theorem dX8_same_25 : decode cX8_same 25 = .ok (.aload_n 3, 1) := by decide +kernel
theorem dX8_same_26 : decode cX8_same 26 = .ok (.aload 4, 2) := by decide +kernel
theorem dX8_same_28 : decode cX8_same 28 = .ok (.invokevirtual 245, 3) := by decide +kernel
theorem dX8_same_31 : decode cX8_same 31 = .ok (.ifCond .eq 7, 3) := by decide +kernel
theorem dX8_same_34 : decode cX8_same 34 = .ok (.iconst 1, 1) := by decide +kernel
theorem dX8_same_35 : decode cX8_same 35 = .ok (.goto 4, 3) := by decide +kernel
theorem dX8_same_38 : decode cX8_same 38 = .ok (.iconst 0, 1) := by decide +kernel
theorem dX8_same_39 : decode cX8_same 39 = .ok (.ireturn, 1) := by decide +kernel
theorem dX8_chance_0 : decode cX8_chance 0 = .ok (.aload_n 0, 1) := by decide +kernel
theorem dX8_chance_1 : decode cX8_chance 1 = .ok (.iload_n 1, 1) := by decide +kernel
theorem dX8_chance_2 : decode cX8_chance 2 = .ok (.invokevirtual 151, 3) := by decide +kernel
theorem dX8_chance_5 : decode cX8_chance 5 = .ok (.astore_n 2, 1) := by decide +kernel
theorem dX8_chance_6 : decode cX8_chance 6 = .ok (.aload_n 2, 1) := by decide +kernel
theorem dX8_chance_7 : decode cX8_chance 7 = .ok (.ifnonnull 9, 3) := by decide +kernel
theorem dX8_chance_10 : decode cX8_chance 10 = .ok (.ldc2_w 249, 3) := by decide +kernel
theorem dX8_chance_13 : decode cX8_chance 13 = .ok (.goto 10, 3) := by decide +kernel
theorem dX8_chance_16 : decode cX8_chance 16 = .ok (.aload_n 0, 1) := by decide +kernel
theorem dX8_chance_17 : decode cX8_chance 17 = .ok (.aload_n 2, 1) := by decide +kernel
theorem dX8_chance_18 : decode cX8_chance 18 = .ok (.iconst (-1), 1) := by decide +kernel
theorem dX8_chance_19 : decode cX8_chance 19 = .ok (.iconst 0, 1) := by decide +kernel
theorem dX8_chance_20 : decode cX8_chance 20 = .ok (.invokevirtual 251, 3) := by decide +kernel
theorem dX8_chance_23 : decode cX8_chance 23 = .ok (.lreturn, 1) := by decide +kernel
theorem dX8_matters_0 : decode cX8_matters 0 = .ok (.aload_n 0, 1) := by decide +kernel
theorem dX8_matters_1 : decode cX8_matters 1 = .ok (.iload_n 1, 1) := by decide +kernel
theorem dX8_matters_2 : decode cX8_matters 2 = .ok (.invokevirtual 151, 3) := by decide +kernel
theorem dX8_matters_5 : decode cX8_matters 5 = .ok (.astore_n 3, 1) := by decide +kernel
theorem dX8_matters_6 : decode cX8_matters 6 = .ok (.aload_n 3, 1) := by decide +kernel
theorem dX8_matters_7 : decode cX8_matters 7 = .ok (.ifnull 14, 3) := by decide +kernel
theorem dX8_matters_10 : decode cX8_matters 10 = .ok (.aload_n 0, 1) := by decide +kernel
theorem dX8_matters_11 : decode cX8_matters 11 = .ok (.getfield 10, 3) := by decide +kernel
theorem dX8_matters_14 : decode cX8_matters 14 = .ok (.iload_n 2, 1) := by decide +kernel
theorem dX8_matters_15 : decode cX8_matters 15 = .ok (.invokevirtual 88, 3) := by decide +kernel
theorem dX8_matters_18 : decode cX8_matters 18 = .ok (.ifCond .ne 7, 3) := by decide +kernel
theorem dX8_matters_21 : decode cX8_matters 21 = .ok (.ldc2_w 249, 3) := by decide +kernel
theorem dX8_matters_24 : decode cX8_matters 24 = .ok (.lreturn, 1) := by decide +kernel
theorem dX8_matters_25 : decode cX8_matters 25 = .ok (.aload_n 0, 1) := by decide +kernel
theorem dX8_matters_26 : decode cX8_matters 26 = .ok (.aload_n 3, 1) := by decide +kernel
theorem dX8_matters_27 : decode cX8_matters 27 = .ok (.iload_n 2, 1) := by decide +kernel
theorem dX8_matters_28 : decode cX8_matters 28 = .ok (.bipush 8, 2) := by decide +kernel
theorem dX8_matters_30 : decode cX8_matters 30 = .ok (.invokevirtual 251, 3) := by decide +kernel
theorem dX8_matters_33 : decode cX8_matters 33 = .ok (.aload_n 0, 1) := by decide +kernel
theorem dX8_matters_34 : decode cX8_matters 34 = .ok (.aload_n 3, 1) := by decide +kernel
theorem dX8_matters_35 : decode cX8_matters 35 = .ok (.iload_n 2, 1) := by decide +kernel
theorem dX8_matters_36 : decode cX8_matters 36 = .ok (.iconst 0, 1) := by decide +kernel
theorem dX8_matters_37 : decode cX8_matters 37 = .ok (.invokevirtual 251, 3) := by decide +kernel
theorem dX8_matters_40 : decode cX8_matters 40 = .ok (.lsub, 1) := by decide +kernel
theorem dX8_matters_41 : decode cX8_matters 41 = .ok (.lreturn, 1) := by decide +kernel
theorem dX8_turned_0 : decode cX8_turned 0 = .ok (.aload_n 0, 1) := by decide +kernel
theorem dX8_turned_1 : decode cX8_turned 1 = .ok (.iload_n 1, 1) := by decide +kernel
theorem dX8_turned_2 : decode cX8_turned 2 = .ok (.invokevirtual 151, 3) := by decide +kernel
theorem dX8_turned_5 : decode cX8_turned 5 = .ok (.astore_n 3, 1) := by decide +kernel
theorem dX8_turned_6 : decode cX8_turned 6 = .ok (.aload_n 3, 1) := by decide +kernel
theorem dX8_turned_7 : decode cX8_turned 7 = .ok (.ifnull 14, 3) := by decide +kernel
theorem dX8_turned_10 : decode cX8_turned 10 = .ok (.iload_n 2, 1) := by decide +kernel
theorem dX8_turned_11 : decode cX8_turned 11 = .ok (.iconst 1, 1) := by decide +kernel
theorem dX8_turned_12 : decode cX8_turned 12 = .ok (.if_icmp .lt 9, 3) := by decide +kernel
theorem dX8_turned_15 : decode cX8_turned 15 = .ok (.iload_n 2, 1) := by decide +kernel
theorem dX8_turned_16 : decode cX8_turned 16 = .ok (.bipush 12, 2) := by decide +kernel
theorem dX8_turned_18 : decode cX8_turned 18 = .ok (.if_icmp .le 6, 3) := by decide +kernel
theorem dX8_turned_21 : decode cX8_turned 21 = .ok (.bipush (-2), 2) := by decide +kernel
theorem dX8_turned_23 : decode cX8_turned 23 = .ok (.ireturn, 1) := by decide +kernel
theorem dX8_turned_24 : decode cX8_turned 24 = .ok (.aload_n 0, 1) := by decide +kernel
theorem dX8_turned_25 : decode cX8_turned 25 = .ok (.getfield 37, 3) := by decide +kernel
theorem dX8_turned_28 : decode cX8_turned 28 = .ok (.iload_n 2, 1) := by decide +kernel
theorem dX8_turned_29 : decode cX8_turned 29 = .ok (.invokevirtual 255, 3) := by decide +kernel
theorem dX8_turned_32 : decode cX8_turned 32 = .ok (.aload_n 0, 1) := by decide +kernel
theorem dX8_turned_33 : decode cX8_turned 33 = .ok (.getfield 23, 3) := by decide +kernel
theorem dX8_turned_36 : decode cX8_turned 36 = .ok (.iconst 0, 1) := by decide +kernel
theorem dX8_turned_37 : decode cX8_turned 37 = .ok (.invokevirtual 258, 3) := by decide +kernel
theorem dX8_turned_40 : decode cX8_turned 40 = .ok (.aload_n 3, 1) := by decide +kernel
theorem dX8_turned_41 : decode cX8_turned 41 = .ok (.aload_n 0, 1) := by decide +kernel
theorem dX8_turned_42 : decode cX8_turned 42 = .ok (.getfield 30, 3) := by decide +kernel
theorem dX8_turned_45 : decode cX8_turned 45 = .ok (.invokevirtual 157, 3) := by decide +kernel
theorem dX8_turned_48 : decode cX8_turned 48 = .ok (.istore 4, 2) := by decide +kernel
theorem dX8_turned_50 : decode cX8_turned 50 = .ok (.iconst 0, 1) := by decide +kernel
theorem dX8_turned_51 : decode cX8_turned 51 = .ok (.istore 5, 2) := by decide +kernel
theorem dX8_turned_53 : decode cX8_turned 53 = .ok (.iload 5, 2) := by decide +kernel
theorem dX8_turned_55 : decode cX8_turned 55 = .ok (.iload 4, 2) := by decide +kernel
theorem dX8_turned_57 : decode cX8_turned 57 = .ok (.if_icmp .ge 38, 3) := by decide +kernel
theorem dX8_turned_60 : decode cX8_turned 60 = .ok (.iload 5, 2) := by decide +kernel
theorem dX8_turned_62 : decode cX8_turned 62 = .ok (.sipush 4096, 3) := by decide +kernel
theorem dX8_turned_65 : decode cX8_turned 65 = .ok (.if_icmp .ge 30, 3) := by decide +kernel
theorem dX8_turned_68 : decode cX8_turned 68 = .ok (.aload_n 0, 1) := by decide +kernel
theorem dX8_turned_69 : decode cX8_turned 69 = .ok (.getfield 23, 3) := by decide +kernel
theorem dX8_turned_72 : decode cX8_turned 72 = .ok (.aload_n 0, 1) := by decide +kernel
theorem dX8_turned_73 : decode cX8_turned 73 = .ok (.getfield 37, 3) := by decide +kernel
theorem dX8_turned_76 : decode cX8_turned 76 = .ok (.aload_n 0, 1) := by decide +kernel
theorem dX8_turned_77 : decode cX8_turned 77 = .ok (.getfield 30, 3) := by decide +kernel
theorem dX8_turned_80 : decode cX8_turned 80 = .ok (.iload 5, 2) := by decide +kernel
theorem dX8_turned_82 : decode cX8_turned 82 = .ok (.iaload, 1) := by decide +kernel
theorem dX8_turned_83 : decode cX8_turned 83 = .ok (.invokevirtual 201, 3) := by decide +kernel
theorem dX8_turned_86 : decode cX8_turned 86 = .ok (.invokevirtual 113, 3) := by decide +kernel
theorem dX8_turned_89 : decode cX8_turned 89 = .ok (.iinc 5 1, 3) := by decide +kernel
theorem dX8_turned_92 : decode cX8_turned 92 = .ok (.goto (-39), 3) := by decide +kernel
theorem dX8_turned_95 : decode cX8_turned 95 = .ok (.aload_n 0, 1) := by decide +kernel
theorem dX8_turned_96 : decode cX8_turned 96 = .ok (.getfield 55, 3) := by decide +kernel
theorem dX8_turned_99 : decode cX8_turned 99 = .ok (.aload_n 0, 1) := by decide +kernel
theorem dX8_turned_100 : decode cX8_turned 100 = .ok (.getfield 23, 3) := by decide +kernel
theorem dX8_turned_103 : decode cX8_turned 103 = .ok (.invokevirtual 216, 3) := by decide +kernel
theorem dX8_turned_106 : decode cX8_turned 106 = .ok (.ireturn, 1) := by decide +kernel
theorem dX8_write_0 : decode cX8_write 0 = .ok (.aload_n 0, 1) := by decide +kernel
theorem dX8_write_1 : decode cX8_write 1 = .ok (.iload_n 1, 1) := by decide +kernel
theorem dX8_write_2 : decode cX8_write 2 = .ok (.invokevirtual 151, 3) := by decide +kernel
theorem dX8_write_5 : decode cX8_write 5 = .ok (.astore_n 2, 1) := by decide +kernel
theorem dX8_write_6 : decode cX8_write 6 = .ok (.aload_n 2, 1) := by decide +kernel
theorem dX8_write_7 : decode cX8_write 7 = .ok (.ifnonnull 8, 3) := by decide +kernel
theorem dX8_write_10 : decode cX8_write 10 = .ok (.bipush (-2), 2) := by decide +kernel
theorem dX8_write_12 : decode cX8_write 12 = .ok (.goto 11, 3) := by decide +kernel
theorem dX8_write_15 : decode cX8_write 15 = .ok (.aload_n 0, 1) := by decide +kernel
theorem dX8_write_16 : decode cX8_write 16 = .ok (.getfield 51, 3) := by decide +kernel
theorem dX8_write_19 : decode cX8_write 19 = .ok (.aload_n 2, 1) := by decide +kernel
theorem dX8_write_20 : decode cX8_write 20 = .ok (.invokevirtual 216, 3) := by decide +kernel
theorem dX8_write_23 : decode cX8_write 23 = .ok (.ireturn, 1) := by decide +kernel
theorem dX8_row_0 : decode cX8_row 0 = .ok (.aload_n 0, 1) := by decide +kernel
theorem dX8_row_1 : decode cX8_row 1 = .ok (.getfield 51, 3) := by decide +kernel
theorem dX8_row_4 : decode cX8_row 4 = .ok (.iload_n 1, 1) := by decide +kernel
theorem dX8_row_5 : decode cX8_row 5 = .ok (.iload_n 2, 1) := by decide +kernel
theorem dX8_row_6 : decode cX8_row 6 = .ok (.invokevirtual 261, 3) := by decide +kernel
theorem dX8_row_9 : decode cX8_row 9 = .ok (.ifCond .eq 17, 3) := by decide +kernel
theorem dX8_row_12 : decode cX8_row 12 = .ok (.aload_n 0, 1) := by decide +kernel
theorem dX8_row_13 : decode cX8_row 13 = .ok (.getfield 51, 3) := by decide +kernel
theorem dX8_row_16 : decode cX8_row 16 = .ok (.getfield 264, 3) := by decide +kernel
theorem dX8_row_19 : decode cX8_row 19 = .ok (.iload_n 2, 1) := by decide +kernel
theorem dX8_row_20 : decode cX8_row 20 = .ok (.aaload, 1) := by decide +kernel
theorem dX8_row_21 : decode cX8_row 21 = .ok (.iload_n 1, 1) := by decide +kernel
theorem dX8_row_22 : decode cX8_row 22 = .ok (.iaload, 1) := by decide +kernel
theorem dX8_row_23 : decode cX8_row 23 = .ok (.goto 5, 3) := by decide +kernel
theorem dX8_row_26 : decode cX8_row 26 = .ok (.bipush (-2), 2) := by decide +kernel
theorem dX8_row_28 : decode cX8_row 28 = .ok (.ireturn, 1) := by decide +kernel
theorem dX8_forge_0 : decode cX8_forge 0 = .ok (.aload_n 0, 1) := by decide +kernel
theorem dX8_forge_1 : decode cX8_forge 1 = .ok (.getfield 51, 3) := by decide +kernel
theorem dX8_forge_4 : decode cX8_forge 4 = .ok (.iload_n 1, 1) := by decide +kernel
theorem dX8_forge_5 : decode cX8_forge 5 = .ok (.iload_n 2, 1) := by decide +kernel
theorem dX8_forge_6 : decode cX8_forge 6 = .ok (.invokevirtual 261, 3) := by decide +kernel
theorem dX8_forge_9 : decode cX8_forge 9 = .ok (.ifCond .ne 6, 3) := by decide +kernel
theorem dX8_forge_12 : decode cX8_forge 12 = .ok (.bipush (-2), 2) := by decide +kernel
theorem dX8_forge_14 : decode cX8_forge 14 = .ok (.ireturn, 1) := by decide +kernel
theorem dX8_forge_15 : decode cX8_forge 15 = .ok (.aload_n 0, 1) := by decide +kernel
theorem dX8_forge_16 : decode cX8_forge 16 = .ok (.getfield 51, 3) := by decide +kernel
theorem dX8_forge_19 : decode cX8_forge 19 = .ok (.getfield 264, 3) := by decide +kernel
theorem dX8_forge_22 : decode cX8_forge 22 = .ok (.iload_n 2, 1) := by decide +kernel
theorem dX8_forge_23 : decode cX8_forge 23 = .ok (.aaload, 1) := by decide +kernel
theorem dX8_forge_24 : decode cX8_forge 24 = .ok (.iload_n 1, 1) := by decide +kernel
theorem dX8_forge_25 : decode cX8_forge 25 = .ok (.iload_n 3, 1) := by decide +kernel
theorem dX8_forge_26 : decode cX8_forge 26 = .ok (.iastore, 1) := by decide +kernel
theorem dX8_forge_27 : decode cX8_forge 27 = .ok (.iconst 1, 1) := by decide +kernel
theorem dX8_forge_28 : decode cX8_forge 28 = .ok (.ireturn, 1) := by decide +kernel
theorem dX8_check_0 : decode cX8_check 0 = .ok (.aload_n 0, 1) := by decide +kernel
theorem dX8_check_1 : decode cX8_check 1 = .ok (.iload_n 1, 1) := by decide +kernel
theorem dX8_check_2 : decode cX8_check 2 = .ok (.invokevirtual 151, 3) := by decide +kernel
theorem dX8_check_5 : decode cX8_check 5 = .ok (.astore_n 2, 1) := by decide +kernel
theorem dX8_check_6 : decode cX8_check 6 = .ok (.aload_n 2, 1) := by decide +kernel
theorem dX8_check_7 : decode cX8_check 7 = .ok (.ifnonnull 6, 3) := by decide +kernel
theorem dX8_check_10 : decode cX8_check 10 = .ok (.bipush (-2), 2) := by decide +kernel
theorem dX8_check_12 : decode cX8_check 12 = .ok (.ireturn, 1) := by decide +kernel
theorem dX8_check_13 : decode cX8_check 13 = .ok (.aload_n 0, 1) := by decide +kernel
theorem dX8_check_14 : decode cX8_check 14 = .ok (.getfield 51, 3) := by decide +kernel
theorem dX8_check_17 : decode cX8_check 17 = .ok (.aload_n 0, 1) := by decide +kernel
theorem dX8_check_18 : decode cX8_check 18 = .ok (.getfield 55, 3) := by decide +kernel
theorem dX8_check_21 : decode cX8_check 21 = .ok (.invokevirtual 268, 3) := by decide +kernel
theorem dX8_check_24 : decode cX8_check 24 = .ok (.istore_n 3, 1) := by decide +kernel
theorem dX8_check_25 : decode cX8_check 25 = .ok (.iload_n 3, 1) := by decide +kernel
theorem dX8_check_26 : decode cX8_check 26 = .ok (.ifCond .lt 5, 3) := by decide +kernel
theorem dX8_check_29 : decode cX8_check 29 = .ok (.iload_n 3, 1) := by decide +kernel
theorem dX8_check_30 : decode cX8_check 30 = .ok (.ireturn, 1) := by decide +kernel
theorem dX8_check_31 : decode cX8_check 31 = .ok (.aload_n 0, 1) := by decide +kernel
theorem dX8_check_32 : decode cX8_check 32 = .ok (.getfield 55, 3) := by decide +kernel
theorem dX8_check_35 : decode cX8_check 35 = .ok (.aload_n 2, 1) := by decide +kernel
theorem dX8_check_36 : decode cX8_check 36 = .ok (.invokevirtual 216, 3) := by decide +kernel
theorem dX8_check_39 : decode cX8_check 39 = .ok (.pop, 1) := by decide +kernel
theorem dX8_check_40 : decode cX8_check 40 = .ok (.aload_n 0, 1) := by decide +kernel
theorem dX8_check_41 : decode cX8_check 41 = .ok (.getfield 51, 3) := by decide +kernel
theorem dX8_check_44 : decode cX8_check 44 = .ok (.aload_n 0, 1) := by decide +kernel
theorem dX8_check_45 : decode cX8_check 45 = .ok (.getfield 55, 3) := by decide +kernel
theorem dX8_check_48 : decode cX8_check 48 = .ok (.invokevirtual 272, 3) := by decide +kernel
theorem dX8_check_51 : decode cX8_check 51 = .ok (.ifCond .eq 7, 3) := by decide +kernel
theorem dX8_check_54 : decode cX8_check 54 = .ok (.iconst (-1), 1) := by decide +kernel
theorem dX8_check_55 : decode cX8_check 55 = .ok (.goto 5, 3) := by decide +kernel
theorem dX8_check_58 : decode cX8_check 58 = .ok (.bipush (-3), 2) := by decide +kernel
theorem dX8_check_60 : decode cX8_check 60 = .ok (.ireturn, 1) := by decide +kernel
theorem dX8_sheet_0 : decode cX8_sheet 0 = .ok (.aload_n 0, 1) := by decide +kernel
theorem dX8_sheet_1 : decode cX8_sheet 1 = .ok (.getfield 61, 3) := by decide +kernel
theorem dX8_sheet_4 : decode cX8_sheet 4 = .ok (.iload_n 1, 1) := by decide +kernel
theorem dX8_sheet_5 : decode cX8_sheet 5 = .ok (.iload_n 2, 1) := by decide +kernel
theorem dX8_sheet_6 : decode cX8_sheet 6 = .ok (.iload_n 3, 1) := by decide +kernel
theorem dX8_sheet_7 : decode cX8_sheet 7 = .ok (.invokevirtual 275, 3) := by decide +kernel
theorem dX8_sheet_10 : decode cX8_sheet 10 = .ok (.ireturn, 1) := by decide +kernel
theorem dX8_cell_0 : decode cX8_cell 0 = .ok (.aload_n 0, 1) := by decide +kernel
theorem dX8_cell_1 : decode cX8_cell 1 = .ok (.getfield 61, 3) := by decide +kernel
theorem dX8_cell_4 : decode cX8_cell 4 = .ok (.iload_n 1, 1) := by decide +kernel
theorem dX8_cell_5 : decode cX8_cell 5 = .ok (.iload_n 2, 1) := by decide +kernel
theorem dX8_cell_6 : decode cX8_cell 6 = .ok (.iload_n 3, 1) := by decide +kernel
theorem dX8_cell_7 : decode cX8_cell 7 = .ok (.invokevirtual 278, 3) := by decide +kernel
theorem dX8_cell_10 : decode cX8_cell 10 = .ok (.ireturn, 1) := by decide +kernel
theorem dX8_lay_0 : decode cX8_lay 0 = .ok (.aload_n 0, 1) := by decide +kernel
theorem dX8_lay_1 : decode cX8_lay 1 = .ok (.getfield 61, 3) := by decide +kernel
theorem dX8_lay_4 : decode cX8_lay 4 = .ok (.iload_n 1, 1) := by decide +kernel
theorem dX8_lay_5 : decode cX8_lay 5 = .ok (.iload_n 2, 1) := by decide +kernel
theorem dX8_lay_6 : decode cX8_lay 6 = .ok (.iload_n 3, 1) := by decide +kernel
theorem dX8_lay_7 : decode cX8_lay 7 = .ok (.invokevirtual 281, 3) := by decide +kernel
theorem dX8_lay_10 : decode cX8_lay 10 = .ok (.istore 4, 2) := by decide +kernel
theorem dX8_lay_12 : decode cX8_lay 12 = .ok (.iload 4, 2) := by decide +kernel
theorem dX8_lay_14 : decode cX8_lay 14 = .ok (.ifCond .eq 6, 3) := by decide +kernel
theorem dX8_lay_17 : decode cX8_lay 17 = .ok (.iload 4, 2) := by decide +kernel
theorem dX8_lay_19 : decode cX8_lay 19 = .ok (.ireturn, 1) := by decide +kernel
theorem dX8_lay_20 : decode cX8_lay 20 = .ok (.aload_n 0, 1) := by decide +kernel
theorem dX8_lay_21 : decode cX8_lay 21 = .ok (.aload_n 0, 1) := by decide +kernel
theorem dX8_lay_22 : decode cX8_lay 22 = .ok (.getfield 61, 3) := by decide +kernel
theorem dX8_lay_25 : decode cX8_lay 25 = .ok (.iload_n 1, 1) := by decide +kernel
theorem dX8_lay_26 : decode cX8_lay 26 = .ok (.iload_n 3, 1) := by decide +kernel
theorem dX8_lay_27 : decode cX8_lay 27 = .ok (.invokevirtual 284, 3) := by decide +kernel
theorem dX8_lay_30 : decode cX8_lay 30 = .ok (.aload_n 0, 1) := by decide +kernel
theorem dX8_lay_31 : decode cX8_lay 31 = .ok (.getfield 61, 3) := by decide +kernel
theorem dX8_lay_34 : decode cX8_lay 34 = .ok (.iload_n 1, 1) := by decide +kernel
theorem dX8_lay_35 : decode cX8_lay 35 = .ok (.iload_n 3, 1) := by decide +kernel
theorem dX8_lay_36 : decode cX8_lay 36 = .ok (.iconst 1, 1) := by decide +kernel
theorem dX8_lay_37 : decode cX8_lay 37 = .ok (.iadd, 1) := by decide +kernel
theorem dX8_lay_38 : decode cX8_lay 38 = .ok (.invokevirtual 284, 3) := by decide +kernel
theorem dX8_lay_41 : decode cX8_lay 41 = .ok (.aload_n 0, 1) := by decide +kernel
theorem dX8_lay_42 : decode cX8_lay 42 = .ok (.getfield 61, 3) := by decide +kernel
theorem dX8_lay_45 : decode cX8_lay 45 = .ok (.iload_n 1, 1) := by decide +kernel
theorem dX8_lay_46 : decode cX8_lay 46 = .ok (.iload_n 3, 1) := by decide +kernel
theorem dX8_lay_47 : decode cX8_lay 47 = .ok (.iconst 2, 1) := by decide +kernel
theorem dX8_lay_48 : decode cX8_lay 48 = .ok (.iadd, 1) := by decide +kernel
theorem dX8_lay_49 : decode cX8_lay 49 = .ok (.invokevirtual 284, 3) := by decide +kernel
theorem dX8_lay_52 : decode cX8_lay 52 = .ok (.invokevirtual 287, 3) := by decide +kernel
theorem dX8_lay_55 : decode cX8_lay 55 = .ok (.ireturn, 1) := by decide +kernel
theorem dX8_shelf_0 : decode cX8_shelf 0 = .ok (.aload_n 0, 1) := by decide +kernel
theorem dX8_shelf_1 : decode cX8_shelf 1 = .ok (.getfield 61, 3) := by decide +kernel
theorem dX8_shelf_4 : decode cX8_shelf 4 = .ok (.iload_n 1, 1) := by decide +kernel
theorem dX8_shelf_5 : decode cX8_shelf 5 = .ok (.invokevirtual 290, 3) := by decide +kernel
theorem dX8_shelf_8 : decode cX8_shelf 8 = .ok (.ifCond .ne 6, 3) := by decide +kernel
theorem dX8_shelf_11 : decode cX8_shelf 11 = .ok (.bipush (-2), 2) := by decide +kernel
theorem dX8_shelf_13 : decode cX8_shelf 13 = .ok (.ireturn, 1) := by decide +kernel
theorem dX8_shelf_14 : decode cX8_shelf 14 = .ok (.iload_n 2, 1) := by decide +kernel
theorem dX8_shelf_15 : decode cX8_shelf 15 = .ok (.tableswitch 98 0 2 #[25, 61, 87], 25) := by decide +kernel
theorem dX8_shelf_40 : decode cX8_shelf 40 = .ok (.aload_n 0, 1) := by decide +kernel
theorem dX8_shelf_41 : decode cX8_shelf 41 = .ok (.iload_n 3, 1) := by decide +kernel
theorem dX8_shelf_42 : decode cX8_shelf 42 = .ok (.invokevirtual 151, 3) := by decide +kernel
theorem dX8_shelf_45 : decode cX8_shelf 45 = .ok (.astore 4, 2) := by decide +kernel
theorem dX8_shelf_47 : decode cX8_shelf 47 = .ok (.aload 4, 2) := by decide +kernel
theorem dX8_shelf_49 : decode cX8_shelf 49 = .ok (.ifnonnull 8, 3) := by decide +kernel
theorem dX8_shelf_52 : decode cX8_shelf 52 = .ok (.bipush (-2), 2) := by decide +kernel
theorem dX8_shelf_54 : decode cX8_shelf 54 = .ok (.goto 21, 3) := by decide +kernel
theorem dX8_shelf_57 : decode cX8_shelf 57 = .ok (.aload_n 0, 1) := by decide +kernel
theorem dX8_shelf_58 : decode cX8_shelf 58 = .ok (.getfield 61, 3) := by decide +kernel
theorem dX8_shelf_61 : decode cX8_shelf 61 = .ok (.iload_n 1, 1) := by decide +kernel
theorem dX8_shelf_62 : decode cX8_shelf 62 = .ok (.aload 4, 2) := by decide +kernel
theorem dX8_shelf_64 : decode cX8_shelf 64 = .ok (.getfield 213, 3) := by decide +kernel
theorem dX8_shelf_67 : decode cX8_shelf 67 = .ok (.aload 4, 2) := by decide +kernel
theorem dX8_shelf_69 : decode cX8_shelf 69 = .ok (.invokevirtual 166, 3) := by decide +kernel
theorem dX8_shelf_72 : decode cX8_shelf 72 = .ok (.invokevirtual 293, 3) := by decide +kernel
theorem dX8_shelf_75 : decode cX8_shelf 75 = .ok (.ireturn, 1) := by decide +kernel
theorem dX8_shelf_76 : decode cX8_shelf 76 = .ok (.aload_n 0, 1) := by decide +kernel
theorem dX8_shelf_77 : decode cX8_shelf 77 = .ok (.getfield 61, 3) := by decide +kernel
theorem dX8_shelf_80 : decode cX8_shelf 80 = .ok (.iload_n 3, 1) := by decide +kernel
theorem dX8_shelf_81 : decode cX8_shelf 81 = .ok (.invokevirtual 290, 3) := by decide +kernel
theorem dX8_shelf_84 : decode cX8_shelf 84 = .ok (.ifCond .eq 15, 3) := by decide +kernel
theorem dX8_shelf_87 : decode cX8_shelf 87 = .ok (.aload_n 0, 1) := by decide +kernel
theorem dX8_shelf_88 : decode cX8_shelf 88 = .ok (.getfield 61, 3) := by decide +kernel
theorem dX8_shelf_91 : decode cX8_shelf 91 = .ok (.iload_n 1, 1) := by decide +kernel
theorem dX8_shelf_92 : decode cX8_shelf 92 = .ok (.iload_n 3, 1) := by decide +kernel
theorem dX8_shelf_93 : decode cX8_shelf 93 = .ok (.invokevirtual 296, 3) := by decide +kernel
theorem dX8_shelf_96 : decode cX8_shelf 96 = .ok (.goto 5, 3) := by decide +kernel
theorem dX8_shelf_99 : decode cX8_shelf 99 = .ok (.bipush (-2), 2) := by decide +kernel
theorem dX8_shelf_101 : decode cX8_shelf 101 = .ok (.ireturn, 1) := by decide +kernel
theorem dX8_shelf_102 : decode cX8_shelf 102 = .ok (.aload_n 0, 1) := by decide +kernel
theorem dX8_shelf_103 : decode cX8_shelf 103 = .ok (.getfield 61, 3) := by decide +kernel
theorem dX8_shelf_106 : decode cX8_shelf 106 = .ok (.iload_n 1, 1) := by decide +kernel
theorem dX8_shelf_107 : decode cX8_shelf 107 = .ok (.iconst (-1), 1) := by decide +kernel
theorem dX8_shelf_108 : decode cX8_shelf 108 = .ok (.iconst 0, 1) := by decide +kernel
theorem dX8_shelf_109 : decode cX8_shelf 109 = .ok (.invokevirtual 293, 3) := by decide +kernel
theorem dX8_shelf_112 : decode cX8_shelf 112 = .ok (.ireturn, 1) := by decide +kernel
theorem dX8_shelf_113 : decode cX8_shelf 113 = .ok (.bipush (-2), 2) := by decide +kernel
theorem dX8_shelf_115 : decode cX8_shelf 115 = .ok (.ireturn, 1) := by decide +kernel
theorem dX8_taken_0 : decode cX8_taken 0 = .ok (.aload_n 0, 1) := by decide +kernel
theorem dX8_taken_1 : decode cX8_taken 1 = .ok (.getfield 61, 3) := by decide +kernel
theorem dX8_taken_4 : decode cX8_taken 4 = .ok (.iload_n 1, 1) := by decide +kernel
theorem dX8_taken_5 : decode cX8_taken 5 = .ok (.iload_n 2, 1) := by decide +kernel
theorem dX8_taken_6 : decode cX8_taken 6 = .ok (.invokevirtual 299, 3) := by decide +kernel
theorem dX8_taken_9 : decode cX8_taken 9 = .ok (.ireturn, 1) := by decide +kernel
theorem dX8_act_0 : decode cX8_act 0 = .ok (.aload_n 0, 1) := by decide +kernel
theorem dX8_act_1 : decode cX8_act 1 = .ok (.getfield 68, 3) := by decide +kernel
theorem dX8_act_4 : decode cX8_act 4 = .ok (.invokevirtual 302, 3) := by decide +kernel
theorem dX8_act_7 : decode cX8_act 7 = .ok (.aload_n 0, 1) := by decide +kernel
theorem dX8_act_8 : decode cX8_act 8 = .ok (.iload_n 1, 1) := by decide +kernel
theorem dX8_act_9 : decode cX8_act 9 = .ok (.invokevirtual 151, 3) := by decide +kernel
theorem dX8_act_12 : decode cX8_act 12 = .ok (.astore 4, 2) := by decide +kernel
theorem dX8_act_14 : decode cX8_act 14 = .ok (.aload 4, 2) := by decide +kernel
theorem dX8_act_16 : decode cX8_act 16 = .ok (.ifnull 12, 3) := by decide +kernel
theorem dX8_act_19 : decode cX8_act 19 = .ok (.iload_n 2, 1) := by decide +kernel
theorem dX8_act_20 : decode cX8_act 20 = .ok (.ifCond .lt 8, 3) := by decide +kernel
theorem dX8_act_23 : decode cX8_act 23 = .ok (.iload_n 2, 1) := by decide +kernel
theorem dX8_act_24 : decode cX8_act 24 = .ok (.iconst 2, 1) := by decide +kernel
theorem dX8_act_25 : decode cX8_act 25 = .ok (.if_icmp .le 5, 3) := by decide +kernel
theorem dX8_act_28 : decode cX8_act 28 = .ok (.iconst 0, 1) := by decide +kernel
theorem dX8_act_29 : decode cX8_act 29 = .ok (.ireturn, 1) := by decide +kernel
theorem dX8_act_30 : decode cX8_act 30 = .ok (.aload_n 0, 1) := by decide +kernel
theorem dX8_act_31 : decode cX8_act 31 = .ok (.getfield 68, 3) := by decide +kernel
theorem dX8_act_34 : decode cX8_act 34 = .ok (.aload 4, 2) := by decide +kernel
theorem dX8_act_36 : decode cX8_act 36 = .ok (.getfield 213, 3) := by decide +kernel
theorem dX8_act_39 : decode cX8_act 39 = .ok (.aload 4, 2) := by decide +kernel
theorem dX8_act_41 : decode cX8_act 41 = .ok (.invokevirtual 166, 3) := by decide +kernel
theorem dX8_act_44 : decode cX8_act 44 = .ok (.iload_n 2, 1) := by decide +kernel
theorem dX8_act_45 : decode cX8_act 45 = .ok (.iload_n 3, 1) := by decide +kernel
theorem dX8_act_46 : decode cX8_act 46 = .ok (.invokevirtual 305, 3) := by decide +kernel
theorem dX8_act_49 : decode cX8_act 49 = .ok (.ireturn, 1) := by decide +kernel
theorem dX8_trace_0 : decode cX8_trace 0 = .ok (.aload_n 0, 1) := by decide +kernel
theorem dX8_trace_1 : decode cX8_trace 1 = .ok (.getfield 68, 3) := by decide +kernel
theorem dX8_trace_4 : decode cX8_trace 4 = .ok (.iload_n 1, 1) := by decide +kernel
theorem dX8_trace_5 : decode cX8_trace 5 = .ok (.invokevirtual 309, 3) := by decide +kernel
theorem dX8_trace_8 : decode cX8_trace 8 = .ok (.ireturn, 1) := by decide +kernel
theorem dX8_there_0 : decode cX8_there 0 = .ok (.iload_n 1, 1) := by decide +kernel
theorem dX8_there_1 : decode cX8_there 1 = .ok (.tableswitch 72 0 4 #[35, 43, 51, 56, 64], 35) := by decide +kernel
theorem dX8_there_36 : decode cX8_there 36 = .ok (.aload_n 0, 1) := by decide +kernel
theorem dX8_there_37 : decode cX8_there 37 = .ok (.getfield 10, 3) := by decide +kernel
theorem dX8_there_40 : decode cX8_there 40 = .ok (.getfield 137, 3) := by decide +kernel
theorem dX8_there_43 : decode cX8_there 43 = .ok (.ireturn, 1) := by decide +kernel
theorem dX8_there_44 : decode cX8_there 44 = .ok (.aload_n 0, 1) := by decide +kernel
theorem dX8_there_45 : decode cX8_there 45 = .ok (.getfield 10, 3) := by decide +kernel
theorem dX8_there_48 : decode cX8_there 48 = .ok (.getfield 207, 3) := by decide +kernel
theorem dX8_there_51 : decode cX8_there 51 = .ok (.ireturn, 1) := by decide +kernel
theorem dX8_there_52 : decode cX8_there 52 = .ok (.aload_n 0, 1) := by decide +kernel
theorem dX8_there_53 : decode cX8_there 53 = .ok (.getfield 204, 3) := by decide +kernel
theorem dX8_there_56 : decode cX8_there 56 = .ok (.ireturn, 1) := by decide +kernel
theorem dX8_there_57 : decode cX8_there 57 = .ok (.aload_n 0, 1) := by decide +kernel
theorem dX8_there_58 : decode cX8_there 58 = .ok (.getfield 51, 3) := by decide +kernel
theorem dX8_there_61 : decode cX8_there 61 = .ok (.getfield 312, 3) := by decide +kernel
theorem dX8_there_64 : decode cX8_there 64 = .ok (.ireturn, 1) := by decide +kernel
theorem dX8_there_65 : decode cX8_there 65 = .ok (.aload_n 0, 1) := by decide +kernel
theorem dX8_there_66 : decode cX8_there 66 = .ok (.getfield 68, 3) := by decide +kernel
theorem dX8_there_69 : decode cX8_there 69 = .ok (.getfield 314, 3) := by decide +kernel
theorem dX8_there_72 : decode cX8_there 72 = .ok (.ireturn, 1) := by decide +kernel
theorem dX8_there_73 : decode cX8_there 73 = .ok (.bipush (-2), 2) := by decide +kernel
theorem dX8_there_75 : decode cX8_there 75 = .ok (.ireturn, 1) := by decide +kernel
theorem dX8_family_0 : decode cX8_family 0 = .ok (.iload_n 1, 1) := by decide +kernel
theorem dX8_family_1 : decode cX8_family 1 = .ok (.ifCond .lt 26, 3) := by decide +kernel
theorem dX8_family_4 : decode cX8_family 4 = .ok (.iload_n 1, 1) := by decide +kernel
theorem dX8_family_5 : decode cX8_family 5 = .ok (.aload_n 0, 1) := by decide +kernel
theorem dX8_family_6 : decode cX8_family 6 = .ok (.getfield 204, 3) := by decide +kernel
theorem dX8_family_9 : decode cX8_family 9 = .ok (.if_icmp .ge 18, 3) := by decide +kernel
theorem dX8_family_12 : decode cX8_family 12 = .ok (.iload_n 1, 1) := by decide +kernel
theorem dX8_family_13 : decode cX8_family 13 = .ok (.bipush 30, 2) := by decide +kernel
theorem dX8_family_15 : decode cX8_family 15 = .ok (.if_icmp .ge 12, 3) := by decide +kernel
theorem dX8_family_18 : decode cX8_family 18 = .ok (.aload_n 0, 1) := by decide +kernel
theorem dX8_family_19 : decode cX8_family 19 = .ok (.getfield 18, 3) := by decide +kernel
theorem dX8_family_22 : decode cX8_family 22 = .ok (.iload_n 1, 1) := by decide +kernel
theorem dX8_family_23 : decode cX8_family 23 = .ok (.aaload, 1) := by decide +kernel
theorem dX8_family_24 : decode cX8_family 24 = .ok (.goto 4, 3) := by decide +kernel
theorem dX8_family_27 : decode cX8_family 27 = .ok (.aconst_null, 1) := by decide +kernel
theorem dX8_family_28 : decode cX8_family 28 = .ok (.areturn, 1) := by decide +kernel
theorem dX8_blank_0 : decode cX8_blank 0 = .ok (.aload_n 0, 1) := by decide +kernel
theorem dX8_blank_1 : decode cX8_blank 1 = .ok (.getfield 204, 3) := by decide +kernel
theorem dX8_blank_4 : decode cX8_blank 4 = .ok (.ifCond .lt 24, 3) := by decide +kernel
theorem dX8_blank_7 : decode cX8_blank 7 = .ok (.aload_n 0, 1) := by decide +kernel
theorem dX8_blank_8 : decode cX8_blank 8 = .ok (.getfield 204, 3) := by decide +kernel
theorem dX8_blank_11 : decode cX8_blank 11 = .ok (.bipush 30, 2) := by decide +kernel
theorem dX8_blank_13 : decode cX8_blank 13 = .ok (.if_icmp .ge 15, 3) := by decide +kernel
theorem dX8_blank_16 : decode cX8_blank 16 = .ok (.aload_n 0, 1) := by decide +kernel
theorem dX8_blank_17 : decode cX8_blank 17 = .ok (.getfield 18, 3) := by decide +kernel
theorem dX8_blank_20 : decode cX8_blank 20 = .ok (.aload_n 0, 1) := by decide +kernel
theorem dX8_blank_21 : decode cX8_blank 21 = .ok (.getfield 204, 3) := by decide +kernel
theorem dX8_blank_24 : decode cX8_blank 24 = .ok (.aaload, 1) := by decide +kernel
theorem dX8_blank_25 : decode cX8_blank 25 = .ok (.goto 4, 3) := by decide +kernel
theorem dX8_blank_28 : decode cX8_blank 28 = .ok (.aconst_null, 1) := by decide +kernel
theorem dX8_blank_29 : decode cX8_blank 29 = .ok (.astore_n 2, 1) := by decide +kernel
theorem dX8_blank_30 : decode cX8_blank 30 = .ok (.aload_n 2, 1) := by decide +kernel
theorem dX8_blank_31 : decode cX8_blank 31 = .ok (.ifnull 8, 3) := by decide +kernel
theorem dX8_blank_34 : decode cX8_blank 34 = .ok (.aload_n 2, 1) := by decide +kernel
theorem dX8_blank_35 : decode cX8_blank 35 = .ok (.iload_n 1, 1) := by decide +kernel
theorem dX8_blank_36 : decode cX8_blank 36 = .ok (.invokevirtual 258, 3) := by decide +kernel
theorem dX8_blank_39 : decode cX8_blank 39 = .ok (.aload_n 2, 1) := by decide +kernel
theorem dX8_blank_40 : decode cX8_blank 40 = .ok (.areturn, 1) := by decide +kernel
theorem dX8_keep_0 : decode cX8_keep 0 = .ok (.aload_n 0, 1) := by decide +kernel
theorem dX8_keep_1 : decode cX8_keep 1 = .ok (.dup, 1) := by decide +kernel
theorem dX8_keep_2 : decode cX8_keep 2 = .ok (.getfield 204, 3) := by decide +kernel
theorem dX8_keep_5 : decode cX8_keep 5 = .ok (.iconst 1, 1) := by decide +kernel
theorem dX8_keep_6 : decode cX8_keep 6 = .ok (.iadd, 1) := by decide +kernel
theorem dX8_keep_7 : decode cX8_keep 7 = .ok (.putfield 204, 3) := by decide +kernel
theorem dX8_keep_10 : decode cX8_keep 10 = .ok (.aload_n 0, 1) := by decide +kernel
theorem dX8_keep_11 : decode cX8_keep 11 = .ok (.getfield 204, 3) := by decide +kernel
theorem dX8_keep_14 : decode cX8_keep 14 = .ok (.iconst 1, 1) := by decide +kernel
theorem dX8_keep_15 : decode cX8_keep 15 = .ok (.isub, 1) := by decide +kernel
theorem dX8_keep_16 : decode cX8_keep 16 = .ok (.ireturn, 1) := by decide +kernel
theorem dX8_fillJoined_0 : decode cX8_fillJoined 0 = .ok (.iload_n 2, 1) := by decide +kernel
theorem dX8_fillJoined_1 : decode cX8_fillJoined 1 = .ok (.tableswitch 172 0 6 #[43, 53, 63, 73, 87, 101, 144], 43) := by decide +kernel
theorem dX8_fillJoined_44 : decode cX8_fillJoined 44 = .ok (.aload_n 1, 1) := by decide +kernel
theorem dX8_fillJoined_45 : decode cX8_fillJoined 45 = .ok (.aload_n 3, 1) := by decide +kernel
theorem dX8_fillJoined_46 : decode cX8_fillJoined 46 = .ok (.aload 4, 2) := by decide +kernel
theorem dX8_fillJoined_48 : decode cX8_fillJoined 48 = .ok (.invokevirtual 317, 3) := by decide +kernel
theorem dX8_fillJoined_51 : decode cX8_fillJoined 51 = .ok (.goto 147, 3) := by decide +kernel
theorem dX8_fillJoined_54 : decode cX8_fillJoined 54 = .ok (.aload_n 1, 1) := by decide +kernel
theorem dX8_fillJoined_55 : decode cX8_fillJoined 55 = .ok (.aload_n 3, 1) := by decide +kernel
theorem dX8_fillJoined_56 : decode cX8_fillJoined 56 = .ok (.aload 4, 2) := by decide +kernel
theorem dX8_fillJoined_58 : decode cX8_fillJoined 58 = .ok (.invokevirtual 320, 3) := by decide +kernel
theorem dX8_fillJoined_61 : decode cX8_fillJoined 61 = .ok (.goto 137, 3) := by decide +kernel
theorem dX8_fillJoined_64 : decode cX8_fillJoined 64 = .ok (.aload_n 1, 1) := by decide +kernel
theorem dX8_fillJoined_65 : decode cX8_fillJoined 65 = .ok (.aload_n 3, 1) := by decide +kernel
theorem dX8_fillJoined_66 : decode cX8_fillJoined 66 = .ok (.aload 4, 2) := by decide +kernel
theorem dX8_fillJoined_68 : decode cX8_fillJoined 68 = .ok (.invokevirtual 323, 3) := by decide +kernel
theorem dX8_fillJoined_71 : decode cX8_fillJoined 71 = .ok (.goto 127, 3) := by decide +kernel
theorem dX8_fillJoined_74 : decode cX8_fillJoined 74 = .ok (.aload_n 0, 1) := by decide +kernel
theorem dX8_fillJoined_75 : decode cX8_fillJoined 75 = .ok (.getfield 44, 3) := by decide +kernel
theorem dX8_fillJoined_78 : decode cX8_fillJoined 78 = .ok (.aload_n 1, 1) := by decide +kernel
theorem dX8_fillJoined_79 : decode cX8_fillJoined 79 = .ok (.aload_n 3, 1) := by decide +kernel
theorem dX8_fillJoined_80 : decode cX8_fillJoined 80 = .ok (.aload 4, 2) := by decide +kernel
theorem dX8_fillJoined_82 : decode cX8_fillJoined 82 = .ok (.invokevirtual 326, 3) := by decide +kernel
theorem dX8_fillJoined_85 : decode cX8_fillJoined 85 = .ok (.goto 113, 3) := by decide +kernel
theorem dX8_fillJoined_88 : decode cX8_fillJoined 88 = .ok (.aload_n 1, 1) := by decide +kernel
theorem dX8_fillJoined_89 : decode cX8_fillJoined 89 = .ok (.aload_n 3, 1) := by decide +kernel
theorem dX8_fillJoined_90 : decode cX8_fillJoined 90 = .ok (.aload 4, 2) := by decide +kernel
theorem dX8_fillJoined_92 : decode cX8_fillJoined 92 = .ok (.aload_n 0, 1) := by decide +kernel
theorem dX8_fillJoined_93 : decode cX8_fillJoined 93 = .ok (.getfield 30, 3) := by decide +kernel
theorem dX8_fillJoined_96 : decode cX8_fillJoined 96 = .ok (.invokevirtual 330, 3) := by decide +kernel
theorem dX8_fillJoined_99 : decode cX8_fillJoined 99 = .ok (.goto 99, 3) := by decide +kernel
theorem dX8_fillJoined_102 : decode cX8_fillJoined 102 = .ok (.aload_n 0, 1) := by decide +kernel
theorem dX8_fillJoined_103 : decode cX8_fillJoined 103 = .ok (.getfield 23, 3) := by decide +kernel
theorem dX8_fillJoined_106 : decode cX8_fillJoined 106 = .ok (.aload_n 3, 1) := by decide +kernel
theorem dX8_fillJoined_107 : decode cX8_fillJoined 107 = .ok (.aload 4, 2) := by decide +kernel
theorem dX8_fillJoined_109 : decode cX8_fillJoined 109 = .ok (.aload_n 0, 1) := by decide +kernel
theorem dX8_fillJoined_110 : decode cX8_fillJoined 110 = .ok (.getfield 30, 3) := by decide +kernel
theorem dX8_fillJoined_113 : decode cX8_fillJoined 113 = .ok (.invokevirtual 330, 3) := by decide +kernel
theorem dX8_fillJoined_116 : decode cX8_fillJoined 116 = .ok (.aload_n 0, 1) := by decide +kernel
theorem dX8_fillJoined_117 : decode cX8_fillJoined 117 = .ok (.getfield 44, 3) := by decide +kernel
theorem dX8_fillJoined_120 : decode cX8_fillJoined 120 = .ok (.aload_n 0, 1) := by decide +kernel
theorem dX8_fillJoined_121 : decode cX8_fillJoined 121 = .ok (.getfield 27, 3) := by decide +kernel
theorem dX8_fillJoined_124 : decode cX8_fillJoined 124 = .ok (.aload_n 0, 1) := by decide +kernel
theorem dX8_fillJoined_125 : decode cX8_fillJoined 125 = .ok (.getfield 23, 3) := by decide +kernel
theorem dX8_fillJoined_128 : decode cX8_fillJoined 128 = .ok (.aload 4, 2) := by decide +kernel
theorem dX8_fillJoined_130 : decode cX8_fillJoined 130 = .ok (.invokevirtual 326, 3) := by decide +kernel
theorem dX8_fillJoined_133 : decode cX8_fillJoined 133 = .ok (.aload_n 1, 1) := by decide +kernel
theorem dX8_fillJoined_134 : decode cX8_fillJoined 134 = .ok (.aload_n 3, 1) := by decide +kernel
theorem dX8_fillJoined_135 : decode cX8_fillJoined 135 = .ok (.aload_n 0, 1) := by decide +kernel
theorem dX8_fillJoined_136 : decode cX8_fillJoined 136 = .ok (.getfield 27, 3) := by decide +kernel
theorem dX8_fillJoined_139 : decode cX8_fillJoined 139 = .ok (.invokevirtual 323, 3) := by decide +kernel
theorem dX8_fillJoined_142 : decode cX8_fillJoined 142 = .ok (.goto 56, 3) := by decide +kernel
theorem dX8_fillJoined_145 : decode cX8_fillJoined 145 = .ok (.aload_n 0, 1) := by decide +kernel
theorem dX8_fillJoined_146 : decode cX8_fillJoined 146 = .ok (.getfield 23, 3) := by decide +kernel
theorem dX8_fillJoined_149 : decode cX8_fillJoined 149 = .ok (.aload 4, 2) := by decide +kernel
theorem dX8_fillJoined_151 : decode cX8_fillJoined 151 = .ok (.invokevirtual 334, 3) := by decide +kernel
theorem dX8_fillJoined_154 : decode cX8_fillJoined 154 = .ok (.aload_n 0, 1) := by decide +kernel
theorem dX8_fillJoined_155 : decode cX8_fillJoined 155 = .ok (.getfield 23, 3) := by decide +kernel
theorem dX8_fillJoined_158 : decode cX8_fillJoined 158 = .ok (.invokevirtual 338, 3) := by decide +kernel
theorem dX8_fillJoined_161 : decode cX8_fillJoined 161 = .ok (.aload_n 1, 1) := by decide +kernel
theorem dX8_fillJoined_162 : decode cX8_fillJoined 162 = .ok (.aload_n 3, 1) := by decide +kernel
theorem dX8_fillJoined_163 : decode cX8_fillJoined 163 = .ok (.aload_n 0, 1) := by decide +kernel
theorem dX8_fillJoined_164 : decode cX8_fillJoined 164 = .ok (.getfield 23, 3) := by decide +kernel
theorem dX8_fillJoined_167 : decode cX8_fillJoined 167 = .ok (.invokevirtual 317, 3) := by decide +kernel
theorem dX8_fillJoined_170 : decode cX8_fillJoined 170 = .ok (.goto 28, 3) := by decide +kernel
theorem dX8_fillJoined_173 : decode cX8_fillJoined 173 = .ok (.aload_n 0, 1) := by decide +kernel
theorem dX8_fillJoined_174 : decode cX8_fillJoined 174 = .ok (.getfield 23, 3) := by decide +kernel
theorem dX8_fillJoined_177 : decode cX8_fillJoined 177 = .ok (.aload 4, 2) := by decide +kernel
theorem dX8_fillJoined_179 : decode cX8_fillJoined 179 = .ok (.invokevirtual 334, 3) := by decide +kernel
theorem dX8_fillJoined_182 : decode cX8_fillJoined 182 = .ok (.aload_n 0, 1) := by decide +kernel
theorem dX8_fillJoined_183 : decode cX8_fillJoined 183 = .ok (.getfield 23, 3) := by decide +kernel
theorem dX8_fillJoined_186 : decode cX8_fillJoined 186 = .ok (.invokevirtual 121, 3) := by decide +kernel
theorem dX8_fillJoined_189 : decode cX8_fillJoined 189 = .ok (.aload_n 1, 1) := by decide +kernel
theorem dX8_fillJoined_190 : decode cX8_fillJoined 190 = .ok (.aload_n 3, 1) := by decide +kernel
theorem dX8_fillJoined_191 : decode cX8_fillJoined 191 = .ok (.aload_n 0, 1) := by decide +kernel
theorem dX8_fillJoined_192 : decode cX8_fillJoined 192 = .ok (.getfield 23, 3) := by decide +kernel
theorem dX8_fillJoined_195 : decode cX8_fillJoined 195 = .ok (.invokevirtual 317, 3) := by decide +kernel
theorem dX8_fillJoined_198 : decode cX8_fillJoined 198 = .ok (.return_, 1) := by decide +kernel
theorem dX8_chanceIf_0 : decode cX8_chanceIf 0 = .ok (.aload_n 0, 1) := by decide +kernel
theorem dX8_chanceIf_1 : decode cX8_chanceIf 1 = .ok (.getfield 23, 3) := by decide +kernel
theorem dX8_chanceIf_4 : decode cX8_chanceIf 4 = .ok (.aload_n 1, 1) := by decide +kernel
theorem dX8_chanceIf_5 : decode cX8_chanceIf 5 = .ok (.invokevirtual 334, 3) := by decide +kernel
theorem dX8_chanceIf_8 : decode cX8_chanceIf 8 = .ok (.aload_n 0, 1) := by decide +kernel
theorem dX8_chanceIf_9 : decode cX8_chanceIf 9 = .ok (.getfield 23, 3) := by decide +kernel
theorem dX8_chanceIf_12 : decode cX8_chanceIf 12 = .ok (.invokevirtual 338, 3) := by decide +kernel
theorem dX8_chanceIf_15 : decode cX8_chanceIf 15 = .ok (.aload_n 0, 1) := by decide +kernel
theorem dX8_chanceIf_16 : decode cX8_chanceIf 16 = .ok (.getfield 44, 3) := by decide +kernel
theorem dX8_chanceIf_19 : decode cX8_chanceIf 19 = .ok (.aload_n 0, 1) := by decide +kernel
theorem dX8_chanceIf_20 : decode cX8_chanceIf 20 = .ok (.getfield 23, 3) := by decide +kernel
theorem dX8_chanceIf_23 : decode cX8_chanceIf 23 = .ok (.aload_n 0, 1) := by decide +kernel
theorem dX8_chanceIf_24 : decode cX8_chanceIf 24 = .ok (.getfield 10, 3) := by decide +kernel
theorem dX8_chanceIf_27 : decode cX8_chanceIf 27 = .ok (.iload_n 2, 1) := by decide +kernel
theorem dX8_chanceIf_28 : decode cX8_chanceIf 28 = .ok (.iload_n 3, 1) := by decide +kernel
theorem dX8_chanceIf_29 : decode cX8_chanceIf 29 = .ok (.invokevirtual 341, 3) := by decide +kernel
theorem dX8_chanceIf_32 : decode cX8_chanceIf 32 = .ok (.lreturn, 1) := by decide +kernel
theorem dX8_drawn_0 : decode cX8_drawn 0 = .ok (.iconst 0, 1) := by decide +kernel
theorem dX8_drawn_1 : decode cX8_drawn 1 = .ok (.istore_n 2, 1) := by decide +kernel
theorem dX8_drawn_2 : decode cX8_drawn 2 = .ok (.iload_n 2, 1) := by decide +kernel
theorem dX8_drawn_3 : decode cX8_drawn 3 = .ok (.bipush 12, 2) := by decide +kernel
theorem dX8_drawn_5 : decode cX8_drawn 5 = .ok (.if_icmp .ge 16, 3) := by decide +kernel
theorem dX8_drawn_8 : decode cX8_drawn 8 = .ok (.iconst 1, 1) := by decide +kernel
theorem dX8_drawn_9 : decode cX8_drawn 9 = .ok (.iload_n 2, 1) := by decide +kernel
theorem dX8_drawn_10 : decode cX8_drawn 10 = .ok (.ishl, 1) := by decide +kernel
theorem dX8_drawn_11 : decode cX8_drawn 11 = .ok (.iload_n 0, 1) := by decide +kernel
theorem dX8_drawn_12 : decode cX8_drawn 12 = .ok (.if_icmp .ge 9, 3) := by decide +kernel
theorem dX8_drawn_15 : decode cX8_drawn 15 = .ok (.iinc 2 1, 3) := by decide +kernel
theorem dX8_drawn_18 : decode cX8_drawn 18 = .ok (.goto (-16), 3) := by decide +kernel
theorem dX8_drawn_21 : decode cX8_drawn 21 = .ok (.iload_n 1, 1) := by decide +kernel
theorem dX8_drawn_22 : decode cX8_drawn 22 = .ok (.istore_n 3, 1) := by decide +kernel
theorem dX8_drawn_23 : decode cX8_drawn 23 = .ok (.iconst 0, 1) := by decide +kernel
theorem dX8_drawn_24 : decode cX8_drawn 24 = .ok (.istore 4, 2) := by decide +kernel
theorem dX8_drawn_26 : decode cX8_drawn 26 = .ok (.iconst 0, 1) := by decide +kernel
theorem dX8_drawn_27 : decode cX8_drawn 27 = .ok (.istore 5, 2) := by decide +kernel
theorem dX8_drawn_29 : decode cX8_drawn 29 = .ok (.iload 5, 2) := by decide +kernel
theorem dX8_drawn_31 : decode cX8_drawn 31 = .ok (.sipush 1000, 3) := by decide +kernel
theorem dX8_drawn_34 : decode cX8_drawn 34 = .ok (.if_icmp .ge 44, 3) := by decide +kernel
theorem dX8_drawn_37 : decode cX8_drawn 37 = .ok (.iload_n 3, 1) := by decide +kernel
theorem dX8_drawn_38 : decode cX8_drawn 38 = .ok (.ldc_w 345, 3) := by decide +kernel
theorem dX8_drawn_41 : decode cX8_drawn 41 = .ok (.imul, 1) := by decide +kernel
theorem dX8_drawn_42 : decode cX8_drawn 42 = .ok (.sipush 12345, 3) := by decide +kernel
theorem dX8_drawn_45 : decode cX8_drawn 45 = .ok (.iadd, 1) := by decide +kernel
theorem dX8_drawn_46 : decode cX8_drawn 46 = .ok (.istore_n 3, 1) := by decide +kernel
theorem dX8_drawn_47 : decode cX8_drawn 47 = .ok (.iload_n 2, 1) := by decide +kernel
theorem dX8_drawn_48 : decode cX8_drawn 48 = .ok (.ifCond .ne 7, 3) := by decide +kernel
theorem dX8_drawn_51 : decode cX8_drawn 51 = .ok (.iconst 0, 1) := by decide +kernel
theorem dX8_drawn_52 : decode cX8_drawn 52 = .ok (.goto 9, 3) := by decide +kernel
theorem dX8_drawn_55 : decode cX8_drawn 55 = .ok (.iload_n 3, 1) := by decide +kernel
theorem dX8_drawn_56 : decode cX8_drawn 56 = .ok (.bipush 32, 2) := by decide +kernel
theorem dX8_drawn_58 : decode cX8_drawn 58 = .ok (.iload_n 2, 1) := by decide +kernel
theorem dX8_drawn_59 : decode cX8_drawn 59 = .ok (.isub, 1) := by decide +kernel
theorem dX8_drawn_60 : decode cX8_drawn 60 = .ok (.iushr, 1) := by decide +kernel
theorem dX8_drawn_61 : decode cX8_drawn 61 = .ok (.istore 4, 2) := by decide +kernel
theorem dX8_drawn_63 : decode cX8_drawn 63 = .ok (.iload 4, 2) := by decide +kernel
theorem dX8_drawn_65 : decode cX8_drawn 65 = .ok (.iload_n 0, 1) := by decide +kernel
theorem dX8_drawn_66 : decode cX8_drawn 66 = .ok (.if_icmp .ge 6, 3) := by decide +kernel
theorem dX8_drawn_69 : decode cX8_drawn 69 = .ok (.iload 4, 2) := by decide +kernel
theorem dX8_drawn_71 : decode cX8_drawn 71 = .ok (.ireturn, 1) := by decide +kernel
theorem dX8_drawn_72 : decode cX8_drawn 72 = .ok (.iinc 5 1, 3) := by decide +kernel
theorem dX8_drawn_75 : decode cX8_drawn 75 = .ok (.goto (-46), 3) := by decide +kernel
theorem dX8_drawn_78 : decode cX8_drawn 78 = .ok (.iload_n 0, 1) := by decide +kernel
theorem dX8_drawn_79 : decode cX8_drawn 79 = .ok (.ifCond .le 10, 3) := by decide +kernel
theorem dX8_drawn_82 : decode cX8_drawn 82 = .ok (.iload 4, 2) := by decide +kernel
theorem dX8_drawn_84 : decode cX8_drawn 84 = .ok (.iload_n 0, 1) := by decide +kernel
theorem dX8_drawn_85 : decode cX8_drawn 85 = .ok (.irem, 1) := by decide +kernel
theorem dX8_drawn_86 : decode cX8_drawn 86 = .ok (.goto 4, 3) := by decide +kernel
theorem dX8_drawn_89 : decode cX8_drawn 89 = .ok (.iconst 0, 1) := by decide +kernel
theorem dX8_drawn_90 : decode cX8_drawn 90 = .ok (.ireturn, 1) := by decide +kernel
theorem dX8_mirrored_0 : decode cX8_mirrored 0 = .ok (.iconst 0, 1) := by decide +kernel
theorem dX8_mirrored_1 : decode cX8_mirrored 1 = .ok (.istore_n 1, 1) := by decide +kernel
theorem dX8_mirrored_2 : decode cX8_mirrored 2 = .ok (.iconst 0, 1) := by decide +kernel
theorem dX8_mirrored_3 : decode cX8_mirrored 3 = .ok (.istore_n 2, 1) := by decide +kernel
theorem dX8_mirrored_4 : decode cX8_mirrored 4 = .ok (.iload_n 2, 1) := by decide +kernel
theorem dX8_mirrored_5 : decode cX8_mirrored 5 = .ok (.bipush 12, 2) := by decide +kernel
theorem dX8_mirrored_7 : decode cX8_mirrored 7 = .ok (.if_icmp .ge 19, 3) := by decide +kernel
theorem dX8_mirrored_10 : decode cX8_mirrored 10 = .ok (.iload_n 1, 1) := by decide +kernel
theorem dX8_mirrored_11 : decode cX8_mirrored 11 = .ok (.iconst 1, 1) := by decide +kernel
theorem dX8_mirrored_12 : decode cX8_mirrored 12 = .ok (.ishl, 1) := by decide +kernel
theorem dX8_mirrored_13 : decode cX8_mirrored 13 = .ok (.iload_n 0, 1) := by decide +kernel
theorem dX8_mirrored_14 : decode cX8_mirrored 14 = .ok (.iload_n 2, 1) := by decide +kernel
theorem dX8_mirrored_15 : decode cX8_mirrored 15 = .ok (.ishr, 1) := by decide +kernel
theorem dX8_mirrored_16 : decode cX8_mirrored 16 = .ok (.iconst 1, 1) := by decide +kernel
theorem dX8_mirrored_17 : decode cX8_mirrored 17 = .ok (.iand, 1) := by decide +kernel
theorem dX8_mirrored_18 : decode cX8_mirrored 18 = .ok (.ior, 1) := by decide +kernel
theorem dX8_mirrored_19 : decode cX8_mirrored 19 = .ok (.istore_n 1, 1) := by decide +kernel
theorem dX8_mirrored_20 : decode cX8_mirrored 20 = .ok (.iinc 2 1, 3) := by decide +kernel
theorem dX8_mirrored_23 : decode cX8_mirrored 23 = .ok (.goto (-19), 3) := by decide +kernel
theorem dX8_mirrored_26 : decode cX8_mirrored 26 = .ok (.iload_n 1, 1) := by decide +kernel
theorem dX8_mirrored_27 : decode cX8_mirrored 27 = .ok (.ireturn, 1) := by decide +kernel
theorem dX8_maskAt_0 : decode cX8_maskAt 0 = .ok (.iload_n 0, 1) := by decide +kernel
theorem dX8_maskAt_1 : decode cX8_maskAt 1 = .ok (.ifCond .ge 7, 3) := by decide +kernel
theorem dX8_maskAt_4 : decode cX8_maskAt 4 = .ok (.iconst (-1), 1) := by decide +kernel
theorem dX8_maskAt_5 : decode cX8_maskAt 5 = .ok (.goto 7, 3) := by decide +kernel
theorem dX8_maskAt_8 : decode cX8_maskAt 8 = .ok (.iload_n 0, 1) := by decide +kernel
theorem dX8_maskAt_9 : decode cX8_maskAt 9 = .ok (.invokestatic 110, 3) := by decide +kernel
theorem dX8_maskAt_12 : decode cX8_maskAt 12 = .ok (.ireturn, 1) := by decide +kernel
theorem dJ6_bitCount_0f7a4_0 : decode cJ6_bitCount_0f7a4 0 = .ok (.iload_n 0, 1) := by decide +kernel
theorem dJ6_bitCount_0f7a4_1 : decode cJ6_bitCount_0f7a4 1 = .ok (.iload_n 0, 1) := by decide +kernel
theorem dJ6_bitCount_0f7a4_2 : decode cJ6_bitCount_0f7a4 2 = .ok (.iconst 1, 1) := by decide +kernel
theorem dJ6_bitCount_0f7a4_3 : decode cJ6_bitCount_0f7a4 3 = .ok (.iushr, 1) := by decide +kernel
theorem dJ6_bitCount_0f7a4_4 : decode cJ6_bitCount_0f7a4 4 = .ok (.ldc_w 265, 3) := by decide +kernel
theorem dJ6_bitCount_0f7a4_7 : decode cJ6_bitCount_0f7a4 7 = .ok (.iand, 1) := by decide +kernel
theorem dJ6_bitCount_0f7a4_8 : decode cJ6_bitCount_0f7a4 8 = .ok (.isub, 1) := by decide +kernel
theorem dJ6_bitCount_0f7a4_9 : decode cJ6_bitCount_0f7a4 9 = .ok (.istore_n 0, 1) := by decide +kernel
theorem dJ6_bitCount_0f7a4_10 : decode cJ6_bitCount_0f7a4 10 = .ok (.iload_n 0, 1) := by decide +kernel
theorem dJ6_bitCount_0f7a4_11 : decode cJ6_bitCount_0f7a4 11 = .ok (.ldc_w 266, 3) := by decide +kernel
theorem dJ6_bitCount_0f7a4_14 : decode cJ6_bitCount_0f7a4 14 = .ok (.iand, 1) := by decide +kernel
theorem dJ6_bitCount_0f7a4_15 : decode cJ6_bitCount_0f7a4 15 = .ok (.iload_n 0, 1) := by decide +kernel
theorem dJ6_bitCount_0f7a4_16 : decode cJ6_bitCount_0f7a4 16 = .ok (.iconst 2, 1) := by decide +kernel
theorem dJ6_bitCount_0f7a4_17 : decode cJ6_bitCount_0f7a4 17 = .ok (.iushr, 1) := by decide +kernel
theorem dJ6_bitCount_0f7a4_18 : decode cJ6_bitCount_0f7a4 18 = .ok (.ldc_w 266, 3) := by decide +kernel
theorem dJ6_bitCount_0f7a4_21 : decode cJ6_bitCount_0f7a4 21 = .ok (.iand, 1) := by decide +kernel
theorem dJ6_bitCount_0f7a4_22 : decode cJ6_bitCount_0f7a4 22 = .ok (.iadd, 1) := by decide +kernel
theorem dJ6_bitCount_0f7a4_23 : decode cJ6_bitCount_0f7a4 23 = .ok (.istore_n 0, 1) := by decide +kernel
theorem dJ6_bitCount_0f7a4_24 : decode cJ6_bitCount_0f7a4 24 = .ok (.iload_n 0, 1) := by decide +kernel
theorem dJ6_bitCount_0f7a4_25 : decode cJ6_bitCount_0f7a4 25 = .ok (.iload_n 0, 1) := by decide +kernel
theorem dJ6_bitCount_0f7a4_26 : decode cJ6_bitCount_0f7a4 26 = .ok (.iconst 4, 1) := by decide +kernel
theorem dJ6_bitCount_0f7a4_27 : decode cJ6_bitCount_0f7a4 27 = .ok (.iushr, 1) := by decide +kernel
theorem dJ6_bitCount_0f7a4_28 : decode cJ6_bitCount_0f7a4 28 = .ok (.iadd, 1) := by decide +kernel
theorem dJ6_bitCount_0f7a4_29 : decode cJ6_bitCount_0f7a4 29 = .ok (.ldc_w 267, 3) := by decide +kernel
theorem dJ6_bitCount_0f7a4_32 : decode cJ6_bitCount_0f7a4 32 = .ok (.iand, 1) := by decide +kernel
theorem dJ6_bitCount_0f7a4_33 : decode cJ6_bitCount_0f7a4 33 = .ok (.istore_n 0, 1) := by decide +kernel
theorem dJ6_bitCount_0f7a4_34 : decode cJ6_bitCount_0f7a4 34 = .ok (.iload_n 0, 1) := by decide +kernel
theorem dJ6_bitCount_0f7a4_35 : decode cJ6_bitCount_0f7a4 35 = .ok (.iload_n 0, 1) := by decide +kernel
theorem dJ6_bitCount_0f7a4_36 : decode cJ6_bitCount_0f7a4 36 = .ok (.bipush 8, 2) := by decide +kernel
theorem dJ6_bitCount_0f7a4_38 : decode cJ6_bitCount_0f7a4 38 = .ok (.iushr, 1) := by decide +kernel
theorem dJ6_bitCount_0f7a4_39 : decode cJ6_bitCount_0f7a4 39 = .ok (.iadd, 1) := by decide +kernel
theorem dJ6_bitCount_0f7a4_40 : decode cJ6_bitCount_0f7a4 40 = .ok (.istore_n 0, 1) := by decide +kernel
theorem dJ6_bitCount_0f7a4_41 : decode cJ6_bitCount_0f7a4 41 = .ok (.iload_n 0, 1) := by decide +kernel
theorem dJ6_bitCount_0f7a4_42 : decode cJ6_bitCount_0f7a4 42 = .ok (.iload_n 0, 1) := by decide +kernel
theorem dJ6_bitCount_0f7a4_43 : decode cJ6_bitCount_0f7a4 43 = .ok (.bipush 16, 2) := by decide +kernel
theorem dJ6_bitCount_0f7a4_45 : decode cJ6_bitCount_0f7a4 45 = .ok (.iushr, 1) := by decide +kernel
theorem dJ6_bitCount_0f7a4_46 : decode cJ6_bitCount_0f7a4 46 = .ok (.iadd, 1) := by decide +kernel
theorem dJ6_bitCount_0f7a4_47 : decode cJ6_bitCount_0f7a4 47 = .ok (.istore_n 0, 1) := by decide +kernel
theorem dJ6_bitCount_0f7a4_48 : decode cJ6_bitCount_0f7a4 48 = .ok (.iload_n 0, 1) := by decide +kernel
theorem dJ6_bitCount_0f7a4_49 : decode cJ6_bitCount_0f7a4 49 = .ok (.bipush 63, 2) := by decide +kernel
theorem dJ6_bitCount_0f7a4_51 : decode cJ6_bitCount_0f7a4 51 = .ok (.iand, 1) := by decide +kernel
theorem dJ6_bitCount_0f7a4_52 : decode cJ6_bitCount_0f7a4 52 = .ok (.ireturn, 1) := by decide +kernel
theorem dJ13_bitCount_95d88_0 : decode cJ13_bitCount_95d88 0 = .ok (.lload_n 0, 1) := by decide +kernel
theorem dJ13_bitCount_95d88_1 : decode cJ13_bitCount_95d88 1 = .ok (.lload_n 0, 1) := by decide +kernel
theorem dJ13_bitCount_95d88_2 : decode cJ13_bitCount_95d88 2 = .ok (.iconst 1, 1) := by decide +kernel
theorem dJ13_bitCount_95d88_3 : decode cJ13_bitCount_95d88 3 = .ok (.lushr, 1) := by decide +kernel
theorem dJ13_bitCount_95d88_4 : decode cJ13_bitCount_95d88 4 = .ok (.ldc2_w 314, 3) := by decide +kernel
theorem dJ13_bitCount_95d88_7 : decode cJ13_bitCount_95d88 7 = .ok (.land, 1) := by decide +kernel
theorem dJ13_bitCount_95d88_8 : decode cJ13_bitCount_95d88 8 = .ok (.lsub, 1) := by decide +kernel
theorem dJ13_bitCount_95d88_9 : decode cJ13_bitCount_95d88 9 = .ok (.lstore_n 0, 1) := by decide +kernel
theorem dJ13_bitCount_95d88_10 : decode cJ13_bitCount_95d88 10 = .ok (.lload_n 0, 1) := by decide +kernel
theorem dJ13_bitCount_95d88_11 : decode cJ13_bitCount_95d88 11 = .ok (.ldc2_w 316, 3) := by decide +kernel
theorem dJ13_bitCount_95d88_14 : decode cJ13_bitCount_95d88 14 = .ok (.land, 1) := by decide +kernel
theorem dJ13_bitCount_95d88_15 : decode cJ13_bitCount_95d88 15 = .ok (.lload_n 0, 1) := by decide +kernel
theorem dJ13_bitCount_95d88_16 : decode cJ13_bitCount_95d88 16 = .ok (.iconst 2, 1) := by decide +kernel
theorem dJ13_bitCount_95d88_17 : decode cJ13_bitCount_95d88 17 = .ok (.lushr, 1) := by decide +kernel
theorem dJ13_bitCount_95d88_18 : decode cJ13_bitCount_95d88 18 = .ok (.ldc2_w 316, 3) := by decide +kernel
theorem dJ13_bitCount_95d88_21 : decode cJ13_bitCount_95d88 21 = .ok (.land, 1) := by decide +kernel
theorem dJ13_bitCount_95d88_22 : decode cJ13_bitCount_95d88 22 = .ok (.ladd, 1) := by decide +kernel
theorem dJ13_bitCount_95d88_23 : decode cJ13_bitCount_95d88 23 = .ok (.lstore_n 0, 1) := by decide +kernel
theorem dJ13_bitCount_95d88_24 : decode cJ13_bitCount_95d88 24 = .ok (.lload_n 0, 1) := by decide +kernel
theorem dJ13_bitCount_95d88_25 : decode cJ13_bitCount_95d88 25 = .ok (.lload_n 0, 1) := by decide +kernel
theorem dJ13_bitCount_95d88_26 : decode cJ13_bitCount_95d88 26 = .ok (.iconst 4, 1) := by decide +kernel
theorem dJ13_bitCount_95d88_27 : decode cJ13_bitCount_95d88 27 = .ok (.lushr, 1) := by decide +kernel
theorem dJ13_bitCount_95d88_28 : decode cJ13_bitCount_95d88 28 = .ok (.ladd, 1) := by decide +kernel
theorem dJ13_bitCount_95d88_29 : decode cJ13_bitCount_95d88 29 = .ok (.ldc2_w 318, 3) := by decide +kernel
theorem dJ13_bitCount_95d88_32 : decode cJ13_bitCount_95d88 32 = .ok (.land, 1) := by decide +kernel
theorem dJ13_bitCount_95d88_33 : decode cJ13_bitCount_95d88 33 = .ok (.lstore_n 0, 1) := by decide +kernel
theorem dJ13_bitCount_95d88_34 : decode cJ13_bitCount_95d88 34 = .ok (.lload_n 0, 1) := by decide +kernel
theorem dJ13_bitCount_95d88_35 : decode cJ13_bitCount_95d88 35 = .ok (.lload_n 0, 1) := by decide +kernel
theorem dJ13_bitCount_95d88_36 : decode cJ13_bitCount_95d88 36 = .ok (.bipush 8, 2) := by decide +kernel
theorem dJ13_bitCount_95d88_38 : decode cJ13_bitCount_95d88 38 = .ok (.lushr, 1) := by decide +kernel
theorem dJ13_bitCount_95d88_39 : decode cJ13_bitCount_95d88 39 = .ok (.ladd, 1) := by decide +kernel
theorem dJ13_bitCount_95d88_40 : decode cJ13_bitCount_95d88 40 = .ok (.lstore_n 0, 1) := by decide +kernel
theorem dJ13_bitCount_95d88_41 : decode cJ13_bitCount_95d88 41 = .ok (.lload_n 0, 1) := by decide +kernel
theorem dJ13_bitCount_95d88_42 : decode cJ13_bitCount_95d88 42 = .ok (.lload_n 0, 1) := by decide +kernel
theorem dJ13_bitCount_95d88_43 : decode cJ13_bitCount_95d88 43 = .ok (.bipush 16, 2) := by decide +kernel
theorem dJ13_bitCount_95d88_45 : decode cJ13_bitCount_95d88 45 = .ok (.lushr, 1) := by decide +kernel
theorem dJ13_bitCount_95d88_46 : decode cJ13_bitCount_95d88 46 = .ok (.ladd, 1) := by decide +kernel
theorem dJ13_bitCount_95d88_47 : decode cJ13_bitCount_95d88 47 = .ok (.lstore_n 0, 1) := by decide +kernel
theorem dJ13_bitCount_95d88_48 : decode cJ13_bitCount_95d88 48 = .ok (.lload_n 0, 1) := by decide +kernel
theorem dJ13_bitCount_95d88_49 : decode cJ13_bitCount_95d88 49 = .ok (.lload_n 0, 1) := by decide +kernel
theorem dJ13_bitCount_95d88_50 : decode cJ13_bitCount_95d88 50 = .ok (.bipush 32, 2) := by decide +kernel
theorem dJ13_bitCount_95d88_52 : decode cJ13_bitCount_95d88 52 = .ok (.lushr, 1) := by decide +kernel
theorem dJ13_bitCount_95d88_53 : decode cJ13_bitCount_95d88 53 = .ok (.ladd, 1) := by decide +kernel
theorem dJ13_bitCount_95d88_54 : decode cJ13_bitCount_95d88 54 = .ok (.lstore_n 0, 1) := by decide +kernel
theorem dJ13_bitCount_95d88_55 : decode cJ13_bitCount_95d88 55 = .ok (.lload_n 0, 1) := by decide +kernel
theorem dJ13_bitCount_95d88_56 : decode cJ13_bitCount_95d88 56 = .ok (.l2i, 1) := by decide +kernel
theorem dJ13_bitCount_95d88_57 : decode cJ13_bitCount_95d88 57 = .ok (.bipush 127, 2) := by decide +kernel
theorem dJ13_bitCount_95d88_59 : decode cJ13_bitCount_95d88 59 = .ok (.iand, 1) := by decide +kernel
theorem dJ13_bitCount_95d88_60 : decode cJ13_bitCount_95d88 60 = .ok (.ireturn, 1) := by decide +kernel
theorem dJ9_max_7cf53_0 : decode cJ9_max_7cf53 0 = .ok (.iload_n 0, 1) := by decide +kernel
theorem dJ9_max_7cf53_1 : decode cJ9_max_7cf53 1 = .ok (.iload_n 1, 1) := by decide +kernel
theorem dJ9_max_7cf53_2 : decode cJ9_max_7cf53 2 = .ok (.if_icmp .lt 7, 3) := by decide +kernel
theorem dJ9_max_7cf53_5 : decode cJ9_max_7cf53 5 = .ok (.iload_n 0, 1) := by decide +kernel
theorem dJ9_max_7cf53_6 : decode cJ9_max_7cf53 6 = .ok (.goto 4, 3) := by decide +kernel
theorem dJ9_max_7cf53_9 : decode cJ9_max_7cf53 9 = .ok (.iload_n 1, 1) := by decide +kernel
theorem dJ9_max_7cf53_10 : decode cJ9_max_7cf53 10 = .ok (.ireturn, 1) := by decide +kernel
theorem dJ9_min_7cf53_0 : decode cJ9_min_7cf53 0 = .ok (.iload_n 0, 1) := by decide +kernel
theorem dJ9_min_7cf53_1 : decode cJ9_min_7cf53 1 = .ok (.iload_n 1, 1) := by decide +kernel
theorem dJ9_min_7cf53_2 : decode cJ9_min_7cf53 2 = .ok (.if_icmp .gt 7, 3) := by decide +kernel
theorem dJ9_min_7cf53_5 : decode cJ9_min_7cf53 5 = .ok (.iload_n 0, 1) := by decide +kernel
theorem dJ9_min_7cf53_6 : decode cJ9_min_7cf53 6 = .ok (.goto 4, 3) := by decide +kernel
theorem dJ9_min_7cf53_9 : decode cJ9_min_7cf53 9 = .ok (.iload_n 1, 1) := by decide +kernel
theorem dJ9_min_7cf53_10 : decode cJ9_min_7cf53 10 = .ok (.ireturn, 1) := by decide +kernel
theorem dJ7_fill_d0a16_0 : decode cJ7_fill_d0a16 0 = .ok (.iconst 0, 1) := by decide +kernel
theorem dJ7_fill_d0a16_1 : decode cJ7_fill_d0a16 1 = .ok (.istore_n 3, 1) := by decide +kernel
theorem dJ7_fill_d0a16_2 : decode cJ7_fill_d0a16 2 = .ok (.aload_n 0, 1) := by decide +kernel
theorem dJ7_fill_d0a16_3 : decode cJ7_fill_d0a16 3 = .ok (.arraylength, 1) := by decide +kernel
theorem dJ7_fill_d0a16_4 : decode cJ7_fill_d0a16 4 = .ok (.istore 4, 2) := by decide +kernel
theorem dJ7_fill_d0a16_6 : decode cJ7_fill_d0a16 6 = .ok (.iload_n 3, 1) := by decide +kernel
theorem dJ7_fill_d0a16_7 : decode cJ7_fill_d0a16 7 = .ok (.iload 4, 2) := by decide +kernel
theorem dJ7_fill_d0a16_9 : decode cJ7_fill_d0a16 9 = .ok (.if_icmp .ge 13, 3) := by decide +kernel
theorem dJ7_fill_d0a16_12 : decode cJ7_fill_d0a16 12 = .ok (.aload_n 0, 1) := by decide +kernel
theorem dJ7_fill_d0a16_13 : decode cJ7_fill_d0a16 13 = .ok (.iload_n 3, 1) := by decide +kernel
theorem dJ7_fill_d0a16_14 : decode cJ7_fill_d0a16 14 = .ok (.lload_n 1, 1) := by decide +kernel
theorem dJ7_fill_d0a16_15 : decode cJ7_fill_d0a16 15 = .ok (.lastore, 1) := by decide +kernel
theorem dJ7_fill_d0a16_16 : decode cJ7_fill_d0a16 16 = .ok (.iinc 3 1, 3) := by decide +kernel
theorem dJ7_fill_d0a16_19 : decode cJ7_fill_d0a16 19 = .ok (.goto (-13), 3) := by decide +kernel
theorem dJ7_fill_d0a16_22 : decode cJ7_fill_d0a16 22 = .ok (.return_, 1) := by decide +kernel
theorem dJ7_fill_53178_0 : decode cJ7_fill_53178 0 = .ok (.iconst 0, 1) := by decide +kernel
theorem dJ7_fill_53178_1 : decode cJ7_fill_53178 1 = .ok (.istore_n 2, 1) := by decide +kernel
theorem dJ7_fill_53178_2 : decode cJ7_fill_53178 2 = .ok (.aload_n 0, 1) := by decide +kernel
theorem dJ7_fill_53178_3 : decode cJ7_fill_53178 3 = .ok (.arraylength, 1) := by decide +kernel
theorem dJ7_fill_53178_4 : decode cJ7_fill_53178 4 = .ok (.istore_n 3, 1) := by decide +kernel
theorem dJ7_fill_53178_5 : decode cJ7_fill_53178 5 = .ok (.iload_n 2, 1) := by decide +kernel
theorem dJ7_fill_53178_6 : decode cJ7_fill_53178 6 = .ok (.iload_n 3, 1) := by decide +kernel
theorem dJ7_fill_53178_7 : decode cJ7_fill_53178 7 = .ok (.if_icmp .ge 13, 3) := by decide +kernel
theorem dJ7_fill_53178_10 : decode cJ7_fill_53178 10 = .ok (.aload_n 0, 1) := by decide +kernel
theorem dJ7_fill_53178_11 : decode cJ7_fill_53178 11 = .ok (.iload_n 2, 1) := by decide +kernel
theorem dJ7_fill_53178_12 : decode cJ7_fill_53178 12 = .ok (.iload_n 1, 1) := by decide +kernel
theorem dJ7_fill_53178_13 : decode cJ7_fill_53178 13 = .ok (.iastore, 1) := by decide +kernel
theorem dJ7_fill_53178_14 : decode cJ7_fill_53178 14 = .ok (.iinc 2 1, 3) := by decide +kernel
theorem dJ7_fill_53178_17 : decode cJ7_fill_53178 17 = .ok (.goto (-12), 3) := by decide +kernel
theorem dJ7_fill_53178_20 : decode cJ7_fill_53178 20 = .ok (.return_, 1) := by decide +kernel
