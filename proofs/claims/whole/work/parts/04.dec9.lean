theorem dX9_init_0 : decode cX9_init 0 = .ok (.aload_n 0, 1) := by decide +kernel
theorem dX9_init_1 : decode cX9_init 1 = .ok (.invokespecial 1, 3) := by decide +kernel
theorem dX9_init_4 : decode cX9_init 4 = .ok (.aload_n 0, 1) := by decide +kernel
theorem dX9_init_5 : decode cX9_init 5 = .ok (.bipush 8, 2) := by decide +kernel
theorem dX9_init_7 : decode cX9_init 7 = .ok (.newarray .int, 2) := by decide +kernel
theorem dX9_init_9 : decode cX9_init 9 = .ok (.putfield 7, 3) := by decide +kernel
theorem dX9_init_12 : decode cX9_init 12 = .ok (.aload_n 0, 1) := by decide +kernel
theorem dX9_init_13 : decode cX9_init 13 = .ok (.bipush 24, 2) := by decide +kernel
theorem dX9_init_15 : decode cX9_init 15 = .ok (.newarray .int, 2) := by decide +kernel
theorem dX9_init_17 : decode cX9_init 17 = .ok (.putfield 13, 3) := by decide +kernel
theorem dX9_init_20 : decode cX9_init 20 = .ok (.aload_n 0, 1) := by decide +kernel
theorem dX9_init_21 : decode cX9_init 21 = .ok (.bipush 12, 2) := by decide +kernel
theorem dX9_init_23 : decode cX9_init 23 = .ok (.newarray .int, 2) := by decide +kernel
theorem dX9_init_25 : decode cX9_init 25 = .ok (.putfield 16, 3) := by decide +kernel
theorem dX9_init_28 : decode cX9_init 28 = .ok (.aload_n 0, 1) := by decide +kernel
theorem dX9_init_29 : decode cX9_init 29 = .ok (.bipush 12, 2) := by decide +kernel
theorem dX9_init_31 : decode cX9_init 31 = .ok (.newarray .int, 2) := by decide +kernel
theorem dX9_init_33 : decode cX9_init 33 = .ok (.putfield 19, 3) := by decide +kernel
theorem dX9_init_36 : decode cX9_init 36 = .ok (.aload_n 0, 1) := by decide +kernel
theorem dX9_init_37 : decode cX9_init 37 = .ok (.bipush 30, 2) := by decide +kernel
theorem dX9_init_39 : decode cX9_init 39 = .ok (.newarray .int, 2) := by decide +kernel
theorem dX9_init_41 : decode cX9_init 41 = .ok (.putfield 22, 3) := by decide +kernel
theorem dX9_init_44 : decode cX9_init 44 = .ok (.aload_n 0, 1) := by decide +kernel
theorem dX9_init_45 : decode cX9_init 45 = .ok (.ldc 25, 2) := by decide +kernel
theorem dX9_init_47 : decode cX9_init 47 = .ok (.newarray .boolean, 2) := by decide +kernel
theorem dX9_init_49 : decode cX9_init 49 = .ok (.putfield 26, 3) := by decide +kernel
theorem dX9_init_52 : decode cX9_init 52 = .ok (.aload_n 0, 1) := by decide +kernel
theorem dX9_init_53 : decode cX9_init 53 = .ok (.sipush 4400, 3) := by decide +kernel
theorem dX9_init_56 : decode cX9_init 56 = .ok (.newarray .int, 2) := by decide +kernel
theorem dX9_init_58 : decode cX9_init 58 = .ok (.putfield 30, 3) := by decide +kernel
theorem dX9_init_61 : decode cX9_init 61 = .ok (.aload_n 0, 1) := by decide +kernel
theorem dX9_init_62 : decode cX9_init 62 = .ok (.bipush 6, 2) := by decide +kernel
theorem dX9_init_64 : decode cX9_init 64 = .ok (.newarray .int, 2) := by decide +kernel
theorem dX9_init_66 : decode cX9_init 66 = .ok (.putfield 33, 3) := by decide +kernel
theorem dX9_init_69 : decode cX9_init 69 = .ok (.aload_n 0, 1) := by decide +kernel
theorem dX9_init_70 : decode cX9_init 70 = .ok (.bipush 6, 2) := by decide +kernel
theorem dX9_init_72 : decode cX9_init 72 = .ok (.newarray .int, 2) := by decide +kernel
theorem dX9_init_74 : decode cX9_init 74 = .ok (.putfield 36, 3) := by decide +kernel
theorem dX9_init_77 : decode cX9_init 77 = .ok (.aload_n 0, 1) := by decide +kernel
theorem dX9_init_78 : decode cX9_init 78 = .ok (.sipush 240, 3) := by decide +kernel
theorem dX9_init_81 : decode cX9_init 81 = .ok (.newarray .int, 2) := by decide +kernel
theorem dX9_init_83 : decode cX9_init 83 = .ok (.putfield 39, 3) := by decide +kernel
theorem dX9_init_86 : decode cX9_init 86 = .ok (.aload_n 0, 1) := by decide +kernel
theorem dX9_init_87 : decode cX9_init 87 = .ok (.bipush 6, 2) := by decide +kernel
theorem dX9_init_89 : decode cX9_init 89 = .ok (.newarray .int, 2) := by decide +kernel
theorem dX9_init_91 : decode cX9_init 91 = .ok (.putfield 42, 3) := by decide +kernel
theorem dX9_init_94 : decode cX9_init 94 = .ok (.aload_n 0, 1) := by decide +kernel
theorem dX9_init_95 : decode cX9_init 95 = .ok (.bipush 6, 2) := by decide +kernel
theorem dX9_init_97 : decode cX9_init 97 = .ok (.newarray .int, 2) := by decide +kernel
theorem dX9_init_99 : decode cX9_init 99 = .ok (.putfield 45, 3) := by decide +kernel
theorem dX9_init_102 : decode cX9_init 102 = .ok (.aload_n 0, 1) := by decide +kernel
theorem dX9_init_103 : decode cX9_init 103 = .ok (.bipush 6, 2) := by decide +kernel
theorem dX9_init_105 : decode cX9_init 105 = .ok (.newarray .int, 2) := by decide +kernel
theorem dX9_init_107 : decode cX9_init 107 = .ok (.putfield 48, 3) := by decide +kernel
theorem dX9_init_110 : decode cX9_init 110 = .ok (.aload_n 0, 1) := by decide +kernel
theorem dX9_init_111 : decode cX9_init 111 = .ok (.bipush 40, 2) := by decide +kernel
theorem dX9_init_113 : decode cX9_init 113 = .ok (.newarray .int, 2) := by decide +kernel
theorem dX9_init_115 : decode cX9_init 115 = .ok (.putfield 51, 3) := by decide +kernel
theorem dX9_init_118 : decode cX9_init 118 = .ok (.aload_n 0, 1) := by decide +kernel
theorem dX9_init_119 : decode cX9_init 119 = .ok (.bipush 8, 2) := by decide +kernel
theorem dX9_init_121 : decode cX9_init 121 = .ok (.newarray .int, 2) := by decide +kernel
theorem dX9_init_123 : decode cX9_init 123 = .ok (.putfield 54, 3) := by decide +kernel
theorem dX9_init_126 : decode cX9_init 126 = .ok (.aload_n 0, 1) := by decide +kernel
theorem dX9_init_127 : decode cX9_init 127 = .ok (.sipush 4096, 3) := by decide +kernel
theorem dX9_init_130 : decode cX9_init 130 = .ok (.newarray .boolean, 2) := by decide +kernel
theorem dX9_init_132 : decode cX9_init 132 = .ok (.putfield 57, 3) := by decide +kernel
theorem dX9_init_135 : decode cX9_init 135 = .ok (.aload_n 0, 1) := by decide +kernel
theorem dX9_init_136 : decode cX9_init 136 = .ok (.sipush 4096, 3) := by decide +kernel
theorem dX9_init_139 : decode cX9_init 139 = .ok (.newarray .boolean, 2) := by decide +kernel
theorem dX9_init_141 : decode cX9_init 141 = .ok (.putfield 60, 3) := by decide +kernel
theorem dX9_init_144 : decode cX9_init 144 = .ok (.aload_n 0, 1) := by decide +kernel
theorem dX9_init_145 : decode cX9_init 145 = .ok (.sipush 1100, 3) := by decide +kernel
theorem dX9_init_148 : decode cX9_init 148 = .ok (.newarray .int, 2) := by decide +kernel
theorem dX9_init_150 : decode cX9_init 150 = .ok (.putfield 63, 3) := by decide +kernel
theorem dX9_init_153 : decode cX9_init 153 = .ok (.aload_n 0, 1) := by decide +kernel
theorem dX9_init_154 : decode cX9_init 154 = .ok (.sipush 1100, 3) := by decide +kernel
theorem dX9_init_157 : decode cX9_init 157 = .ok (.newarray .int, 2) := by decide +kernel
theorem dX9_init_159 : decode cX9_init 159 = .ok (.putfield 66, 3) := by decide +kernel
theorem dX9_init_162 : decode cX9_init 162 = .ok (.aload_n 0, 1) := by decide +kernel
theorem dX9_init_163 : decode cX9_init 163 = .ok (.sipush 1100, 3) := by decide +kernel
theorem dX9_init_166 : decode cX9_init 166 = .ok (.newarray .int, 2) := by decide +kernel
theorem dX9_init_168 : decode cX9_init 168 = .ok (.putfield 69, 3) := by decide +kernel
theorem dX9_init_171 : decode cX9_init 171 = .ok (.aload_n 0, 1) := by decide +kernel
theorem dX9_init_172 : decode cX9_init 172 = .ok (.sipush 4096, 3) := by decide +kernel
theorem dX9_init_175 : decode cX9_init 175 = .ok (.newarray .int, 2) := by decide +kernel
theorem dX9_init_177 : decode cX9_init 177 = .ok (.putfield 72, 3) := by decide +kernel
theorem dX9_init_180 : decode cX9_init 180 = .ok (.aload_n 0, 1) := by decide +kernel
theorem dX9_init_181 : decode cX9_init 181 = .ok (.sipush 1100, 3) := by decide +kernel
theorem dX9_init_184 : decode cX9_init 184 = .ok (.newarray .int, 2) := by decide +kernel
theorem dX9_init_186 : decode cX9_init 186 = .ok (.putfield 75, 3) := by decide +kernel
theorem dX9_init_189 : decode cX9_init 189 = .ok (.aload_n 0, 1) := by decide +kernel
theorem dX9_init_190 : decode cX9_init 190 = .ok (.bipush 40, 2) := by decide +kernel
theorem dX9_init_192 : decode cX9_init 192 = .ok (.newarray .int, 2) := by decide +kernel
theorem dX9_init_194 : decode cX9_init 194 = .ok (.putfield 78, 3) := by decide +kernel
theorem dX9_init_197 : decode cX9_init 197 = .ok (.aload_n 0, 1) := by decide +kernel
theorem dX9_init_198 : decode cX9_init 198 = .ok (.bipush 40, 2) := by decide +kernel
theorem dX9_init_200 : decode cX9_init 200 = .ok (.newarray .int, 2) := by decide +kernel
theorem dX9_init_202 : decode cX9_init 202 = .ok (.putfield 81, 3) := by decide +kernel
theorem dX9_init_205 : decode cX9_init 205 = .ok (.aload_n 0, 1) := by decide +kernel
theorem dX9_init_206 : decode cX9_init 206 = .ok (.sipush 4400, 3) := by decide +kernel
theorem dX9_init_209 : decode cX9_init 209 = .ok (.newarray .int, 2) := by decide +kernel
theorem dX9_init_211 : decode cX9_init 211 = .ok (.putfield 84, 3) := by decide +kernel
theorem dX9_init_214 : decode cX9_init 214 = .ok (.iconst 0, 1) := by decide +kernel
theorem dX9_init_215 : decode cX9_init 215 = .ok (.istore_n 1, 1) := by decide +kernel
theorem dX9_init_216 : decode cX9_init 216 = .ok (.iload_n 1, 1) := by decide +kernel
theorem dX9_init_217 : decode cX9_init 217 = .ok (.bipush 6, 2) := by decide +kernel
theorem dX9_init_219 : decode cX9_init 219 = .ok (.if_icmp .ge 16, 3) := by decide +kernel
theorem dX9_init_222 : decode cX9_init 222 = .ok (.aload_n 0, 1) := by decide +kernel
theorem dX9_init_223 : decode cX9_init 223 = .ok (.getfield 33, 3) := by decide +kernel
theorem dX9_init_226 : decode cX9_init 226 = .ok (.iload_n 1, 1) := by decide +kernel
theorem dX9_init_227 : decode cX9_init 227 = .ok (.iconst (-1), 1) := by decide +kernel
theorem dX9_init_228 : decode cX9_init 228 = .ok (.iastore, 1) := by decide +kernel
theorem dX9_init_229 : decode cX9_init 229 = .ok (.iinc 1 1, 3) := by decide +kernel
theorem dX9_init_232 : decode cX9_init 232 = .ok (.goto (-16), 3) := by decide +kernel
theorem dX9_init_235 : decode cX9_init 235 = .ok (.return_, 1) := by decide +kernel
theorem dX9_in_0 : decode cX9_in 0 = .ok (.iload_n 0, 1) := by decide +kernel
theorem dX9_in_1 : decode cX9_in 1 = .ok (.iload_n 1, 1) := by decide +kernel
theorem dX9_in_2 : decode cX9_in 2 = .ok (.if_icmp .lt 12, 3) := by decide +kernel
theorem dX9_in_5 : decode cX9_in 5 = .ok (.iload_n 0, 1) := by decide +kernel
theorem dX9_in_6 : decode cX9_in 6 = .ok (.iload_n 2, 1) := by decide +kernel
theorem dX9_in_7 : decode cX9_in 7 = .ok (.if_icmp .gt 7, 3) := by decide +kernel
theorem dX9_in_10 : decode cX9_in 10 = .ok (.iconst 1, 1) := by decide +kernel
theorem dX9_in_11 : decode cX9_in 11 = .ok (.goto 4, 3) := by decide +kernel
theorem dX9_in_14 : decode cX9_in 14 = .ok (.iconst 0, 1) := by decide +kernel
theorem dX9_in_15 : decode cX9_in 15 = .ok (.ireturn, 1) := by decide +kernel
theorem dX9_holds_0 : decode cX9_holds 0 = .ok (.iload_n 0, 1) := by decide +kernel
theorem dX9_holds_1 : decode cX9_holds 1 = .ok (.iload_n 1, 1) := by decide +kernel
theorem dX9_holds_2 : decode cX9_holds 2 = .ok (.ishr, 1) := by decide +kernel
theorem dX9_holds_3 : decode cX9_holds 3 = .ok (.iconst 1, 1) := by decide +kernel
theorem dX9_holds_4 : decode cX9_holds 4 = .ok (.iand, 1) := by decide +kernel
theorem dX9_holds_5 : decode cX9_holds 5 = .ok (.iconst 1, 1) := by decide +kernel
theorem dX9_holds_6 : decode cX9_holds 6 = .ok (.if_icmp .ne 7, 3) := by decide +kernel
theorem dX9_holds_9 : decode cX9_holds 9 = .ok (.iconst 1, 1) := by decide +kernel
theorem dX9_holds_10 : decode cX9_holds 10 = .ok (.goto 4, 3) := by decide +kernel
theorem dX9_holds_13 : decode cX9_holds 13 = .ok (.iconst 0, 1) := by decide +kernel
theorem dX9_holds_14 : decode cX9_holds 14 = .ok (.ireturn, 1) := by decide +kernel
theorem dX9_bits_0 : decode cX9_bits 0 = .ok (.iconst 0, 1) := by decide +kernel
theorem dX9_bits_1 : decode cX9_bits 1 = .ok (.istore_n 1, 1) := by decide +kernel
theorem dX9_bits_2 : decode cX9_bits 2 = .ok (.iconst 0, 1) := by decide +kernel
theorem dX9_bits_3 : decode cX9_bits 3 = .ok (.istore_n 2, 1) := by decide +kernel
theorem dX9_bits_4 : decode cX9_bits 4 = .ok (.iload_n 2, 1) := by decide +kernel
theorem dX9_bits_5 : decode cX9_bits 5 = .ok (.bipush 12, 2) := by decide +kernel
theorem dX9_bits_7 : decode cX9_bits 7 = .ok (.if_icmp .ge 17, 3) := by decide +kernel
theorem dX9_bits_10 : decode cX9_bits 10 = .ok (.iload_n 1, 1) := by decide +kernel
theorem dX9_bits_11 : decode cX9_bits 11 = .ok (.iload_n 0, 1) := by decide +kernel
theorem dX9_bits_12 : decode cX9_bits 12 = .ok (.iload_n 2, 1) := by decide +kernel
theorem dX9_bits_13 : decode cX9_bits 13 = .ok (.ishr, 1) := by decide +kernel
theorem dX9_bits_14 : decode cX9_bits 14 = .ok (.iconst 1, 1) := by decide +kernel
theorem dX9_bits_15 : decode cX9_bits 15 = .ok (.iand, 1) := by decide +kernel
theorem dX9_bits_16 : decode cX9_bits 16 = .ok (.iadd, 1) := by decide +kernel
theorem dX9_bits_17 : decode cX9_bits 17 = .ok (.istore_n 1, 1) := by decide +kernel
theorem dX9_bits_18 : decode cX9_bits 18 = .ok (.iinc 2 1, 3) := by decide +kernel
theorem dX9_bits_21 : decode cX9_bits 21 = .ok (.goto (-17), 3) := by decide +kernel
theorem dX9_bits_24 : decode cX9_bits 24 = .ok (.iload_n 1, 1) := by decide +kernel
theorem dX9_bits_25 : decode cX9_bits 25 = .ok (.ireturn, 1) := by decide +kernel
theorem dX9_isFamily_0 : decode cX9_isFamily 0 = .ok (.iload_n 1, 1) := by decide +kernel
theorem dX9_isFamily_1 : decode cX9_isFamily 1 = .ok (.iconst 0, 1) := by decide +kernel
theorem dX9_isFamily_2 : decode cX9_isFamily 2 = .ok (.aload_n 0, 1) := by decide +kernel
theorem dX9_isFamily_3 : decode cX9_isFamily 3 = .ok (.getfield 87, 3) := by decide +kernel
theorem dX9_isFamily_6 : decode cX9_isFamily 6 = .ok (.iconst 1, 1) := by decide +kernel
theorem dX9_isFamily_7 : decode cX9_isFamily 7 = .ok (.isub, 1) := by decide +kernel
theorem dX9_isFamily_8 : decode cX9_isFamily 8 = .ok (.invokestatic 91, 3) := by decide +kernel
theorem dX9_isFamily_11 : decode cX9_isFamily 11 = .ok (.ireturn, 1) := by decide +kernel
theorem dX9_isWay_0 : decode cX9_isWay 0 = .ok (.aload_n 0, 1) := by decide +kernel
theorem dX9_isWay_1 : decode cX9_isWay 1 = .ok (.getfield 26, 3) := by decide +kernel
theorem dX9_isWay_4 : decode cX9_isWay 4 = .ok (.sipush 4096, 3) := by decide +kernel
theorem dX9_isWay_7 : decode cX9_isWay 7 = .ok (.iload_n 1, 1) := by decide +kernel
theorem dX9_isWay_8 : decode cX9_isWay 8 = .ok (.imul, 1) := by decide +kernel
theorem dX9_isWay_9 : decode cX9_isWay 9 = .ok (.iload_n 2, 1) := by decide +kernel
theorem dX9_isWay_10 : decode cX9_isWay 10 = .ok (.iadd, 1) := by decide +kernel
theorem dX9_isWay_11 : decode cX9_isWay 11 = .ok (.baload, 1) := by decide +kernel
theorem dX9_isWay_12 : decode cX9_isWay 12 = .ok (.ireturn, 1) := by decide +kernel
theorem dX9_post_0 : decode cX9_post 0 = .ok (.iload_n 1, 1) := by decide +kernel
theorem dX9_post_1 : decode cX9_post 1 = .ok (.iconst 0, 1) := by decide +kernel
theorem dX9_post_2 : decode cX9_post 2 = .ok (.bipush 99, 2) := by decide +kernel
theorem dX9_post_4 : decode cX9_post 4 = .ok (.invokestatic 91, 3) := by decide +kernel
theorem dX9_post_7 : decode cX9_post 7 = .ok (.ifCond .ne 6, 3) := by decide +kernel
theorem dX9_post_10 : decode cX9_post 10 = .ok (.bipush (-2), 2) := by decide +kernel
theorem dX9_post_12 : decode cX9_post 12 = .ok (.ireturn, 1) := by decide +kernel
theorem dX9_post_13 : decode cX9_post 13 = .ok (.aload_n 0, 1) := by decide +kernel
theorem dX9_post_14 : decode cX9_post 14 = .ok (.getfield 95, 3) := by decide +kernel
theorem dX9_post_17 : decode cX9_post 17 = .ok (.bipush 8, 2) := by decide +kernel
theorem dX9_post_19 : decode cX9_post 19 = .ok (.if_icmp .ne 6, 3) := by decide +kernel
theorem dX9_post_22 : decode cX9_post 22 = .ok (.bipush (-4), 2) := by decide +kernel
theorem dX9_post_24 : decode cX9_post 24 = .ok (.ireturn, 1) := by decide +kernel
theorem dX9_post_25 : decode cX9_post 25 = .ok (.aload_n 0, 1) := by decide +kernel
theorem dX9_post_26 : decode cX9_post 26 = .ok (.getfield 7, 3) := by decide +kernel
theorem dX9_post_29 : decode cX9_post 29 = .ok (.aload_n 0, 1) := by decide +kernel
theorem dX9_post_30 : decode cX9_post 30 = .ok (.getfield 95, 3) := by decide +kernel
theorem dX9_post_33 : decode cX9_post 33 = .ok (.iload_n 1, 1) := by decide +kernel
theorem dX9_post_34 : decode cX9_post 34 = .ok (.iastore, 1) := by decide +kernel
theorem dX9_post_35 : decode cX9_post 35 = .ok (.aload_n 0, 1) := by decide +kernel
theorem dX9_post_36 : decode cX9_post 36 = .ok (.dup, 1) := by decide +kernel
theorem dX9_post_37 : decode cX9_post 37 = .ok (.getfield 95, 3) := by decide +kernel
theorem dX9_post_40 : decode cX9_post 40 = .ok (.iconst 1, 1) := by decide +kernel
theorem dX9_post_41 : decode cX9_post 41 = .ok (.iadd, 1) := by decide +kernel
theorem dX9_post_42 : decode cX9_post 42 = .ok (.putfield 95, 3) := by decide +kernel
theorem dX9_post_45 : decode cX9_post 45 = .ok (.aload_n 0, 1) := by decide +kernel
theorem dX9_post_46 : decode cX9_post 46 = .ok (.getfield 95, 3) := by decide +kernel
theorem dX9_post_49 : decode cX9_post 49 = .ok (.iconst 1, 1) := by decide +kernel
theorem dX9_post_50 : decode cX9_post 50 = .ok (.isub, 1) := by decide +kernel
theorem dX9_post_51 : decode cX9_post 51 = .ok (.ireturn, 1) := by decide +kernel
theorem dX9_road_0 : decode cX9_road 0 = .ok (.iload_n 1, 1) := by decide +kernel
theorem dX9_road_1 : decode cX9_road 1 = .ok (.iconst 0, 1) := by decide +kernel
theorem dX9_road_2 : decode cX9_road 2 = .ok (.aload_n 0, 1) := by decide +kernel
theorem dX9_road_3 : decode cX9_road 3 = .ok (.getfield 95, 3) := by decide +kernel
theorem dX9_road_6 : decode cX9_road 6 = .ok (.iconst 1, 1) := by decide +kernel
theorem dX9_road_7 : decode cX9_road 7 = .ok (.isub, 1) := by decide +kernel
theorem dX9_road_8 : decode cX9_road 8 = .ok (.invokestatic 91, 3) := by decide +kernel
theorem dX9_road_11 : decode cX9_road 11 = .ok (.ifCond .eq 33, 3) := by decide +kernel
theorem dX9_road_14 : decode cX9_road 14 = .ok (.iload_n 2, 1) := by decide +kernel
theorem dX9_road_15 : decode cX9_road 15 = .ok (.iconst 0, 1) := by decide +kernel
theorem dX9_road_16 : decode cX9_road 16 = .ok (.aload_n 0, 1) := by decide +kernel
theorem dX9_road_17 : decode cX9_road 17 = .ok (.getfield 95, 3) := by decide +kernel
theorem dX9_road_20 : decode cX9_road 20 = .ok (.iconst 1, 1) := by decide +kernel
theorem dX9_road_21 : decode cX9_road 21 = .ok (.isub, 1) := by decide +kernel
theorem dX9_road_22 : decode cX9_road 22 = .ok (.invokestatic 91, 3) := by decide +kernel
theorem dX9_road_25 : decode cX9_road 25 = .ok (.ifCond .eq 19, 3) := by decide +kernel
theorem dX9_road_28 : decode cX9_road 28 = .ok (.iload_n 1, 1) := by decide +kernel
theorem dX9_road_29 : decode cX9_road 29 = .ok (.iload_n 2, 1) := by decide +kernel
theorem dX9_road_30 : decode cX9_road 30 = .ok (.if_icmp .eq 14, 3) := by decide +kernel
theorem dX9_road_33 : decode cX9_road 33 = .ok (.iload_n 3, 1) := by decide +kernel
theorem dX9_road_34 : decode cX9_road 34 = .ok (.bipush (-50), 2) := by decide +kernel
theorem dX9_road_36 : decode cX9_road 36 = .ok (.bipush 50, 2) := by decide +kernel
theorem dX9_road_38 : decode cX9_road 38 = .ok (.invokestatic 91, 3) := by decide +kernel
theorem dX9_road_41 : decode cX9_road 41 = .ok (.ifCond .ne 6, 3) := by decide +kernel
theorem dX9_road_44 : decode cX9_road 44 = .ok (.bipush (-2), 2) := by decide +kernel
theorem dX9_road_46 : decode cX9_road 46 = .ok (.ireturn, 1) := by decide +kernel
theorem dX9_road_47 : decode cX9_road 47 = .ok (.iload_n 1, 1) := by decide +kernel
theorem dX9_road_48 : decode cX9_road 48 = .ok (.iload_n 2, 1) := by decide +kernel
theorem dX9_road_49 : decode cX9_road 49 = .ok (.if_icmp .ge 7, 3) := by decide +kernel
theorem dX9_road_52 : decode cX9_road 52 = .ok (.iload_n 1, 1) := by decide +kernel
theorem dX9_road_53 : decode cX9_road 53 = .ok (.goto 4, 3) := by decide +kernel
theorem dX9_road_56 : decode cX9_road 56 = .ok (.iload_n 2, 1) := by decide +kernel
theorem dX9_road_57 : decode cX9_road 57 = .ok (.istore 4, 2) := by decide +kernel
theorem dX9_road_59 : decode cX9_road 59 = .ok (.iload_n 1, 1) := by decide +kernel
theorem dX9_road_60 : decode cX9_road 60 = .ok (.iload_n 2, 1) := by decide +kernel
theorem dX9_road_61 : decode cX9_road 61 = .ok (.if_icmp .ge 7, 3) := by decide +kernel
theorem dX9_road_64 : decode cX9_road 64 = .ok (.iload_n 2, 1) := by decide +kernel
theorem dX9_road_65 : decode cX9_road 65 = .ok (.goto 4, 3) := by decide +kernel
theorem dX9_road_68 : decode cX9_road 68 = .ok (.iload_n 1, 1) := by decide +kernel
theorem dX9_road_69 : decode cX9_road 69 = .ok (.istore 5, 2) := by decide +kernel
theorem dX9_road_71 : decode cX9_road 71 = .ok (.iconst 0, 1) := by decide +kernel
theorem dX9_road_72 : decode cX9_road 72 = .ok (.istore 6, 2) := by decide +kernel
theorem dX9_road_74 : decode cX9_road 74 = .ok (.iload 6, 2) := by decide +kernel
theorem dX9_road_76 : decode cX9_road 76 = .ok (.aload_n 0, 1) := by decide +kernel
theorem dX9_road_77 : decode cX9_road 77 = .ok (.getfield 98, 3) := by decide +kernel
theorem dX9_road_80 : decode cX9_road 80 = .ok (.if_icmp .ge 42, 3) := by decide +kernel
theorem dX9_road_83 : decode cX9_road 83 = .ok (.aload_n 0, 1) := by decide +kernel
theorem dX9_road_84 : decode cX9_road 84 = .ok (.getfield 13, 3) := by decide +kernel
theorem dX9_road_87 : decode cX9_road 87 = .ok (.iconst 2, 1) := by decide +kernel
theorem dX9_road_88 : decode cX9_road 88 = .ok (.iload 6, 2) := by decide +kernel
theorem dX9_road_90 : decode cX9_road 90 = .ok (.imul, 1) := by decide +kernel
theorem dX9_road_91 : decode cX9_road 91 = .ok (.iaload, 1) := by decide +kernel
theorem dX9_road_92 : decode cX9_road 92 = .ok (.iload 4, 2) := by decide +kernel
theorem dX9_road_94 : decode cX9_road 94 = .ok (.if_icmp .ne 22, 3) := by decide +kernel
theorem dX9_road_97 : decode cX9_road 97 = .ok (.aload_n 0, 1) := by decide +kernel
theorem dX9_road_98 : decode cX9_road 98 = .ok (.getfield 13, 3) := by decide +kernel
theorem dX9_road_101 : decode cX9_road 101 = .ok (.iconst 2, 1) := by decide +kernel
theorem dX9_road_102 : decode cX9_road 102 = .ok (.iload 6, 2) := by decide +kernel
theorem dX9_road_104 : decode cX9_road 104 = .ok (.imul, 1) := by decide +kernel
theorem dX9_road_105 : decode cX9_road 105 = .ok (.iconst 1, 1) := by decide +kernel
theorem dX9_road_106 : decode cX9_road 106 = .ok (.iadd, 1) := by decide +kernel
theorem dX9_road_107 : decode cX9_road 107 = .ok (.iaload, 1) := by decide +kernel
theorem dX9_road_108 : decode cX9_road 108 = .ok (.iload 5, 2) := by decide +kernel
theorem dX9_road_110 : decode cX9_road 110 = .ok (.if_icmp .ne 6, 3) := by decide +kernel
theorem dX9_road_113 : decode cX9_road 113 = .ok (.bipush (-3), 2) := by decide +kernel
theorem dX9_road_115 : decode cX9_road 115 = .ok (.ireturn, 1) := by decide +kernel
theorem dX9_road_116 : decode cX9_road 116 = .ok (.iinc 6 1, 3) := by decide +kernel
theorem dX9_road_119 : decode cX9_road 119 = .ok (.goto (-45), 3) := by decide +kernel
theorem dX9_road_122 : decode cX9_road 122 = .ok (.aload_n 0, 1) := by decide +kernel
theorem dX9_road_123 : decode cX9_road 123 = .ok (.getfield 98, 3) := by decide +kernel
theorem dX9_road_126 : decode cX9_road 126 = .ok (.bipush 12, 2) := by decide +kernel
theorem dX9_road_128 : decode cX9_road 128 = .ok (.if_icmp .ne 6, 3) := by decide +kernel
theorem dX9_road_131 : decode cX9_road 131 = .ok (.bipush (-4), 2) := by decide +kernel
theorem dX9_road_133 : decode cX9_road 133 = .ok (.ireturn, 1) := by decide +kernel
theorem dX9_road_134 : decode cX9_road 134 = .ok (.aload_n 0, 1) := by decide +kernel
theorem dX9_road_135 : decode cX9_road 135 = .ok (.getfield 13, 3) := by decide +kernel
theorem dX9_road_138 : decode cX9_road 138 = .ok (.iconst 2, 1) := by decide +kernel
theorem dX9_road_139 : decode cX9_road 139 = .ok (.aload_n 0, 1) := by decide +kernel
theorem dX9_road_140 : decode cX9_road 140 = .ok (.getfield 98, 3) := by decide +kernel
theorem dX9_road_143 : decode cX9_road 143 = .ok (.imul, 1) := by decide +kernel
theorem dX9_road_144 : decode cX9_road 144 = .ok (.iload 4, 2) := by decide +kernel
theorem dX9_road_146 : decode cX9_road 146 = .ok (.iastore, 1) := by decide +kernel
theorem dX9_road_147 : decode cX9_road 147 = .ok (.aload_n 0, 1) := by decide +kernel
theorem dX9_road_148 : decode cX9_road 148 = .ok (.getfield 13, 3) := by decide +kernel
theorem dX9_road_151 : decode cX9_road 151 = .ok (.iconst 2, 1) := by decide +kernel
theorem dX9_road_152 : decode cX9_road 152 = .ok (.aload_n 0, 1) := by decide +kernel
theorem dX9_road_153 : decode cX9_road 153 = .ok (.getfield 98, 3) := by decide +kernel
theorem dX9_road_156 : decode cX9_road 156 = .ok (.imul, 1) := by decide +kernel
theorem dX9_road_157 : decode cX9_road 157 = .ok (.iconst 1, 1) := by decide +kernel
theorem dX9_road_158 : decode cX9_road 158 = .ok (.iadd, 1) := by decide +kernel
theorem dX9_road_159 : decode cX9_road 159 = .ok (.iload 5, 2) := by decide +kernel
theorem dX9_road_161 : decode cX9_road 161 = .ok (.iastore, 1) := by decide +kernel
theorem dX9_road_162 : decode cX9_road 162 = .ok (.aload_n 0, 1) := by decide +kernel
theorem dX9_road_163 : decode cX9_road 163 = .ok (.getfield 16, 3) := by decide +kernel
theorem dX9_road_166 : decode cX9_road 166 = .ok (.aload_n 0, 1) := by decide +kernel
theorem dX9_road_167 : decode cX9_road 167 = .ok (.getfield 98, 3) := by decide +kernel
theorem dX9_road_170 : decode cX9_road 170 = .ok (.iload_n 3, 1) := by decide +kernel
theorem dX9_road_171 : decode cX9_road 171 = .ok (.iastore, 1) := by decide +kernel
theorem dX9_road_172 : decode cX9_road 172 = .ok (.aload_n 0, 1) := by decide +kernel
theorem dX9_road_173 : decode cX9_road 173 = .ok (.getfield 19, 3) := by decide +kernel
theorem dX9_road_176 : decode cX9_road 176 = .ok (.aload_n 0, 1) := by decide +kernel
theorem dX9_road_177 : decode cX9_road 177 = .ok (.getfield 98, 3) := by decide +kernel
theorem dX9_road_180 : decode cX9_road 180 = .ok (.iconst 4, 1) := by decide +kernel
theorem dX9_road_181 : decode cX9_road 181 = .ok (.iastore, 1) := by decide +kernel
theorem dX9_road_182 : decode cX9_road 182 = .ok (.aload_n 0, 1) := by decide +kernel
theorem dX9_road_183 : decode cX9_road 183 = .ok (.dup, 1) := by decide +kernel
theorem dX9_road_184 : decode cX9_road 184 = .ok (.getfield 98, 3) := by decide +kernel
theorem dX9_road_187 : decode cX9_road 187 = .ok (.iconst 1, 1) := by decide +kernel
theorem dX9_road_188 : decode cX9_road 188 = .ok (.iadd, 1) := by decide +kernel
theorem dX9_road_189 : decode cX9_road 189 = .ok (.putfield 98, 3) := by decide +kernel
theorem dX9_road_192 : decode cX9_road 192 = .ok (.aload_n 0, 1) := by decide +kernel
theorem dX9_road_193 : decode cX9_road 193 = .ok (.getfield 98, 3) := by decide +kernel
theorem dX9_road_196 : decode cX9_road 196 = .ok (.iconst 1, 1) := by decide +kernel
theorem dX9_road_197 : decode cX9_road 197 = .ok (.isub, 1) := by decide +kernel
theorem dX9_road_198 : decode cX9_road 198 = .ok (.ireturn, 1) := by decide +kernel
theorem dX9_odds_0 : decode cX9_odds 0 = .ok (.iload_n 1, 1) := by decide +kernel
theorem dX9_odds_1 : decode cX9_odds 1 = .ok (.iconst 0, 1) := by decide +kernel
theorem dX9_odds_2 : decode cX9_odds 2 = .ok (.aload_n 0, 1) := by decide +kernel
theorem dX9_odds_3 : decode cX9_odds 3 = .ok (.getfield 98, 3) := by decide +kernel
theorem dX9_odds_6 : decode cX9_odds 6 = .ok (.iconst 1, 1) := by decide +kernel
theorem dX9_odds_7 : decode cX9_odds 7 = .ok (.isub, 1) := by decide +kernel
theorem dX9_odds_8 : decode cX9_odds 8 = .ok (.invokestatic 91, 3) := by decide +kernel
theorem dX9_odds_11 : decode cX9_odds 11 = .ok (.ifCond .eq 13, 3) := by decide +kernel
theorem dX9_odds_14 : decode cX9_odds 14 = .ok (.iload_n 2, 1) := by decide +kernel
theorem dX9_odds_15 : decode cX9_odds 15 = .ok (.iconst 0, 1) := by decide +kernel
theorem dX9_odds_16 : decode cX9_odds 16 = .ok (.bipush 8, 2) := by decide +kernel
theorem dX9_odds_18 : decode cX9_odds 18 = .ok (.invokestatic 91, 3) := by decide +kernel
theorem dX9_odds_21 : decode cX9_odds 21 = .ok (.ifCond .ne 6, 3) := by decide +kernel
theorem dX9_odds_24 : decode cX9_odds 24 = .ok (.bipush (-2), 2) := by decide +kernel
theorem dX9_odds_26 : decode cX9_odds 26 = .ok (.ireturn, 1) := by decide +kernel
theorem dX9_odds_27 : decode cX9_odds 27 = .ok (.aload_n 0, 1) := by decide +kernel
theorem dX9_odds_28 : decode cX9_odds 28 = .ok (.getfield 19, 3) := by decide +kernel
theorem dX9_odds_31 : decode cX9_odds 31 = .ok (.iload_n 1, 1) := by decide +kernel
theorem dX9_odds_32 : decode cX9_odds 32 = .ok (.iaload, 1) := by decide +kernel
theorem dX9_odds_33 : decode cX9_odds 33 = .ok (.istore_n 3, 1) := by decide +kernel
theorem dX9_odds_34 : decode cX9_odds 34 = .ok (.aload_n 0, 1) := by decide +kernel
theorem dX9_odds_35 : decode cX9_odds 35 = .ok (.getfield 19, 3) := by decide +kernel
theorem dX9_odds_38 : decode cX9_odds 38 = .ok (.iload_n 1, 1) := by decide +kernel
theorem dX9_odds_39 : decode cX9_odds 39 = .ok (.iload_n 2, 1) := by decide +kernel
theorem dX9_odds_40 : decode cX9_odds 40 = .ok (.iastore, 1) := by decide +kernel
theorem dX9_odds_41 : decode cX9_odds 41 = .ok (.iload_n 3, 1) := by decide +kernel
theorem dX9_odds_42 : decode cX9_odds 42 = .ok (.ireturn, 1) := by decide +kernel
theorem dX9_roadOf_0 : decode cX9_roadOf 0 = .ok (.iload_n 1, 1) := by decide +kernel
theorem dX9_roadOf_1 : decode cX9_roadOf 1 = .ok (.iconst 0, 1) := by decide +kernel
theorem dX9_roadOf_2 : decode cX9_roadOf 2 = .ok (.aload_n 0, 1) := by decide +kernel
theorem dX9_roadOf_3 : decode cX9_roadOf 3 = .ok (.getfield 98, 3) := by decide +kernel
theorem dX9_roadOf_6 : decode cX9_roadOf 6 = .ok (.iconst 1, 1) := by decide +kernel
theorem dX9_roadOf_7 : decode cX9_roadOf 7 = .ok (.isub, 1) := by decide +kernel
theorem dX9_roadOf_8 : decode cX9_roadOf 8 = .ok (.invokestatic 91, 3) := by decide +kernel
theorem dX9_roadOf_11 : decode cX9_roadOf 11 = .ok (.ifCond .eq 12, 3) := by decide +kernel
theorem dX9_roadOf_14 : decode cX9_roadOf 14 = .ok (.iload_n 2, 1) := by decide +kernel
theorem dX9_roadOf_15 : decode cX9_roadOf 15 = .ok (.iconst 0, 1) := by decide +kernel
theorem dX9_roadOf_16 : decode cX9_roadOf 16 = .ok (.iconst 3, 1) := by decide +kernel
theorem dX9_roadOf_17 : decode cX9_roadOf 17 = .ok (.invokestatic 91, 3) := by decide +kernel
theorem dX9_roadOf_20 : decode cX9_roadOf 20 = .ok (.ifCond .ne 6, 3) := by decide +kernel
theorem dX9_roadOf_23 : decode cX9_roadOf 23 = .ok (.bipush (-2), 2) := by decide +kernel
theorem dX9_roadOf_25 : decode cX9_roadOf 25 = .ok (.ireturn, 1) := by decide +kernel
theorem dX9_roadOf_26 : decode cX9_roadOf 26 = .ok (.iload_n 2, 1) := by decide +kernel
theorem dX9_roadOf_27 : decode cX9_roadOf 27 = .ok (.iconst 2, 1) := by decide +kernel
theorem dX9_roadOf_28 : decode cX9_roadOf 28 = .ok (.if_icmp .ge 16, 3) := by decide +kernel
theorem dX9_roadOf_31 : decode cX9_roadOf 31 = .ok (.aload_n 0, 1) := by decide +kernel
theorem dX9_roadOf_32 : decode cX9_roadOf 32 = .ok (.getfield 13, 3) := by decide +kernel
theorem dX9_roadOf_35 : decode cX9_roadOf 35 = .ok (.iconst 2, 1) := by decide +kernel
theorem dX9_roadOf_36 : decode cX9_roadOf 36 = .ok (.iload_n 1, 1) := by decide +kernel
theorem dX9_roadOf_37 : decode cX9_roadOf 37 = .ok (.imul, 1) := by decide +kernel
theorem dX9_roadOf_38 : decode cX9_roadOf 38 = .ok (.iload_n 2, 1) := by decide +kernel
theorem dX9_roadOf_39 : decode cX9_roadOf 39 = .ok (.iadd, 1) := by decide +kernel
theorem dX9_roadOf_40 : decode cX9_roadOf 40 = .ok (.iaload, 1) := by decide +kernel
theorem dX9_roadOf_41 : decode cX9_roadOf 41 = .ok (.goto 23, 3) := by decide +kernel
theorem dX9_roadOf_44 : decode cX9_roadOf 44 = .ok (.iload_n 2, 1) := by decide +kernel
theorem dX9_roadOf_45 : decode cX9_roadOf 45 = .ok (.iconst 2, 1) := by decide +kernel
theorem dX9_roadOf_46 : decode cX9_roadOf 46 = .ok (.if_icmp .ne 12, 3) := by decide +kernel
theorem dX9_roadOf_49 : decode cX9_roadOf 49 = .ok (.aload_n 0, 1) := by decide +kernel
theorem dX9_roadOf_50 : decode cX9_roadOf 50 = .ok (.getfield 16, 3) := by decide +kernel
theorem dX9_roadOf_53 : decode cX9_roadOf 53 = .ok (.iload_n 1, 1) := by decide +kernel
theorem dX9_roadOf_54 : decode cX9_roadOf 54 = .ok (.iaload, 1) := by decide +kernel
theorem dX9_roadOf_55 : decode cX9_roadOf 55 = .ok (.goto 9, 3) := by decide +kernel
theorem dX9_roadOf_58 : decode cX9_roadOf 58 = .ok (.aload_n 0, 1) := by decide +kernel
theorem dX9_roadOf_59 : decode cX9_roadOf 59 = .ok (.getfield 19, 3) := by decide +kernel
theorem dX9_roadOf_62 : decode cX9_roadOf 62 = .ok (.iload_n 1, 1) := by decide +kernel
theorem dX9_roadOf_63 : decode cX9_roadOf 63 = .ok (.iaload, 1) := by decide +kernel
theorem dX9_roadOf_64 : decode cX9_roadOf 64 = .ok (.ireturn, 1) := by decide +kernel
theorem dX9_at_0 : decode cX9_at 0 = .ok (.iconst 0, 1) := by decide +kernel
theorem dX9_at_1 : decode cX9_at 1 = .ok (.istore_n 3, 1) := by decide +kernel
theorem dX9_at_2 : decode cX9_at 2 = .ok (.iconst 0, 1) := by decide +kernel
theorem dX9_at_3 : decode cX9_at 3 = .ok (.istore 4, 2) := by decide +kernel
theorem dX9_at_5 : decode cX9_at 5 = .ok (.iload 4, 2) := by decide +kernel
theorem dX9_at_7 : decode cX9_at 7 = .ok (.aload_n 0, 1) := by decide +kernel
theorem dX9_at_8 : decode cX9_at 8 = .ok (.getfield 98, 3) := by decide +kernel
theorem dX9_at_11 : decode cX9_at 11 = .ok (.if_icmp .ge 54, 3) := by decide +kernel
theorem dX9_at_14 : decode cX9_at 14 = .ok (.iload_n 3, 1) := by decide +kernel
theorem dX9_at_15 : decode cX9_at 15 = .ok (.iload_n 1, 1) := by decide +kernel
theorem dX9_at_16 : decode cX9_at 16 = .ok (.iload 4, 2) := by decide +kernel
theorem dX9_at_18 : decode cX9_at 18 = .ok (.invokestatic 101, 3) := by decide +kernel
theorem dX9_at_21 : decode cX9_at 21 = .ok (.ifCond .eq 35, 3) := by decide +kernel
theorem dX9_at_24 : decode cX9_at 24 = .ok (.aload_n 0, 1) := by decide +kernel
theorem dX9_at_25 : decode cX9_at 25 = .ok (.getfield 13, 3) := by decide +kernel
theorem dX9_at_28 : decode cX9_at 28 = .ok (.iconst 2, 1) := by decide +kernel
theorem dX9_at_29 : decode cX9_at 29 = .ok (.iload 4, 2) := by decide +kernel
theorem dX9_at_31 : decode cX9_at 31 = .ok (.imul, 1) := by decide +kernel
theorem dX9_at_32 : decode cX9_at 32 = .ok (.iaload, 1) := by decide +kernel
theorem dX9_at_33 : decode cX9_at 33 = .ok (.iload_n 2, 1) := by decide +kernel
theorem dX9_at_34 : decode cX9_at 34 = .ok (.if_icmp .eq 18, 3) := by decide +kernel
theorem dX9_at_37 : decode cX9_at 37 = .ok (.aload_n 0, 1) := by decide +kernel
theorem dX9_at_38 : decode cX9_at 38 = .ok (.getfield 13, 3) := by decide +kernel
theorem dX9_at_41 : decode cX9_at 41 = .ok (.iconst 2, 1) := by decide +kernel
theorem dX9_at_42 : decode cX9_at 42 = .ok (.iload 4, 2) := by decide +kernel
theorem dX9_at_44 : decode cX9_at 44 = .ok (.imul, 1) := by decide +kernel
theorem dX9_at_45 : decode cX9_at 45 = .ok (.iconst 1, 1) := by decide +kernel
theorem dX9_at_46 : decode cX9_at 46 = .ok (.iadd, 1) := by decide +kernel
theorem dX9_at_47 : decode cX9_at 47 = .ok (.iaload, 1) := by decide +kernel
theorem dX9_at_48 : decode cX9_at 48 = .ok (.iload_n 2, 1) := by decide +kernel
theorem dX9_at_49 : decode cX9_at 49 = .ok (.if_icmp .ne 7, 3) := by decide +kernel
theorem dX9_at_52 : decode cX9_at 52 = .ok (.iconst 1, 1) := by decide +kernel
theorem dX9_at_53 : decode cX9_at 53 = .ok (.goto 4, 3) := by decide +kernel
theorem dX9_at_56 : decode cX9_at 56 = .ok (.iconst 0, 1) := by decide +kernel
theorem dX9_at_57 : decode cX9_at 57 = .ok (.iadd, 1) := by decide +kernel
theorem dX9_at_58 : decode cX9_at 58 = .ok (.istore_n 3, 1) := by decide +kernel
theorem dX9_at_59 : decode cX9_at 59 = .ok (.iinc 4 1, 3) := by decide +kernel
theorem dX9_at_62 : decode cX9_at 62 = .ok (.goto (-57), 3) := by decide +kernel
theorem dX9_at_65 : decode cX9_at 65 = .ok (.iload_n 3, 1) := by decide +kernel
theorem dX9_at_66 : decode cX9_at 66 = .ok (.ireturn, 1) := by decide +kernel
theorem dX9_heaps_0 : decode cX9_heaps 0 = .ok (.iconst 0, 1) := by decide +kernel
theorem dX9_heaps_1 : decode cX9_heaps 1 = .ok (.istore_n 2, 1) := by decide +kernel
theorem dX9_heaps_2 : decode cX9_heaps 2 = .ok (.iload_n 2, 1) := by decide +kernel
theorem dX9_heaps_3 : decode cX9_heaps 3 = .ok (.aload_n 0, 1) := by decide +kernel
theorem dX9_heaps_4 : decode cX9_heaps 4 = .ok (.getfield 95, 3) := by decide +kernel
theorem dX9_heaps_7 : decode cX9_heaps 7 = .ok (.if_icmp .ge 16, 3) := by decide +kernel
theorem dX9_heaps_10 : decode cX9_heaps 10 = .ok (.aload_n 0, 1) := by decide +kernel
theorem dX9_heaps_11 : decode cX9_heaps 11 = .ok (.getfield 54, 3) := by decide +kernel
theorem dX9_heaps_14 : decode cX9_heaps 14 = .ok (.iload_n 2, 1) := by decide +kernel
theorem dX9_heaps_15 : decode cX9_heaps 15 = .ok (.iload_n 2, 1) := by decide +kernel
theorem dX9_heaps_16 : decode cX9_heaps 16 = .ok (.iastore, 1) := by decide +kernel
theorem dX9_heaps_17 : decode cX9_heaps 17 = .ok (.iinc 2 1, 3) := by decide +kernel
theorem dX9_heaps_20 : decode cX9_heaps 20 = .ok (.goto (-18), 3) := by decide +kernel
theorem dX9_heaps_23 : decode cX9_heaps 23 = .ok (.aload_n 0, 1) := by decide +kernel
theorem dX9_heaps_24 : decode cX9_heaps 24 = .ok (.getfield 95, 3) := by decide +kernel
theorem dX9_heaps_27 : decode cX9_heaps 27 = .ok (.istore_n 2, 1) := by decide +kernel
theorem dX9_heaps_28 : decode cX9_heaps 28 = .ok (.iconst 0, 1) := by decide +kernel
theorem dX9_heaps_29 : decode cX9_heaps 29 = .ok (.istore_n 3, 1) := by decide +kernel
theorem dX9_heaps_30 : decode cX9_heaps 30 = .ok (.iload_n 3, 1) := by decide +kernel
theorem dX9_heaps_31 : decode cX9_heaps 31 = .ok (.aload_n 0, 1) := by decide +kernel
theorem dX9_heaps_32 : decode cX9_heaps 32 = .ok (.getfield 98, 3) := by decide +kernel
theorem dX9_heaps_35 : decode cX9_heaps 35 = .ok (.if_icmp .ge 132, 3) := by decide +kernel
theorem dX9_heaps_38 : decode cX9_heaps 38 = .ok (.aload_n 0, 1) := by decide +kernel
theorem dX9_heaps_39 : decode cX9_heaps 39 = .ok (.getfield 54, 3) := by decide +kernel
theorem dX9_heaps_42 : decode cX9_heaps 42 = .ok (.aload_n 0, 1) := by decide +kernel
theorem dX9_heaps_43 : decode cX9_heaps 43 = .ok (.getfield 13, 3) := by decide +kernel
theorem dX9_heaps_46 : decode cX9_heaps 46 = .ok (.iconst 2, 1) := by decide +kernel
theorem dX9_heaps_47 : decode cX9_heaps 47 = .ok (.iload_n 3, 1) := by decide +kernel
theorem dX9_heaps_48 : decode cX9_heaps 48 = .ok (.imul, 1) := by decide +kernel
theorem dX9_heaps_49 : decode cX9_heaps 49 = .ok (.iaload, 1) := by decide +kernel
theorem dX9_heaps_50 : decode cX9_heaps 50 = .ok (.iaload, 1) := by decide +kernel
theorem dX9_heaps_51 : decode cX9_heaps 51 = .ok (.istore 4, 2) := by decide +kernel
theorem dX9_heaps_53 : decode cX9_heaps 53 = .ok (.aload_n 0, 1) := by decide +kernel
theorem dX9_heaps_54 : decode cX9_heaps 54 = .ok (.getfield 54, 3) := by decide +kernel
theorem dX9_heaps_57 : decode cX9_heaps 57 = .ok (.aload_n 0, 1) := by decide +kernel
theorem dX9_heaps_58 : decode cX9_heaps 58 = .ok (.getfield 13, 3) := by decide +kernel
theorem dX9_heaps_61 : decode cX9_heaps 61 = .ok (.iconst 2, 1) := by decide +kernel
theorem dX9_heaps_62 : decode cX9_heaps 62 = .ok (.iload_n 3, 1) := by decide +kernel
theorem dX9_heaps_63 : decode cX9_heaps 63 = .ok (.imul, 1) := by decide +kernel
theorem dX9_heaps_64 : decode cX9_heaps 64 = .ok (.iconst 1, 1) := by decide +kernel
theorem dX9_heaps_65 : decode cX9_heaps 65 = .ok (.iadd, 1) := by decide +kernel
theorem dX9_heaps_66 : decode cX9_heaps 66 = .ok (.iaload, 1) := by decide +kernel
theorem dX9_heaps_67 : decode cX9_heaps 67 = .ok (.iaload, 1) := by decide +kernel
theorem dX9_heaps_68 : decode cX9_heaps 68 = .ok (.istore 5, 2) := by decide +kernel
theorem dX9_heaps_70 : decode cX9_heaps 70 = .ok (.iload_n 1, 1) := by decide +kernel
theorem dX9_heaps_71 : decode cX9_heaps 71 = .ok (.iload_n 3, 1) := by decide +kernel
theorem dX9_heaps_72 : decode cX9_heaps 72 = .ok (.invokestatic 101, 3) := by decide +kernel
theorem dX9_heaps_75 : decode cX9_heaps 75 = .ok (.ifCond .eq 86, 3) := by decide +kernel
theorem dX9_heaps_78 : decode cX9_heaps 78 = .ok (.iload 4, 2) := by decide +kernel
theorem dX9_heaps_80 : decode cX9_heaps 80 = .ok (.iload 5, 2) := by decide +kernel
theorem dX9_heaps_82 : decode cX9_heaps 82 = .ok (.if_icmp .eq 79, 3) := by decide +kernel
theorem dX9_heaps_85 : decode cX9_heaps 85 = .ok (.iconst 0, 1) := by decide +kernel
theorem dX9_heaps_86 : decode cX9_heaps 86 = .ok (.istore 6, 2) := by decide +kernel
theorem dX9_heaps_88 : decode cX9_heaps 88 = .ok (.iload 6, 2) := by decide +kernel
theorem dX9_heaps_90 : decode cX9_heaps 90 = .ok (.aload_n 0, 1) := by decide +kernel
theorem dX9_heaps_91 : decode cX9_heaps 91 = .ok (.getfield 95, 3) := by decide +kernel
theorem dX9_heaps_94 : decode cX9_heaps 94 = .ok (.if_icmp .ge 64, 3) := by decide +kernel
theorem dX9_heaps_97 : decode cX9_heaps 97 = .ok (.aload_n 0, 1) := by decide +kernel
theorem dX9_heaps_98 : decode cX9_heaps 98 = .ok (.getfield 54, 3) := by decide +kernel
theorem dX9_heaps_101 : decode cX9_heaps 101 = .ok (.iload 6, 2) := by decide +kernel
theorem dX9_heaps_103 : decode cX9_heaps 103 = .ok (.aload_n 0, 1) := by decide +kernel
theorem dX9_heaps_104 : decode cX9_heaps 104 = .ok (.getfield 54, 3) := by decide +kernel
theorem dX9_heaps_107 : decode cX9_heaps 107 = .ok (.iload 6, 2) := by decide +kernel
theorem dX9_heaps_109 : decode cX9_heaps 109 = .ok (.iaload, 1) := by decide +kernel
theorem dX9_heaps_110 : decode cX9_heaps 110 = .ok (.iload 4, 2) := by decide +kernel
theorem dX9_heaps_112 : decode cX9_heaps 112 = .ok (.if_icmp .eq 15, 3) := by decide +kernel
theorem dX9_heaps_115 : decode cX9_heaps 115 = .ok (.aload_n 0, 1) := by decide +kernel
theorem dX9_heaps_116 : decode cX9_heaps 116 = .ok (.getfield 54, 3) := by decide +kernel
theorem dX9_heaps_119 : decode cX9_heaps 119 = .ok (.iload 6, 2) := by decide +kernel
theorem dX9_heaps_121 : decode cX9_heaps 121 = .ok (.iaload, 1) := by decide +kernel
theorem dX9_heaps_122 : decode cX9_heaps 122 = .ok (.iload 5, 2) := by decide +kernel
theorem dX9_heaps_124 : decode cX9_heaps 124 = .ok (.if_icmp .ne 20, 3) := by decide +kernel
theorem dX9_heaps_127 : decode cX9_heaps 127 = .ok (.iload 4, 2) := by decide +kernel
theorem dX9_heaps_129 : decode cX9_heaps 129 = .ok (.iload 5, 2) := by decide +kernel
theorem dX9_heaps_131 : decode cX9_heaps 131 = .ok (.if_icmp .ge 8, 3) := by decide +kernel
theorem dX9_heaps_134 : decode cX9_heaps 134 = .ok (.iload 4, 2) := by decide +kernel
theorem dX9_heaps_136 : decode cX9_heaps 136 = .ok (.goto 15, 3) := by decide +kernel
theorem dX9_heaps_139 : decode cX9_heaps 139 = .ok (.iload 5, 2) := by decide +kernel
theorem dX9_heaps_141 : decode cX9_heaps 141 = .ok (.goto 10, 3) := by decide +kernel
theorem dX9_heaps_144 : decode cX9_heaps 144 = .ok (.aload_n 0, 1) := by decide +kernel
theorem dX9_heaps_145 : decode cX9_heaps 145 = .ok (.getfield 54, 3) := by decide +kernel
theorem dX9_heaps_148 : decode cX9_heaps 148 = .ok (.iload 6, 2) := by decide +kernel
theorem dX9_heaps_150 : decode cX9_heaps 150 = .ok (.iaload, 1) := by decide +kernel
theorem dX9_heaps_151 : decode cX9_heaps 151 = .ok (.iastore, 1) := by decide +kernel
theorem dX9_heaps_152 : decode cX9_heaps 152 = .ok (.iinc 6 1, 3) := by decide +kernel
theorem dX9_heaps_155 : decode cX9_heaps 155 = .ok (.goto (-67), 3) := by decide +kernel
theorem dX9_heaps_158 : decode cX9_heaps 158 = .ok (.iinc 2 (-1), 3) := by decide +kernel
theorem dX9_heaps_161 : decode cX9_heaps 161 = .ok (.iinc 3 1, 3) := by decide +kernel
theorem dX9_heaps_164 : decode cX9_heaps 164 = .ok (.goto (-134), 3) := by decide +kernel
theorem dX9_heaps_167 : decode cX9_heaps 167 = .ok (.iload_n 2, 1) := by decide +kernel
theorem dX9_heaps_168 : decode cX9_heaps 168 = .ok (.ireturn, 1) := by decide +kernel
theorem dX9_hasRing_0 : decode cX9_hasRing 0 = .ok (.aload_n 0, 1) := by decide +kernel
theorem dX9_hasRing_1 : decode cX9_hasRing 1 = .ok (.getfield 95, 3) := by decide +kernel
theorem dX9_hasRing_4 : decode cX9_hasRing 4 = .ok (.aload_n 0, 1) := by decide +kernel
theorem dX9_hasRing_5 : decode cX9_hasRing 5 = .ok (.iload_n 1, 1) := by decide +kernel
theorem dX9_hasRing_6 : decode cX9_hasRing 6 = .ok (.invokevirtual 105, 3) := by decide +kernel
theorem dX9_hasRing_9 : decode cX9_hasRing 9 = .ok (.isub, 1) := by decide +kernel
theorem dX9_hasRing_10 : decode cX9_hasRing 10 = .ok (.iload_n 1, 1) := by decide +kernel
theorem dX9_hasRing_11 : decode cX9_hasRing 11 = .ok (.invokestatic 109, 3) := by decide +kernel
theorem dX9_hasRing_14 : decode cX9_hasRing 14 = .ok (.if_icmp .eq 7, 3) := by decide +kernel
theorem dX9_hasRing_17 : decode cX9_hasRing 17 = .ok (.iconst 1, 1) := by decide +kernel
theorem dX9_hasRing_18 : decode cX9_hasRing 18 = .ok (.goto 4, 3) := by decide +kernel
theorem dX9_hasRing_21 : decode cX9_hasRing 21 = .ok (.iconst 0, 1) := by decide +kernel
theorem dX9_hasRing_22 : decode cX9_hasRing 22 = .ok (.ireturn, 1) := by decide +kernel
theorem dX9_sumOf_0 : decode cX9_sumOf 0 = .ok (.iconst 0, 1) := by decide +kernel
theorem dX9_sumOf_1 : decode cX9_sumOf 1 = .ok (.istore_n 2, 1) := by decide +kernel
theorem dX9_sumOf_2 : decode cX9_sumOf 2 = .ok (.iconst 0, 1) := by decide +kernel
theorem dX9_sumOf_3 : decode cX9_sumOf 3 = .ok (.istore_n 3, 1) := by decide +kernel
theorem dX9_sumOf_4 : decode cX9_sumOf 4 = .ok (.iload_n 3, 1) := by decide +kernel
theorem dX9_sumOf_5 : decode cX9_sumOf 5 = .ok (.aload_n 0, 1) := by decide +kernel
theorem dX9_sumOf_6 : decode cX9_sumOf 6 = .ok (.getfield 98, 3) := by decide +kernel
theorem dX9_sumOf_9 : decode cX9_sumOf 9 = .ok (.if_icmp .ge 30, 3) := by decide +kernel
theorem dX9_sumOf_12 : decode cX9_sumOf 12 = .ok (.iload_n 2, 1) := by decide +kernel
theorem dX9_sumOf_13 : decode cX9_sumOf 13 = .ok (.iload_n 1, 1) := by decide +kernel
theorem dX9_sumOf_14 : decode cX9_sumOf 14 = .ok (.iload_n 3, 1) := by decide +kernel
theorem dX9_sumOf_15 : decode cX9_sumOf 15 = .ok (.invokestatic 101, 3) := by decide +kernel
theorem dX9_sumOf_18 : decode cX9_sumOf 18 = .ok (.ifCond .eq 12, 3) := by decide +kernel
theorem dX9_sumOf_21 : decode cX9_sumOf 21 = .ok (.aload_n 0, 1) := by decide +kernel
theorem dX9_sumOf_22 : decode cX9_sumOf 22 = .ok (.getfield 16, 3) := by decide +kernel
theorem dX9_sumOf_25 : decode cX9_sumOf 25 = .ok (.iload_n 3, 1) := by decide +kernel
theorem dX9_sumOf_26 : decode cX9_sumOf 26 = .ok (.iaload, 1) := by decide +kernel
theorem dX9_sumOf_27 : decode cX9_sumOf 27 = .ok (.goto 4, 3) := by decide +kernel
theorem dX9_sumOf_30 : decode cX9_sumOf 30 = .ok (.iconst 0, 1) := by decide +kernel
theorem dX9_sumOf_31 : decode cX9_sumOf 31 = .ok (.iadd, 1) := by decide +kernel
theorem dX9_sumOf_32 : decode cX9_sumOf 32 = .ok (.istore_n 2, 1) := by decide +kernel
theorem dX9_sumOf_33 : decode cX9_sumOf 33 = .ok (.iinc 3 1, 3) := by decide +kernel
theorem dX9_sumOf_36 : decode cX9_sumOf 36 = .ok (.goto (-32), 3) := by decide +kernel
theorem dX9_sumOf_39 : decode cX9_sumOf 39 = .ok (.iload_n 2, 1) := by decide +kernel
theorem dX9_sumOf_40 : decode cX9_sumOf 40 = .ok (.ireturn, 1) := by decide +kernel
theorem dX9_put_0 : decode cX9_put 0 = .ok (.aload_n 0, 1) := by decide +kernel
theorem dX9_put_1 : decode cX9_put 1 = .ok (.getfield 26, 3) := by decide +kernel
theorem dX9_put_4 : decode cX9_put 4 = .ok (.sipush 4096, 3) := by decide +kernel
theorem dX9_put_7 : decode cX9_put 7 = .ok (.aload_n 0, 1) := by decide +kernel
theorem dX9_put_8 : decode cX9_put 8 = .ok (.getfield 87, 3) := by decide +kernel
theorem dX9_put_11 : decode cX9_put 11 = .ok (.imul, 1) := by decide +kernel
theorem dX9_put_12 : decode cX9_put 12 = .ok (.iload_n 1, 1) := by decide +kernel
theorem dX9_put_13 : decode cX9_put 13 = .ok (.iadd, 1) := by decide +kernel
theorem dX9_put_14 : decode cX9_put 14 = .ok (.iload_n 2, 1) := by decide +kernel
theorem dX9_put_15 : decode cX9_put 15 = .ok (.bastore, 1) := by decide +kernel
theorem dX9_put_16 : decode cX9_put 16 = .ok (.return_, 1) := by decide +kernel
theorem dX9_made_0 : decode cX9_made 0 = .ok (.aload_n 0, 1) := by decide +kernel
theorem dX9_made_1 : decode cX9_made 1 = .ok (.getfield 87, 3) := by decide +kernel
theorem dX9_made_4 : decode cX9_made 4 = .ok (.bipush 30, 2) := by decide +kernel
theorem dX9_made_6 : decode cX9_made 6 = .ok (.if_icmp .ne 6, 3) := by decide +kernel
theorem dX9_made_9 : decode cX9_made 9 = .ok (.bipush (-4), 2) := by decide +kernel
theorem dX9_made_11 : decode cX9_made 11 = .ok (.ireturn, 1) := by decide +kernel
theorem dX9_made_12 : decode cX9_made 12 = .ok (.aload_n 0, 1) := by decide +kernel
theorem dX9_made_13 : decode cX9_made 13 = .ok (.getfield 22, 3) := by decide +kernel
theorem dX9_made_16 : decode cX9_made 16 = .ok (.aload_n 0, 1) := by decide +kernel
theorem dX9_made_17 : decode cX9_made 17 = .ok (.getfield 87, 3) := by decide +kernel
theorem dX9_made_20 : decode cX9_made 20 = .ok (.iload_n 1, 1) := by decide +kernel
theorem dX9_made_21 : decode cX9_made 21 = .ok (.iastore, 1) := by decide +kernel
theorem dX9_made_22 : decode cX9_made 22 = .ok (.aload_n 0, 1) := by decide +kernel
theorem dX9_made_23 : decode cX9_made 23 = .ok (.dup, 1) := by decide +kernel
theorem dX9_made_24 : decode cX9_made 24 = .ok (.getfield 87, 3) := by decide +kernel
theorem dX9_made_27 : decode cX9_made 27 = .ok (.iconst 1, 1) := by decide +kernel
theorem dX9_made_28 : decode cX9_made 28 = .ok (.iadd, 1) := by decide +kernel
theorem dX9_made_29 : decode cX9_made 29 = .ok (.putfield 87, 3) := by decide +kernel
theorem dX9_made_32 : decode cX9_made 32 = .ok (.aload_n 0, 1) := by decide +kernel
theorem dX9_made_33 : decode cX9_made 33 = .ok (.getfield 87, 3) := by decide +kernel
theorem dX9_made_36 : decode cX9_made 36 = .ok (.iconst 1, 1) := by decide +kernel
theorem dX9_made_37 : decode cX9_made 37 = .ok (.isub, 1) := by decide +kernel
theorem dX9_made_38 : decode cX9_made 38 = .ok (.ireturn, 1) := by decide +kernel
theorem dX9_net_0 : decode cX9_net 0 = .ok (.iconst 1, 1) := by decide +kernel
theorem dX9_net_1 : decode cX9_net 1 = .ok (.aload_n 0, 1) := by decide +kernel
theorem dX9_net_2 : decode cX9_net 2 = .ok (.getfield 98, 3) := by decide +kernel
theorem dX9_net_5 : decode cX9_net 5 = .ok (.ishl, 1) := by decide +kernel
theorem dX9_net_6 : decode cX9_net 6 = .ok (.ireturn, 1) := by decide +kernel
theorem dX9_tell_0 : decode cX9_tell 0 = .ok (.iload_n 1, 1) := by decide +kernel
theorem dX9_tell_1 : decode cX9_tell 1 = .ok (.iconst (-1), 1) := by decide +kernel
theorem dX9_tell_2 : decode cX9_tell 2 = .ok (.if_icmp .lt 11, 3) := by decide +kernel
theorem dX9_tell_5 : decode cX9_tell 5 = .ok (.iload_n 1, 1) := by decide +kernel
theorem dX9_tell_6 : decode cX9_tell 6 = .ok (.aload_n 0, 1) := by decide +kernel
theorem dX9_tell_7 : decode cX9_tell 7 = .ok (.invokevirtual 112, 3) := by decide +kernel
theorem dX9_tell_10 : decode cX9_tell 10 = .ok (.if_icmp .lt 6, 3) := by decide +kernel
theorem dX9_tell_13 : decode cX9_tell 13 = .ok (.bipush (-2), 2) := by decide +kernel
theorem dX9_tell_15 : decode cX9_tell 15 = .ok (.ireturn, 1) := by decide +kernel
theorem dX9_tell_16 : decode cX9_tell 16 = .ok (.iconst 0, 1) := by decide +kernel
theorem dX9_tell_17 : decode cX9_tell 17 = .ok (.istore_n 2, 1) := by decide +kernel
theorem dX9_tell_18 : decode cX9_tell 18 = .ok (.iload_n 2, 1) := by decide +kernel
theorem dX9_tell_19 : decode cX9_tell 19 = .ok (.sipush 4096, 3) := by decide +kernel
theorem dX9_tell_22 : decode cX9_tell 22 = .ok (.if_icmp .ge 33, 3) := by decide +kernel
theorem dX9_tell_25 : decode cX9_tell 25 = .ok (.aload_n 0, 1) := by decide +kernel
theorem dX9_tell_26 : decode cX9_tell 26 = .ok (.getfield 87, 3) := by decide +kernel
theorem dX9_tell_29 : decode cX9_tell 29 = .ok (.bipush 30, 2) := by decide +kernel
theorem dX9_tell_31 : decode cX9_tell 31 = .ok (.if_icmp .ge 24, 3) := by decide +kernel
theorem dX9_tell_34 : decode cX9_tell 34 = .ok (.aload_n 0, 1) := by decide +kernel
theorem dX9_tell_35 : decode cX9_tell 35 = .ok (.iload_n 2, 1) := by decide +kernel
theorem dX9_tell_36 : decode cX9_tell 36 = .ok (.iload_n 2, 1) := by decide +kernel
theorem dX9_tell_37 : decode cX9_tell 37 = .ok (.iload_n 1, 1) := by decide +kernel
theorem dX9_tell_38 : decode cX9_tell 38 = .ok (.if_icmp .ne 7, 3) := by decide +kernel
theorem dX9_tell_41 : decode cX9_tell 41 = .ok (.iconst 1, 1) := by decide +kernel
theorem dX9_tell_42 : decode cX9_tell 42 = .ok (.goto 4, 3) := by decide +kernel
theorem dX9_tell_45 : decode cX9_tell 45 = .ok (.iconst 0, 1) := by decide +kernel
theorem dX9_tell_46 : decode cX9_tell 46 = .ok (.invokevirtual 116, 3) := by decide +kernel
theorem dX9_tell_49 : decode cX9_tell 49 = .ok (.iinc 2 1, 3) := by decide +kernel
theorem dX9_tell_52 : decode cX9_tell 52 = .ok (.goto (-34), 3) := by decide +kernel
theorem dX9_tell_55 : decode cX9_tell 55 = .ok (.aload_n 0, 1) := by decide +kernel
theorem dX9_tell_56 : decode cX9_tell 56 = .ok (.iconst 0, 1) := by decide +kernel
theorem dX9_tell_57 : decode cX9_tell 57 = .ok (.invokevirtual 120, 3) := by decide +kernel
theorem dX9_tell_60 : decode cX9_tell 60 = .ok (.ireturn, 1) := by decide +kernel
theorem dX9_all_0 : decode cX9_all 0 = .ok (.iload_n 1, 1) := by decide +kernel
theorem dX9_all_1 : decode cX9_all 1 = .ok (.ifCond .lt 11, 3) := by decide +kernel
theorem dX9_all_4 : decode cX9_all 4 = .ok (.iload_n 1, 1) := by decide +kernel
theorem dX9_all_5 : decode cX9_all 5 = .ok (.aload_n 0, 1) := by decide +kernel
theorem dX9_all_6 : decode cX9_all 6 = .ok (.invokevirtual 112, 3) := by decide +kernel
theorem dX9_all_9 : decode cX9_all 9 = .ok (.if_icmp .lt 6, 3) := by decide +kernel
theorem dX9_all_12 : decode cX9_all 12 = .ok (.bipush (-2), 2) := by decide +kernel
theorem dX9_all_14 : decode cX9_all 14 = .ok (.ireturn, 1) := by decide +kernel
theorem dX9_all_15 : decode cX9_all 15 = .ok (.iconst 0, 1) := by decide +kernel
theorem dX9_all_16 : decode cX9_all 16 = .ok (.istore_n 2, 1) := by decide +kernel
theorem dX9_all_17 : decode cX9_all 17 = .ok (.iload_n 2, 1) := by decide +kernel
theorem dX9_all_18 : decode cX9_all 18 = .ok (.sipush 4096, 3) := by decide +kernel
theorem dX9_all_21 : decode cX9_all 21 = .ok (.if_icmp .ge 36, 3) := by decide +kernel
theorem dX9_all_24 : decode cX9_all 24 = .ok (.aload_n 0, 1) := by decide +kernel
theorem dX9_all_25 : decode cX9_all 25 = .ok (.getfield 87, 3) := by decide +kernel
theorem dX9_all_28 : decode cX9_all 28 = .ok (.bipush 30, 2) := by decide +kernel
theorem dX9_all_30 : decode cX9_all 30 = .ok (.if_icmp .ge 27, 3) := by decide +kernel
theorem dX9_all_33 : decode cX9_all 33 = .ok (.aload_n 0, 1) := by decide +kernel
theorem dX9_all_34 : decode cX9_all 34 = .ok (.iload_n 2, 1) := by decide +kernel
theorem dX9_all_35 : decode cX9_all 35 = .ok (.iload_n 2, 1) := by decide +kernel
theorem dX9_all_36 : decode cX9_all 36 = .ok (.iload_n 1, 1) := by decide +kernel
theorem dX9_all_37 : decode cX9_all 37 = .ok (.iconst (-1), 1) := by decide +kernel
theorem dX9_all_38 : decode cX9_all 38 = .ok (.ixor, 1) := by decide +kernel
theorem dX9_all_39 : decode cX9_all 39 = .ok (.iand, 1) := by decide +kernel
theorem dX9_all_40 : decode cX9_all 40 = .ok (.ifCond .ne 7, 3) := by decide +kernel
theorem dX9_all_43 : decode cX9_all 43 = .ok (.iconst 1, 1) := by decide +kernel
theorem dX9_all_44 : decode cX9_all 44 = .ok (.goto 4, 3) := by decide +kernel
theorem dX9_all_47 : decode cX9_all 47 = .ok (.iconst 0, 1) := by decide +kernel
theorem dX9_all_48 : decode cX9_all 48 = .ok (.invokevirtual 116, 3) := by decide +kernel
theorem dX9_all_51 : decode cX9_all 51 = .ok (.iinc 2 1, 3) := by decide +kernel
theorem dX9_all_54 : decode cX9_all 54 = .ok (.goto (-37), 3) := by decide +kernel
theorem dX9_all_57 : decode cX9_all 57 = .ok (.aload_n 0, 1) := by decide +kernel
theorem dX9_all_58 : decode cX9_all 58 = .ok (.iconst 0, 1) := by decide +kernel
theorem dX9_all_59 : decode cX9_all 59 = .ok (.invokevirtual 120, 3) := by decide +kernel
theorem dX9_all_62 : decode cX9_all 62 = .ok (.ireturn, 1) := by decide +kernel
theorem dX9_isOne_0 : decode cX9_isOne 0 = .ok (.iconst 0, 1) := by decide +kernel
theorem dX9_isOne_1 : decode cX9_isOne 1 = .ok (.istore_n 2, 1) := by decide +kernel
theorem dX9_isOne_2 : decode cX9_isOne 2 = .ok (.iconst 0, 1) := by decide +kernel
theorem dX9_isOne_3 : decode cX9_isOne 3 = .ok (.istore_n 3, 1) := by decide +kernel
theorem dX9_isOne_4 : decode cX9_isOne 4 = .ok (.iload_n 3, 1) := by decide +kernel
theorem dX9_isOne_5 : decode cX9_isOne 5 = .ok (.aload_n 0, 1) := by decide +kernel
theorem dX9_isOne_6 : decode cX9_isOne 6 = .ok (.getfield 95, 3) := by decide +kernel
theorem dX9_isOne_9 : decode cX9_isOne 9 = .ok (.if_icmp .ge 26, 3) := by decide +kernel
theorem dX9_isOne_12 : decode cX9_isOne 12 = .ok (.iload_n 2, 1) := by decide +kernel
theorem dX9_isOne_13 : decode cX9_isOne 13 = .ok (.aload_n 0, 1) := by decide +kernel
theorem dX9_isOne_14 : decode cX9_isOne 14 = .ok (.iload_n 1, 1) := by decide +kernel
theorem dX9_isOne_15 : decode cX9_isOne 15 = .ok (.iload_n 3, 1) := by decide +kernel
theorem dX9_isOne_16 : decode cX9_isOne 16 = .ok (.invokevirtual 123, 3) := by decide +kernel
theorem dX9_isOne_19 : decode cX9_isOne 19 = .ok (.ifCond .ne 7, 3) := by decide +kernel
theorem dX9_isOne_22 : decode cX9_isOne 22 = .ok (.iconst 1, 1) := by decide +kernel
theorem dX9_isOne_23 : decode cX9_isOne 23 = .ok (.goto 4, 3) := by decide +kernel
theorem dX9_isOne_26 : decode cX9_isOne 26 = .ok (.iconst 0, 1) := by decide +kernel
theorem dX9_isOne_27 : decode cX9_isOne 27 = .ok (.iadd, 1) := by decide +kernel
theorem dX9_isOne_28 : decode cX9_isOne 28 = .ok (.istore_n 2, 1) := by decide +kernel
theorem dX9_isOne_29 : decode cX9_isOne 29 = .ok (.iinc 3 1, 3) := by decide +kernel
theorem dX9_isOne_32 : decode cX9_isOne 32 = .ok (.goto (-28), 3) := by decide +kernel
theorem dX9_isOne_35 : decode cX9_isOne 35 = .ok (.iload_n 1, 1) := by decide +kernel
theorem dX9_isOne_36 : decode cX9_isOne 36 = .ok (.ifCond .eq 18, 3) := by decide +kernel
theorem dX9_isOne_39 : decode cX9_isOne 39 = .ok (.aload_n 0, 1) := by decide +kernel
theorem dX9_isOne_40 : decode cX9_isOne 40 = .ok (.iload_n 1, 1) := by decide +kernel
theorem dX9_isOne_41 : decode cX9_isOne 41 = .ok (.invokevirtual 105, 3) := by decide +kernel
theorem dX9_isOne_44 : decode cX9_isOne 44 = .ok (.iload_n 2, 1) := by decide +kernel
theorem dX9_isOne_45 : decode cX9_isOne 45 = .ok (.iconst 1, 1) := by decide +kernel
theorem dX9_isOne_46 : decode cX9_isOne 46 = .ok (.iadd, 1) := by decide +kernel
theorem dX9_isOne_47 : decode cX9_isOne 47 = .ok (.if_icmp .ne 7, 3) := by decide +kernel
theorem dX9_isOne_50 : decode cX9_isOne 50 = .ok (.iconst 1, 1) := by decide +kernel
theorem dX9_isOne_51 : decode cX9_isOne 51 = .ok (.goto 4, 3) := by decide +kernel
theorem dX9_isOne_54 : decode cX9_isOne 54 = .ok (.iconst 0, 1) := by decide +kernel
theorem dX9_isOne_55 : decode cX9_isOne 55 = .ok (.ireturn, 1) := by decide +kernel
theorem dX9_isPath_0 : decode cX9_isPath 0 = .ok (.aload_n 0, 1) := by decide +kernel
theorem dX9_isPath_1 : decode cX9_isPath 1 = .ok (.iload_n 1, 1) := by decide +kernel
theorem dX9_isPath_2 : decode cX9_isPath 2 = .ok (.invokevirtual 127, 3) := by decide +kernel
theorem dX9_isPath_5 : decode cX9_isPath 5 = .ok (.istore 5, 2) := by decide +kernel
theorem dX9_isPath_7 : decode cX9_isPath 7 = .ok (.iconst 0, 1) := by decide +kernel
theorem dX9_isPath_8 : decode cX9_isPath 8 = .ok (.istore 6, 2) := by decide +kernel
theorem dX9_isPath_10 : decode cX9_isPath 10 = .ok (.iload 5, 2) := by decide +kernel
theorem dX9_isPath_12 : decode cX9_isPath 12 = .ok (.ifCond .eq 76, 3) := by decide +kernel
theorem dX9_isPath_15 : decode cX9_isPath 15 = .ok (.iload 6, 2) := by decide +kernel
theorem dX9_isPath_17 : decode cX9_isPath 17 = .ok (.aload_n 0, 1) := by decide +kernel
theorem dX9_isPath_18 : decode cX9_isPath 18 = .ok (.getfield 95, 3) := by decide +kernel
theorem dX9_isPath_21 : decode cX9_isPath 21 = .ok (.if_icmp .ge 67, 3) := by decide +kernel
theorem dX9_isPath_24 : decode cX9_isPath 24 = .ok (.aload_n 0, 1) := by decide +kernel
theorem dX9_isPath_25 : decode cX9_isPath 25 = .ok (.iload_n 1, 1) := by decide +kernel
theorem dX9_isPath_26 : decode cX9_isPath 26 = .ok (.iload 6, 2) := by decide +kernel
theorem dX9_isPath_28 : decode cX9_isPath 28 = .ok (.invokevirtual 123, 3) := by decide +kernel
theorem dX9_isPath_31 : decode cX9_isPath 31 = .ok (.istore 7, 2) := by decide +kernel
theorem dX9_isPath_33 : decode cX9_isPath 33 = .ok (.iload 6, 2) := by decide +kernel
theorem dX9_isPath_35 : decode cX9_isPath 35 = .ok (.iload_n 2, 1) := by decide +kernel
theorem dX9_isPath_36 : decode cX9_isPath 36 = .ok (.if_icmp .eq 9, 3) := by decide +kernel
theorem dX9_isPath_39 : decode cX9_isPath 39 = .ok (.iload 6, 2) := by decide +kernel
theorem dX9_isPath_41 : decode cX9_isPath 41 = .ok (.iload_n 3, 1) := by decide +kernel
theorem dX9_isPath_42 : decode cX9_isPath 42 = .ok (.if_icmp .ne 17, 3) := by decide +kernel
theorem dX9_isPath_45 : decode cX9_isPath 45 = .ok (.iload 7, 2) := by decide +kernel
theorem dX9_isPath_47 : decode cX9_isPath 47 = .ok (.iconst 1, 1) := by decide +kernel
theorem dX9_isPath_48 : decode cX9_isPath 48 = .ok (.if_icmp .ne 7, 3) := by decide +kernel
theorem dX9_isPath_51 : decode cX9_isPath 51 = .ok (.iconst 1, 1) := by decide +kernel
theorem dX9_isPath_52 : decode cX9_isPath 52 = .ok (.goto 28, 3) := by decide +kernel
theorem dX9_isPath_55 : decode cX9_isPath 55 = .ok (.iconst 0, 1) := by decide +kernel
theorem dX9_isPath_56 : decode cX9_isPath 56 = .ok (.goto 24, 3) := by decide +kernel
theorem dX9_isPath_59 : decode cX9_isPath 59 = .ok (.iload 7, 2) := by decide +kernel
theorem dX9_isPath_61 : decode cX9_isPath 61 = .ok (.iconst 2, 1) := by decide +kernel
theorem dX9_isPath_62 : decode cX9_isPath 62 = .ok (.if_icmp .eq 13, 3) := by decide +kernel
theorem dX9_isPath_65 : decode cX9_isPath 65 = .ok (.iload 7, 2) := by decide +kernel
theorem dX9_isPath_67 : decode cX9_isPath 67 = .ok (.ifCond .ne 12, 3) := by decide +kernel
theorem dX9_isPath_70 : decode cX9_isPath 70 = .ok (.iload 4, 2) := by decide +kernel
theorem dX9_isPath_72 : decode cX9_isPath 72 = .ok (.ifCond .ne 7, 3) := by decide +kernel
theorem dX9_isPath_75 : decode cX9_isPath 75 = .ok (.iconst 1, 1) := by decide +kernel
theorem dX9_isPath_76 : decode cX9_isPath 76 = .ok (.goto 4, 3) := by decide +kernel
theorem dX9_isPath_79 : decode cX9_isPath 79 = .ok (.iconst 0, 1) := by decide +kernel
theorem dX9_isPath_80 : decode cX9_isPath 80 = .ok (.istore 5, 2) := by decide +kernel
theorem dX9_isPath_82 : decode cX9_isPath 82 = .ok (.iinc 6 1, 3) := by decide +kernel
theorem dX9_isPath_85 : decode cX9_isPath 85 = .ok (.goto (-75), 3) := by decide +kernel
theorem dX9_isPath_88 : decode cX9_isPath 88 = .ok (.iload 5, 2) := by decide +kernel
theorem dX9_isPath_90 : decode cX9_isPath 90 = .ok (.ireturn, 1) := by decide +kernel
theorem dX9_paths_0 : decode cX9_paths 0 = .ok (.iload_n 1, 1) := by decide +kernel
theorem dX9_paths_1 : decode cX9_paths 1 = .ok (.iconst 0, 1) := by decide +kernel
theorem dX9_paths_2 : decode cX9_paths 2 = .ok (.aload_n 0, 1) := by decide +kernel
theorem dX9_paths_3 : decode cX9_paths 3 = .ok (.getfield 95, 3) := by decide +kernel
theorem dX9_paths_6 : decode cX9_paths 6 = .ok (.iconst 1, 1) := by decide +kernel
theorem dX9_paths_7 : decode cX9_paths 7 = .ok (.isub, 1) := by decide +kernel
theorem dX9_paths_8 : decode cX9_paths 8 = .ok (.invokestatic 91, 3) := by decide +kernel
theorem dX9_paths_11 : decode cX9_paths 11 = .ok (.ifCond .eq 22, 3) := by decide +kernel
theorem dX9_paths_14 : decode cX9_paths 14 = .ok (.iload_n 2, 1) := by decide +kernel
theorem dX9_paths_15 : decode cX9_paths 15 = .ok (.iconst 0, 1) := by decide +kernel
theorem dX9_paths_16 : decode cX9_paths 16 = .ok (.aload_n 0, 1) := by decide +kernel
theorem dX9_paths_17 : decode cX9_paths 17 = .ok (.getfield 95, 3) := by decide +kernel
theorem dX9_paths_20 : decode cX9_paths 20 = .ok (.iconst 1, 1) := by decide +kernel
theorem dX9_paths_21 : decode cX9_paths 21 = .ok (.isub, 1) := by decide +kernel
theorem dX9_paths_22 : decode cX9_paths 22 = .ok (.invokestatic 91, 3) := by decide +kernel
theorem dX9_paths_25 : decode cX9_paths 25 = .ok (.ifCond .eq 8, 3) := by decide +kernel
theorem dX9_paths_28 : decode cX9_paths 28 = .ok (.iload_n 1, 1) := by decide +kernel
theorem dX9_paths_29 : decode cX9_paths 29 = .ok (.iload_n 2, 1) := by decide +kernel
theorem dX9_paths_30 : decode cX9_paths 30 = .ok (.if_icmp .ne 6, 3) := by decide +kernel
theorem dX9_paths_33 : decode cX9_paths 33 = .ok (.bipush (-2), 2) := by decide +kernel
theorem dX9_paths_35 : decode cX9_paths 35 = .ok (.ireturn, 1) := by decide +kernel
theorem dX9_paths_36 : decode cX9_paths 36 = .ok (.iconst 0, 1) := by decide +kernel
theorem dX9_paths_37 : decode cX9_paths 37 = .ok (.istore 4, 2) := by decide +kernel
theorem dX9_paths_39 : decode cX9_paths 39 = .ok (.iload 4, 2) := by decide +kernel
theorem dX9_paths_41 : decode cX9_paths 41 = .ok (.sipush 4096, 3) := by decide +kernel
theorem dX9_paths_44 : decode cX9_paths 44 = .ok (.if_icmp .ge 50, 3) := by decide +kernel
theorem dX9_paths_47 : decode cX9_paths 47 = .ok (.aload_n 0, 1) := by decide +kernel
theorem dX9_paths_48 : decode cX9_paths 48 = .ok (.getfield 87, 3) := by decide +kernel
theorem dX9_paths_51 : decode cX9_paths 51 = .ok (.bipush 30, 2) := by decide +kernel
theorem dX9_paths_53 : decode cX9_paths 53 = .ok (.if_icmp .ge 41, 3) := by decide +kernel
theorem dX9_paths_56 : decode cX9_paths 56 = .ok (.aload_n 0, 1) := by decide +kernel
theorem dX9_paths_57 : decode cX9_paths 57 = .ok (.iload 4, 2) := by decide +kernel
theorem dX9_paths_59 : decode cX9_paths 59 = .ok (.iload 4, 2) := by decide +kernel
theorem dX9_paths_61 : decode cX9_paths 61 = .ok (.aload_n 0, 1) := by decide +kernel
theorem dX9_paths_62 : decode cX9_paths 62 = .ok (.invokevirtual 112, 3) := by decide +kernel
theorem dX9_paths_65 : decode cX9_paths 65 = .ok (.if_icmp .ge 19, 3) := by decide +kernel
theorem dX9_paths_68 : decode cX9_paths 68 = .ok (.aload_n 0, 1) := by decide +kernel
theorem dX9_paths_69 : decode cX9_paths 69 = .ok (.iload 4, 2) := by decide +kernel
theorem dX9_paths_71 : decode cX9_paths 71 = .ok (.iload_n 1, 1) := by decide +kernel
theorem dX9_paths_72 : decode cX9_paths 72 = .ok (.iload_n 2, 1) := by decide +kernel
theorem dX9_paths_73 : decode cX9_paths 73 = .ok (.iload_n 3, 1) := by decide +kernel
theorem dX9_paths_74 : decode cX9_paths 74 = .ok (.invokevirtual 131, 3) := by decide +kernel
theorem dX9_paths_77 : decode cX9_paths 77 = .ok (.ifCond .eq 7, 3) := by decide +kernel
theorem dX9_paths_80 : decode cX9_paths 80 = .ok (.iconst 1, 1) := by decide +kernel
theorem dX9_paths_81 : decode cX9_paths 81 = .ok (.goto 4, 3) := by decide +kernel
theorem dX9_paths_84 : decode cX9_paths 84 = .ok (.iconst 0, 1) := by decide +kernel
theorem dX9_paths_85 : decode cX9_paths 85 = .ok (.invokevirtual 116, 3) := by decide +kernel
theorem dX9_paths_88 : decode cX9_paths 88 = .ok (.iinc 4 1, 3) := by decide +kernel
theorem dX9_paths_91 : decode cX9_paths 91 = .ok (.goto (-52), 3) := by decide +kernel
theorem dX9_paths_94 : decode cX9_paths 94 = .ok (.aload_n 0, 1) := by decide +kernel
theorem dX9_paths_95 : decode cX9_paths 95 = .ok (.iconst 1, 1) := by decide +kernel
theorem dX9_paths_96 : decode cX9_paths 96 = .ok (.invokevirtual 120, 3) := by decide +kernel
theorem dX9_paths_99 : decode cX9_paths 99 = .ok (.ireturn, 1) := by decide +kernel
theorem dX9_rounds_0 : decode cX9_rounds 0 = .ok (.iconst 0, 1) := by decide +kernel
theorem dX9_rounds_1 : decode cX9_rounds 1 = .ok (.istore_n 2, 1) := by decide +kernel
theorem dX9_rounds_2 : decode cX9_rounds 2 = .ok (.iload_n 2, 1) := by decide +kernel
theorem dX9_rounds_3 : decode cX9_rounds 3 = .ok (.sipush 4096, 3) := by decide +kernel
theorem dX9_rounds_6 : decode cX9_rounds 6 = .ok (.if_icmp .ge 98, 3) := by decide +kernel
theorem dX9_rounds_9 : decode cX9_rounds 9 = .ok (.aload_n 0, 1) := by decide +kernel
theorem dX9_rounds_10 : decode cX9_rounds 10 = .ok (.getfield 87, 3) := by decide +kernel
theorem dX9_rounds_13 : decode cX9_rounds 13 = .ok (.bipush 30, 2) := by decide +kernel
theorem dX9_rounds_15 : decode cX9_rounds 15 = .ok (.if_icmp .ge 89, 3) := by decide +kernel
theorem dX9_rounds_18 : decode cX9_rounds 18 = .ok (.iload_n 2, 1) := by decide +kernel
theorem dX9_rounds_19 : decode cX9_rounds 19 = .ok (.aload_n 0, 1) := by decide +kernel
theorem dX9_rounds_20 : decode cX9_rounds 20 = .ok (.invokevirtual 112, 3) := by decide +kernel
theorem dX9_rounds_23 : decode cX9_rounds 23 = .ok (.if_icmp .ge 15, 3) := by decide +kernel
theorem dX9_rounds_26 : decode cX9_rounds 26 = .ok (.aload_n 0, 1) := by decide +kernel
theorem dX9_rounds_27 : decode cX9_rounds 27 = .ok (.iload_n 2, 1) := by decide +kernel
theorem dX9_rounds_28 : decode cX9_rounds 28 = .ok (.invokevirtual 127, 3) := by decide +kernel
theorem dX9_rounds_31 : decode cX9_rounds 31 = .ok (.ifCond .eq 7, 3) := by decide +kernel
theorem dX9_rounds_34 : decode cX9_rounds 34 = .ok (.iconst 1, 1) := by decide +kernel
theorem dX9_rounds_35 : decode cX9_rounds 35 = .ok (.goto 4, 3) := by decide +kernel
theorem dX9_rounds_38 : decode cX9_rounds 38 = .ok (.iconst 0, 1) := by decide +kernel
theorem dX9_rounds_39 : decode cX9_rounds 39 = .ok (.istore_n 3, 1) := by decide +kernel
theorem dX9_rounds_40 : decode cX9_rounds 40 = .ok (.iconst 0, 1) := by decide +kernel
theorem dX9_rounds_41 : decode cX9_rounds 41 = .ok (.istore 4, 2) := by decide +kernel
theorem dX9_rounds_43 : decode cX9_rounds 43 = .ok (.iload_n 3, 1) := by decide +kernel
theorem dX9_rounds_44 : decode cX9_rounds 44 = .ok (.ifCond .eq 48, 3) := by decide +kernel
theorem dX9_rounds_47 : decode cX9_rounds 47 = .ok (.iload 4, 2) := by decide +kernel
theorem dX9_rounds_49 : decode cX9_rounds 49 = .ok (.aload_n 0, 1) := by decide +kernel
theorem dX9_rounds_50 : decode cX9_rounds 50 = .ok (.getfield 95, 3) := by decide +kernel
theorem dX9_rounds_53 : decode cX9_rounds 53 = .ok (.if_icmp .ge 39, 3) := by decide +kernel
theorem dX9_rounds_56 : decode cX9_rounds 56 = .ok (.aload_n 0, 1) := by decide +kernel
theorem dX9_rounds_57 : decode cX9_rounds 57 = .ok (.iload_n 2, 1) := by decide +kernel
theorem dX9_rounds_58 : decode cX9_rounds 58 = .ok (.iload 4, 2) := by decide +kernel
theorem dX9_rounds_60 : decode cX9_rounds 60 = .ok (.invokevirtual 123, 3) := by decide +kernel
theorem dX9_rounds_63 : decode cX9_rounds 63 = .ok (.istore 5, 2) := by decide +kernel
theorem dX9_rounds_65 : decode cX9_rounds 65 = .ok (.iload 5, 2) := by decide +kernel
theorem dX9_rounds_67 : decode cX9_rounds 67 = .ok (.iconst 2, 1) := by decide +kernel
theorem dX9_rounds_68 : decode cX9_rounds 68 = .ok (.if_icmp .eq 12, 3) := by decide +kernel
theorem dX9_rounds_71 : decode cX9_rounds 71 = .ok (.iload 5, 2) := by decide +kernel
theorem dX9_rounds_73 : decode cX9_rounds 73 = .ok (.ifCond .ne 11, 3) := by decide +kernel
theorem dX9_rounds_76 : decode cX9_rounds 76 = .ok (.iload_n 1, 1) := by decide +kernel
theorem dX9_rounds_77 : decode cX9_rounds 77 = .ok (.ifCond .ne 7, 3) := by decide +kernel
theorem dX9_rounds_80 : decode cX9_rounds 80 = .ok (.iconst 1, 1) := by decide +kernel
theorem dX9_rounds_81 : decode cX9_rounds 81 = .ok (.goto 4, 3) := by decide +kernel
theorem dX9_rounds_84 : decode cX9_rounds 84 = .ok (.iconst 0, 1) := by decide +kernel
theorem dX9_rounds_85 : decode cX9_rounds 85 = .ok (.istore_n 3, 1) := by decide +kernel
theorem dX9_rounds_86 : decode cX9_rounds 86 = .ok (.iinc 4 1, 3) := by decide +kernel
theorem dX9_rounds_89 : decode cX9_rounds 89 = .ok (.goto (-46), 3) := by decide +kernel
theorem dX9_rounds_92 : decode cX9_rounds 92 = .ok (.aload_n 0, 1) := by decide +kernel
theorem dX9_rounds_93 : decode cX9_rounds 93 = .ok (.iload_n 2, 1) := by decide +kernel
theorem dX9_rounds_94 : decode cX9_rounds 94 = .ok (.iload_n 3, 1) := by decide +kernel
theorem dX9_rounds_95 : decode cX9_rounds 95 = .ok (.invokevirtual 116, 3) := by decide +kernel
theorem dX9_rounds_98 : decode cX9_rounds 98 = .ok (.iinc 2 1, 3) := by decide +kernel
theorem dX9_rounds_101 : decode cX9_rounds 101 = .ok (.goto (-99), 3) := by decide +kernel
theorem dX9_rounds_104 : decode cX9_rounds 104 = .ok (.aload_n 0, 1) := by decide +kernel
theorem dX9_rounds_105 : decode cX9_rounds 105 = .ok (.iconst 2, 1) := by decide +kernel
theorem dX9_rounds_106 : decode cX9_rounds 106 = .ok (.invokevirtual 120, 3) := by decide +kernel
theorem dX9_rounds_109 : decode cX9_rounds 109 = .ok (.ireturn, 1) := by decide +kernel
theorem dX9_trees_0 : decode cX9_trees 0 = .ok (.iload_n 1, 1) := by decide +kernel
theorem dX9_trees_1 : decode cX9_trees 1 = .ok (.iconst 1, 1) := by decide +kernel
theorem dX9_trees_2 : decode cX9_trees 2 = .ok (.aload_n 0, 1) := by decide +kernel
theorem dX9_trees_3 : decode cX9_trees 3 = .ok (.getfield 95, 3) := by decide +kernel
theorem dX9_trees_6 : decode cX9_trees 6 = .ok (.invokestatic 91, 3) := by decide +kernel
theorem dX9_trees_9 : decode cX9_trees 9 = .ok (.ifCond .ne 6, 3) := by decide +kernel
theorem dX9_trees_12 : decode cX9_trees 12 = .ok (.bipush (-2), 2) := by decide +kernel
theorem dX9_trees_14 : decode cX9_trees 14 = .ok (.ireturn, 1) := by decide +kernel
theorem dX9_trees_15 : decode cX9_trees 15 = .ok (.iconst 0, 1) := by decide +kernel
theorem dX9_trees_16 : decode cX9_trees 16 = .ok (.istore_n 2, 1) := by decide +kernel
theorem dX9_trees_17 : decode cX9_trees 17 = .ok (.iload_n 2, 1) := by decide +kernel
theorem dX9_trees_18 : decode cX9_trees 18 = .ok (.sipush 4096, 3) := by decide +kernel
theorem dX9_trees_21 : decode cX9_trees 21 = .ok (.if_icmp .ge 53, 3) := by decide +kernel
theorem dX9_trees_24 : decode cX9_trees 24 = .ok (.aload_n 0, 1) := by decide +kernel
theorem dX9_trees_25 : decode cX9_trees 25 = .ok (.getfield 87, 3) := by decide +kernel
theorem dX9_trees_28 : decode cX9_trees 28 = .ok (.bipush 30, 2) := by decide +kernel
theorem dX9_trees_30 : decode cX9_trees 30 = .ok (.if_icmp .ge 44, 3) := by decide +kernel
theorem dX9_trees_33 : decode cX9_trees 33 = .ok (.aload_n 0, 1) := by decide +kernel
theorem dX9_trees_34 : decode cX9_trees 34 = .ok (.iload_n 2, 1) := by decide +kernel
theorem dX9_trees_35 : decode cX9_trees 35 = .ok (.iload_n 2, 1) := by decide +kernel
theorem dX9_trees_36 : decode cX9_trees 36 = .ok (.aload_n 0, 1) := by decide +kernel
theorem dX9_trees_37 : decode cX9_trees 37 = .ok (.invokevirtual 112, 3) := by decide +kernel
theorem dX9_trees_40 : decode cX9_trees 40 = .ok (.if_icmp .ge 24, 3) := by decide +kernel
theorem dX9_trees_43 : decode cX9_trees 43 = .ok (.aload_n 0, 1) := by decide +kernel
theorem dX9_trees_44 : decode cX9_trees 44 = .ok (.iload_n 2, 1) := by decide +kernel
theorem dX9_trees_45 : decode cX9_trees 45 = .ok (.invokevirtual 135, 3) := by decide +kernel
theorem dX9_trees_48 : decode cX9_trees 48 = .ok (.ifCond .ne 16, 3) := by decide +kernel
theorem dX9_trees_51 : decode cX9_trees 51 = .ok (.aload_n 0, 1) := by decide +kernel
theorem dX9_trees_52 : decode cX9_trees 52 = .ok (.iload_n 2, 1) := by decide +kernel
theorem dX9_trees_53 : decode cX9_trees 53 = .ok (.invokevirtual 105, 3) := by decide +kernel
theorem dX9_trees_56 : decode cX9_trees 56 = .ok (.iload_n 1, 1) := by decide +kernel
theorem dX9_trees_57 : decode cX9_trees 57 = .ok (.if_icmp .ne 7, 3) := by decide +kernel
theorem dX9_trees_60 : decode cX9_trees 60 = .ok (.iconst 1, 1) := by decide +kernel
theorem dX9_trees_61 : decode cX9_trees 61 = .ok (.goto 4, 3) := by decide +kernel
theorem dX9_trees_64 : decode cX9_trees 64 = .ok (.iconst 0, 1) := by decide +kernel
theorem dX9_trees_65 : decode cX9_trees 65 = .ok (.invokevirtual 116, 3) := by decide +kernel
theorem dX9_trees_68 : decode cX9_trees 68 = .ok (.iinc 2 1, 3) := by decide +kernel
theorem dX9_trees_71 : decode cX9_trees 71 = .ok (.goto (-54), 3) := by decide +kernel
theorem dX9_trees_74 : decode cX9_trees 74 = .ok (.aload_n 0, 1) := by decide +kernel
theorem dX9_trees_75 : decode cX9_trees 75 = .ok (.iconst 3, 1) := by decide +kernel
theorem dX9_trees_76 : decode cX9_trees 76 = .ok (.invokevirtual 120, 3) := by decide +kernel
theorem dX9_trees_79 : decode cX9_trees 79 = .ok (.ireturn, 1) := by decide +kernel
theorem dX9_pairs_0 : decode cX9_pairs 0 = .ok (.iconst 0, 1) := by decide +kernel
theorem dX9_pairs_1 : decode cX9_pairs 1 = .ok (.istore_n 2, 1) := by decide +kernel
theorem dX9_pairs_2 : decode cX9_pairs 2 = .ok (.iload_n 2, 1) := by decide +kernel
theorem dX9_pairs_3 : decode cX9_pairs 3 = .ok (.sipush 4096, 3) := by decide +kernel
theorem dX9_pairs_6 : decode cX9_pairs 6 = .ok (.if_icmp .ge 90, 3) := by decide +kernel
theorem dX9_pairs_9 : decode cX9_pairs 9 = .ok (.aload_n 0, 1) := by decide +kernel
theorem dX9_pairs_10 : decode cX9_pairs 10 = .ok (.getfield 87, 3) := by decide +kernel
theorem dX9_pairs_13 : decode cX9_pairs 13 = .ok (.bipush 30, 2) := by decide +kernel
theorem dX9_pairs_15 : decode cX9_pairs 15 = .ok (.if_icmp .ge 81, 3) := by decide +kernel
theorem dX9_pairs_18 : decode cX9_pairs 18 = .ok (.iload_n 2, 1) := by decide +kernel
theorem dX9_pairs_19 : decode cX9_pairs 19 = .ok (.aload_n 0, 1) := by decide +kernel
theorem dX9_pairs_20 : decode cX9_pairs 20 = .ok (.invokevirtual 112, 3) := by decide +kernel
theorem dX9_pairs_23 : decode cX9_pairs 23 = .ok (.if_icmp .ge 7, 3) := by decide +kernel
theorem dX9_pairs_26 : decode cX9_pairs 26 = .ok (.iconst 1, 1) := by decide +kernel
theorem dX9_pairs_27 : decode cX9_pairs 27 = .ok (.goto 4, 3) := by decide +kernel
theorem dX9_pairs_30 : decode cX9_pairs 30 = .ok (.iconst 0, 1) := by decide +kernel
theorem dX9_pairs_31 : decode cX9_pairs 31 = .ok (.istore_n 3, 1) := by decide +kernel
theorem dX9_pairs_32 : decode cX9_pairs 32 = .ok (.iconst 0, 1) := by decide +kernel
theorem dX9_pairs_33 : decode cX9_pairs 33 = .ok (.istore 4, 2) := by decide +kernel
theorem dX9_pairs_35 : decode cX9_pairs 35 = .ok (.iload_n 3, 1) := by decide +kernel
theorem dX9_pairs_36 : decode cX9_pairs 36 = .ok (.ifCond .eq 48, 3) := by decide +kernel
theorem dX9_pairs_39 : decode cX9_pairs 39 = .ok (.iload 4, 2) := by decide +kernel
theorem dX9_pairs_41 : decode cX9_pairs 41 = .ok (.aload_n 0, 1) := by decide +kernel
theorem dX9_pairs_42 : decode cX9_pairs 42 = .ok (.getfield 95, 3) := by decide +kernel
theorem dX9_pairs_45 : decode cX9_pairs 45 = .ok (.if_icmp .ge 39, 3) := by decide +kernel
theorem dX9_pairs_48 : decode cX9_pairs 48 = .ok (.aload_n 0, 1) := by decide +kernel
theorem dX9_pairs_49 : decode cX9_pairs 49 = .ok (.iload_n 2, 1) := by decide +kernel
theorem dX9_pairs_50 : decode cX9_pairs 50 = .ok (.iload 4, 2) := by decide +kernel
theorem dX9_pairs_52 : decode cX9_pairs 52 = .ok (.invokevirtual 123, 3) := by decide +kernel
theorem dX9_pairs_55 : decode cX9_pairs 55 = .ok (.istore 5, 2) := by decide +kernel
theorem dX9_pairs_57 : decode cX9_pairs 57 = .ok (.iload 5, 2) := by decide +kernel
theorem dX9_pairs_59 : decode cX9_pairs 59 = .ok (.iconst 1, 1) := by decide +kernel
theorem dX9_pairs_60 : decode cX9_pairs 60 = .ok (.if_icmp .eq 12, 3) := by decide +kernel
theorem dX9_pairs_63 : decode cX9_pairs 63 = .ok (.iload 5, 2) := by decide +kernel
theorem dX9_pairs_65 : decode cX9_pairs 65 = .ok (.ifCond .ne 11, 3) := by decide +kernel
theorem dX9_pairs_68 : decode cX9_pairs 68 = .ok (.iload_n 1, 1) := by decide +kernel
theorem dX9_pairs_69 : decode cX9_pairs 69 = .ok (.ifCond .ne 7, 3) := by decide +kernel
theorem dX9_pairs_72 : decode cX9_pairs 72 = .ok (.iconst 1, 1) := by decide +kernel
theorem dX9_pairs_73 : decode cX9_pairs 73 = .ok (.goto 4, 3) := by decide +kernel
theorem dX9_pairs_76 : decode cX9_pairs 76 = .ok (.iconst 0, 1) := by decide +kernel
theorem dX9_pairs_77 : decode cX9_pairs 77 = .ok (.istore_n 3, 1) := by decide +kernel
theorem dX9_pairs_78 : decode cX9_pairs 78 = .ok (.iinc 4 1, 3) := by decide +kernel
theorem dX9_pairs_81 : decode cX9_pairs 81 = .ok (.goto (-46), 3) := by decide +kernel
theorem dX9_pairs_84 : decode cX9_pairs 84 = .ok (.aload_n 0, 1) := by decide +kernel
theorem dX9_pairs_85 : decode cX9_pairs 85 = .ok (.iload_n 2, 1) := by decide +kernel
theorem dX9_pairs_86 : decode cX9_pairs 86 = .ok (.iload_n 3, 1) := by decide +kernel
theorem dX9_pairs_87 : decode cX9_pairs 87 = .ok (.invokevirtual 116, 3) := by decide +kernel
theorem dX9_pairs_90 : decode cX9_pairs 90 = .ok (.iinc 2 1, 3) := by decide +kernel
theorem dX9_pairs_93 : decode cX9_pairs 93 = .ok (.goto (-91), 3) := by decide +kernel
theorem dX9_pairs_96 : decode cX9_pairs 96 = .ok (.aload_n 0, 1) := by decide +kernel
theorem dX9_pairs_97 : decode cX9_pairs 97 = .ok (.iconst 4, 1) := by decide +kernel
theorem dX9_pairs_98 : decode cX9_pairs 98 = .ok (.invokevirtual 120, 3) := by decide +kernel
theorem dX9_pairs_101 : decode cX9_pairs 101 = .ok (.ireturn, 1) := by decide +kernel
theorem dX9_isPart_0 : decode cX9_isPart 0 = .ok (.aload_n 0, 1) := by decide +kernel
theorem dX9_isPart_1 : decode cX9_isPart 1 = .ok (.iload_n 1, 1) := by decide +kernel
theorem dX9_isPart_2 : decode cX9_isPart 2 = .ok (.invokevirtual 105, 3) := by decide +kernel
theorem dX9_isPart_5 : decode cX9_isPart 5 = .ok (.iload_n 2, 1) := by decide +kernel
theorem dX9_isPart_6 : decode cX9_isPart 6 = .ok (.if_icmp .ne 7, 3) := by decide +kernel
theorem dX9_isPart_9 : decode cX9_isPart 9 = .ok (.iconst 1, 1) := by decide +kernel
theorem dX9_isPart_10 : decode cX9_isPart 10 = .ok (.goto 4, 3) := by decide +kernel
theorem dX9_isPart_13 : decode cX9_isPart 13 = .ok (.iconst 0, 1) := by decide +kernel
theorem dX9_isPart_14 : decode cX9_isPart 14 = .ok (.istore 5, 2) := by decide +kernel
theorem dX9_isPart_16 : decode cX9_isPart 16 = .ok (.iconst 0, 1) := by decide +kernel
theorem dX9_isPart_17 : decode cX9_isPart 17 = .ok (.istore 6, 2) := by decide +kernel
theorem dX9_isPart_19 : decode cX9_isPart 19 = .ok (.iload 6, 2) := by decide +kernel
theorem dX9_isPart_21 : decode cX9_isPart 21 = .ok (.aload_n 0, 1) := by decide +kernel
theorem dX9_isPart_22 : decode cX9_isPart 22 = .ok (.getfield 98, 3) := by decide +kernel
theorem dX9_isPart_25 : decode cX9_isPart 25 = .ok (.if_icmp .ge 63, 3) := by decide +kernel
theorem dX9_isPart_28 : decode cX9_isPart 28 = .ok (.iload 5, 2) := by decide +kernel
theorem dX9_isPart_30 : decode cX9_isPart 30 = .ok (.ifCond .eq 49, 3) := by decide +kernel
theorem dX9_isPart_33 : decode cX9_isPart 33 = .ok (.iload_n 1, 1) := by decide +kernel
theorem dX9_isPart_34 : decode cX9_isPart 34 = .ok (.iload 6, 2) := by decide +kernel
theorem dX9_isPart_36 : decode cX9_isPart 36 = .ok (.invokestatic 101, 3) := by decide +kernel
theorem dX9_isPart_39 : decode cX9_isPart 39 = .ok (.ifCond .ne 36, 3) := by decide +kernel
theorem dX9_isPart_42 : decode cX9_isPart 42 = .ok (.aload_n 0, 1) := by decide +kernel
theorem dX9_isPart_43 : decode cX9_isPart 43 = .ok (.getfield 54, 3) := by decide +kernel
theorem dX9_isPart_46 : decode cX9_isPart 46 = .ok (.aload_n 0, 1) := by decide +kernel
theorem dX9_isPart_47 : decode cX9_isPart 47 = .ok (.getfield 13, 3) := by decide +kernel
theorem dX9_isPart_50 : decode cX9_isPart 50 = .ok (.iconst 2, 1) := by decide +kernel
theorem dX9_isPart_51 : decode cX9_isPart 51 = .ok (.iload 6, 2) := by decide +kernel
theorem dX9_isPart_53 : decode cX9_isPart 53 = .ok (.imul, 1) := by decide +kernel
theorem dX9_isPart_54 : decode cX9_isPart 54 = .ok (.iaload, 1) := by decide +kernel
theorem dX9_isPart_55 : decode cX9_isPart 55 = .ok (.iaload, 1) := by decide +kernel
theorem dX9_isPart_56 : decode cX9_isPart 56 = .ok (.aload_n 0, 1) := by decide +kernel
theorem dX9_isPart_57 : decode cX9_isPart 57 = .ok (.getfield 54, 3) := by decide +kernel
theorem dX9_isPart_60 : decode cX9_isPart 60 = .ok (.aload_n 0, 1) := by decide +kernel
theorem dX9_isPart_61 : decode cX9_isPart 61 = .ok (.getfield 13, 3) := by decide +kernel
theorem dX9_isPart_64 : decode cX9_isPart 64 = .ok (.iconst 2, 1) := by decide +kernel
theorem dX9_isPart_65 : decode cX9_isPart 65 = .ok (.iload 6, 2) := by decide +kernel
theorem dX9_isPart_67 : decode cX9_isPart 67 = .ok (.imul, 1) := by decide +kernel
theorem dX9_isPart_68 : decode cX9_isPart 68 = .ok (.iconst 1, 1) := by decide +kernel
theorem dX9_isPart_69 : decode cX9_isPart 69 = .ok (.iadd, 1) := by decide +kernel
theorem dX9_isPart_70 : decode cX9_isPart 70 = .ok (.iaload, 1) := by decide +kernel
theorem dX9_isPart_71 : decode cX9_isPart 71 = .ok (.iaload, 1) := by decide +kernel
theorem dX9_isPart_72 : decode cX9_isPart 72 = .ok (.if_icmp .eq 7, 3) := by decide +kernel
theorem dX9_isPart_75 : decode cX9_isPart 75 = .ok (.iconst 1, 1) := by decide +kernel
theorem dX9_isPart_76 : decode cX9_isPart 76 = .ok (.goto 4, 3) := by decide +kernel
theorem dX9_isPart_79 : decode cX9_isPart 79 = .ok (.iconst 0, 1) := by decide +kernel
theorem dX9_isPart_80 : decode cX9_isPart 80 = .ok (.istore 5, 2) := by decide +kernel
theorem dX9_isPart_82 : decode cX9_isPart 82 = .ok (.iinc 6 1, 3) := by decide +kernel
theorem dX9_isPart_85 : decode cX9_isPart 85 = .ok (.goto (-66), 3) := by decide +kernel
theorem dX9_isPart_88 : decode cX9_isPart 88 = .ok (.iconst 0, 1) := by decide +kernel
theorem dX9_isPart_89 : decode cX9_isPart 89 = .ok (.istore 6, 2) := by decide +kernel
theorem dX9_isPart_91 : decode cX9_isPart 91 = .ok (.iload 5, 2) := by decide +kernel
theorem dX9_isPart_93 : decode cX9_isPart 93 = .ok (.ifCond .eq 82, 3) := by decide +kernel
theorem dX9_isPart_96 : decode cX9_isPart 96 = .ok (.iload 6, 2) := by decide +kernel
theorem dX9_isPart_98 : decode cX9_isPart 98 = .ok (.aload_n 0, 1) := by decide +kernel
theorem dX9_isPart_99 : decode cX9_isPart 99 = .ok (.getfield 95, 3) := by decide +kernel
theorem dX9_isPart_102 : decode cX9_isPart 102 = .ok (.if_icmp .ge 73, 3) := by decide +kernel
theorem dX9_isPart_105 : decode cX9_isPart 105 = .ok (.iconst 0, 1) := by decide +kernel
theorem dX9_isPart_106 : decode cX9_isPart 106 = .ok (.istore 7, 2) := by decide +kernel
theorem dX9_isPart_108 : decode cX9_isPart 108 = .ok (.iconst 0, 1) := by decide +kernel
theorem dX9_isPart_109 : decode cX9_isPart 109 = .ok (.istore 8, 2) := by decide +kernel
theorem dX9_isPart_111 : decode cX9_isPart 111 = .ok (.iload 8, 2) := by decide +kernel
theorem dX9_isPart_113 : decode cX9_isPart 113 = .ok (.aload_n 0, 1) := by decide +kernel
theorem dX9_isPart_114 : decode cX9_isPart 114 = .ok (.getfield 95, 3) := by decide +kernel
theorem dX9_isPart_117 : decode cX9_isPart 117 = .ok (.if_icmp .ge 42, 3) := by decide +kernel
theorem dX9_isPart_120 : decode cX9_isPart 120 = .ok (.iload 7, 2) := by decide +kernel
theorem dX9_isPart_122 : decode cX9_isPart 122 = .ok (.aload_n 0, 1) := by decide +kernel
theorem dX9_isPart_123 : decode cX9_isPart 123 = .ok (.getfield 54, 3) := by decide +kernel
theorem dX9_isPart_126 : decode cX9_isPart 126 = .ok (.iload 8, 2) := by decide +kernel
theorem dX9_isPart_128 : decode cX9_isPart 128 = .ok (.iaload, 1) := by decide +kernel
theorem dX9_isPart_129 : decode cX9_isPart 129 = .ok (.aload_n 0, 1) := by decide +kernel
theorem dX9_isPart_130 : decode cX9_isPart 130 = .ok (.getfield 54, 3) := by decide +kernel
theorem dX9_isPart_133 : decode cX9_isPart 133 = .ok (.iload 6, 2) := by decide +kernel
theorem dX9_isPart_135 : decode cX9_isPart 135 = .ok (.iaload, 1) := by decide +kernel
theorem dX9_isPart_136 : decode cX9_isPart 136 = .ok (.if_icmp .ne 13, 3) := by decide +kernel
theorem dX9_isPart_139 : decode cX9_isPart 139 = .ok (.aload_n 0, 1) := by decide +kernel
theorem dX9_isPart_140 : decode cX9_isPart 140 = .ok (.getfield 7, 3) := by decide +kernel
theorem dX9_isPart_143 : decode cX9_isPart 143 = .ok (.iload 8, 2) := by decide +kernel
theorem dX9_isPart_145 : decode cX9_isPart 145 = .ok (.iaload, 1) := by decide +kernel
theorem dX9_isPart_146 : decode cX9_isPart 146 = .ok (.goto 4, 3) := by decide +kernel
theorem dX9_isPart_149 : decode cX9_isPart 149 = .ok (.iconst 0, 1) := by decide +kernel
theorem dX9_isPart_150 : decode cX9_isPart 150 = .ok (.iadd, 1) := by decide +kernel
theorem dX9_isPart_151 : decode cX9_isPart 151 = .ok (.istore 7, 2) := by decide +kernel
theorem dX9_isPart_153 : decode cX9_isPart 153 = .ok (.iinc 8 1, 3) := by decide +kernel
theorem dX9_isPart_156 : decode cX9_isPart 156 = .ok (.goto (-45), 3) := by decide +kernel
theorem dX9_isPart_159 : decode cX9_isPart 159 = .ok (.iload 7, 2) := by decide +kernel
theorem dX9_isPart_161 : decode cX9_isPart 161 = .ok (.iload_n 3, 1) := by decide +kernel
theorem dX9_isPart_162 : decode cX9_isPart 162 = .ok (.iload 4, 2) := by decide +kernel
theorem dX9_isPart_164 : decode cX9_isPart 164 = .ok (.invokestatic 91, 3) := by decide +kernel
theorem dX9_isPart_167 : decode cX9_isPart 167 = .ok (.istore 5, 2) := by decide +kernel
theorem dX9_isPart_169 : decode cX9_isPart 169 = .ok (.iinc 6 1, 3) := by decide +kernel
theorem dX9_isPart_172 : decode cX9_isPart 172 = .ok (.goto (-81), 3) := by decide +kernel
theorem dX9_isPart_175 : decode cX9_isPart 175 = .ok (.iload 5, 2) := by decide +kernel
theorem dX9_isPart_177 : decode cX9_isPart 177 = .ok (.ireturn, 1) := by decide +kernel
theorem dX9_parts_0 : decode cX9_parts 0 = .ok (.iload_n 1, 1) := by decide +kernel
theorem dX9_parts_1 : decode cX9_parts 1 = .ok (.iconst 1, 1) := by decide +kernel
theorem dX9_parts_2 : decode cX9_parts 2 = .ok (.aload_n 0, 1) := by decide +kernel
theorem dX9_parts_3 : decode cX9_parts 3 = .ok (.getfield 95, 3) := by decide +kernel
theorem dX9_parts_6 : decode cX9_parts 6 = .ok (.invokestatic 91, 3) := by decide +kernel
theorem dX9_parts_9 : decode cX9_parts 9 = .ok (.ifCond .ne 6, 3) := by decide +kernel
theorem dX9_parts_12 : decode cX9_parts 12 = .ok (.bipush (-2), 2) := by decide +kernel
theorem dX9_parts_14 : decode cX9_parts 14 = .ok (.ireturn, 1) := by decide +kernel
theorem dX9_parts_15 : decode cX9_parts 15 = .ok (.iconst 0, 1) := by decide +kernel
theorem dX9_parts_16 : decode cX9_parts 16 = .ok (.istore 4, 2) := by decide +kernel
theorem dX9_parts_18 : decode cX9_parts 18 = .ok (.iload 4, 2) := by decide +kernel
theorem dX9_parts_20 : decode cX9_parts 20 = .ok (.sipush 4096, 3) := by decide +kernel
theorem dX9_parts_23 : decode cX9_parts 23 = .ok (.if_icmp .ge 50, 3) := by decide +kernel
theorem dX9_parts_26 : decode cX9_parts 26 = .ok (.aload_n 0, 1) := by decide +kernel
theorem dX9_parts_27 : decode cX9_parts 27 = .ok (.getfield 87, 3) := by decide +kernel
theorem dX9_parts_30 : decode cX9_parts 30 = .ok (.bipush 30, 2) := by decide +kernel
theorem dX9_parts_32 : decode cX9_parts 32 = .ok (.if_icmp .ge 41, 3) := by decide +kernel
theorem dX9_parts_35 : decode cX9_parts 35 = .ok (.aload_n 0, 1) := by decide +kernel
theorem dX9_parts_36 : decode cX9_parts 36 = .ok (.iload 4, 2) := by decide +kernel
theorem dX9_parts_38 : decode cX9_parts 38 = .ok (.iload 4, 2) := by decide +kernel
theorem dX9_parts_40 : decode cX9_parts 40 = .ok (.aload_n 0, 1) := by decide +kernel
theorem dX9_parts_41 : decode cX9_parts 41 = .ok (.invokevirtual 112, 3) := by decide +kernel
theorem dX9_parts_44 : decode cX9_parts 44 = .ok (.if_icmp .ge 19, 3) := by decide +kernel
theorem dX9_parts_47 : decode cX9_parts 47 = .ok (.aload_n 0, 1) := by decide +kernel
theorem dX9_parts_48 : decode cX9_parts 48 = .ok (.iload 4, 2) := by decide +kernel
theorem dX9_parts_50 : decode cX9_parts 50 = .ok (.iload_n 1, 1) := by decide +kernel
theorem dX9_parts_51 : decode cX9_parts 51 = .ok (.iload_n 2, 1) := by decide +kernel
theorem dX9_parts_52 : decode cX9_parts 52 = .ok (.iload_n 3, 1) := by decide +kernel
theorem dX9_parts_53 : decode cX9_parts 53 = .ok (.invokevirtual 138, 3) := by decide +kernel
theorem dX9_parts_56 : decode cX9_parts 56 = .ok (.ifCond .eq 7, 3) := by decide +kernel
theorem dX9_parts_59 : decode cX9_parts 59 = .ok (.iconst 1, 1) := by decide +kernel
theorem dX9_parts_60 : decode cX9_parts 60 = .ok (.goto 4, 3) := by decide +kernel
theorem dX9_parts_63 : decode cX9_parts 63 = .ok (.iconst 0, 1) := by decide +kernel
theorem dX9_parts_64 : decode cX9_parts 64 = .ok (.invokevirtual 116, 3) := by decide +kernel
theorem dX9_parts_67 : decode cX9_parts 67 = .ok (.iinc 4 1, 3) := by decide +kernel
theorem dX9_parts_70 : decode cX9_parts 70 = .ok (.goto (-52), 3) := by decide +kernel
theorem dX9_parts_73 : decode cX9_parts 73 = .ok (.aload_n 0, 1) := by decide +kernel
theorem dX9_parts_74 : decode cX9_parts 74 = .ok (.iconst 5, 1) := by decide +kernel
theorem dX9_parts_75 : decode cX9_parts 75 = .ok (.invokevirtual 120, 3) := by decide +kernel
theorem dX9_parts_78 : decode cX9_parts 78 = .ok (.ireturn, 1) := by decide +kernel
theorem dX9_degrees_0 : decode cX9_degrees 0 = .ok (.aload_n 0, 1) := by decide +kernel
theorem dX9_degrees_1 : decode cX9_degrees 1 = .ok (.iload_n 1, 1) := by decide +kernel
theorem dX9_degrees_2 : decode cX9_degrees 2 = .ok (.invokevirtual 142, 3) := by decide +kernel
theorem dX9_degrees_5 : decode cX9_degrees 5 = .ok (.ifCond .eq 17, 3) := by decide +kernel
theorem dX9_degrees_8 : decode cX9_degrees 8 = .ok (.iload_n 2, 1) := by decide +kernel
theorem dX9_degrees_9 : decode cX9_degrees 9 = .ok (.iconst 0, 1) := by decide +kernel
theorem dX9_degrees_10 : decode cX9_degrees 10 = .ok (.aload_n 0, 1) := by decide +kernel
theorem dX9_degrees_11 : decode cX9_degrees 11 = .ok (.getfield 95, 3) := by decide +kernel
theorem dX9_degrees_14 : decode cX9_degrees 14 = .ok (.iconst 1, 1) := by decide +kernel
theorem dX9_degrees_15 : decode cX9_degrees 15 = .ok (.isub, 1) := by decide +kernel
theorem dX9_degrees_16 : decode cX9_degrees 16 = .ok (.invokestatic 91, 3) := by decide +kernel
theorem dX9_degrees_19 : decode cX9_degrees 19 = .ok (.ifCond .ne 6, 3) := by decide +kernel
theorem dX9_degrees_22 : decode cX9_degrees 22 = .ok (.bipush (-2), 2) := by decide +kernel
theorem dX9_degrees_24 : decode cX9_degrees 24 = .ok (.ireturn, 1) := by decide +kernel
theorem dX9_degrees_25 : decode cX9_degrees 25 = .ok (.iconst 0, 1) := by decide +kernel
theorem dX9_degrees_26 : decode cX9_degrees 26 = .ok (.istore 5, 2) := by decide +kernel
theorem dX9_degrees_28 : decode cX9_degrees 28 = .ok (.iload 5, 2) := by decide +kernel
theorem dX9_degrees_30 : decode cX9_degrees 30 = .ok (.sipush 4096, 3) := by decide +kernel
theorem dX9_degrees_33 : decode cX9_degrees 33 = .ok (.if_icmp .ge 55, 3) := by decide +kernel
theorem dX9_degrees_36 : decode cX9_degrees 36 = .ok (.aload_n 0, 1) := by decide +kernel
theorem dX9_degrees_37 : decode cX9_degrees 37 = .ok (.getfield 87, 3) := by decide +kernel
theorem dX9_degrees_40 : decode cX9_degrees 40 = .ok (.bipush 30, 2) := by decide +kernel
theorem dX9_degrees_42 : decode cX9_degrees 42 = .ok (.if_icmp .ge 46, 3) := by decide +kernel
theorem dX9_degrees_45 : decode cX9_degrees 45 = .ok (.aload_n 0, 1) := by decide +kernel
theorem dX9_degrees_46 : decode cX9_degrees 46 = .ok (.iload 5, 2) := by decide +kernel
theorem dX9_degrees_48 : decode cX9_degrees 48 = .ok (.aload_n 0, 1) := by decide +kernel
theorem dX9_degrees_49 : decode cX9_degrees 49 = .ok (.iload_n 1, 1) := by decide +kernel
theorem dX9_degrees_50 : decode cX9_degrees 50 = .ok (.iload 5, 2) := by decide +kernel
theorem dX9_degrees_52 : decode cX9_degrees 52 = .ok (.invokevirtual 145, 3) := by decide +kernel
theorem dX9_degrees_55 : decode cX9_degrees 55 = .ok (.ifCond .eq 23, 3) := by decide +kernel
theorem dX9_degrees_58 : decode cX9_degrees 58 = .ok (.aload_n 0, 1) := by decide +kernel
theorem dX9_degrees_59 : decode cX9_degrees 59 = .ok (.iload 5, 2) := by decide +kernel
theorem dX9_degrees_61 : decode cX9_degrees 61 = .ok (.iload_n 2, 1) := by decide +kernel
theorem dX9_degrees_62 : decode cX9_degrees 62 = .ok (.invokevirtual 123, 3) := by decide +kernel
theorem dX9_degrees_65 : decode cX9_degrees 65 = .ok (.iload_n 3, 1) := by decide +kernel
theorem dX9_degrees_66 : decode cX9_degrees 66 = .ok (.iload 4, 2) := by decide +kernel
theorem dX9_degrees_68 : decode cX9_degrees 68 = .ok (.invokestatic 91, 3) := by decide +kernel
theorem dX9_degrees_71 : decode cX9_degrees 71 = .ok (.ifCond .eq 7, 3) := by decide +kernel
theorem dX9_degrees_74 : decode cX9_degrees 74 = .ok (.iconst 1, 1) := by decide +kernel
theorem dX9_degrees_75 : decode cX9_degrees 75 = .ok (.goto 4, 3) := by decide +kernel
theorem dX9_degrees_78 : decode cX9_degrees 78 = .ok (.iconst 0, 1) := by decide +kernel
theorem dX9_degrees_79 : decode cX9_degrees 79 = .ok (.invokevirtual 116, 3) := by decide +kernel
theorem dX9_degrees_82 : decode cX9_degrees 82 = .ok (.iinc 5 1, 3) := by decide +kernel
theorem dX9_degrees_85 : decode cX9_degrees 85 = .ok (.goto (-57), 3) := by decide +kernel
theorem dX9_degrees_88 : decode cX9_degrees 88 = .ok (.aload_n 0, 1) := by decide +kernel
theorem dX9_degrees_89 : decode cX9_degrees 89 = .ok (.iconst 0, 1) := by decide +kernel
theorem dX9_degrees_90 : decode cX9_degrees 90 = .ok (.invokevirtual 120, 3) := by decide +kernel
theorem dX9_degrees_93 : decode cX9_degrees 93 = .ok (.ireturn, 1) := by decide +kernel
theorem dX9_handed_0 : decode cX9_handed 0 = .ok (.iconst 0, 1) := by decide +kernel
theorem dX9_handed_1 : decode cX9_handed 1 = .ok (.istore_n 1, 1) := by decide +kernel
theorem dX9_handed_2 : decode cX9_handed 2 = .ok (.iload_n 1, 1) := by decide +kernel
theorem dX9_handed_3 : decode cX9_handed 3 = .ok (.sipush 4096, 3) := by decide +kernel
theorem dX9_handed_6 : decode cX9_handed 6 = .ok (.if_icmp .ge 29, 3) := by decide +kernel
theorem dX9_handed_9 : decode cX9_handed 9 = .ok (.aload_n 0, 1) := by decide +kernel
theorem dX9_handed_10 : decode cX9_handed 10 = .ok (.getfield 87, 3) := by decide +kernel
theorem dX9_handed_13 : decode cX9_handed 13 = .ok (.bipush 30, 2) := by decide +kernel
theorem dX9_handed_15 : decode cX9_handed 15 = .ok (.if_icmp .ge 20, 3) := by decide +kernel
theorem dX9_handed_18 : decode cX9_handed 18 = .ok (.aload_n 0, 1) := by decide +kernel
theorem dX9_handed_19 : decode cX9_handed 19 = .ok (.iload_n 1, 1) := by decide +kernel
theorem dX9_handed_20 : decode cX9_handed 20 = .ok (.aload_n 0, 1) := by decide +kernel
theorem dX9_handed_21 : decode cX9_handed 21 = .ok (.getfield 57, 3) := by decide +kernel
theorem dX9_handed_24 : decode cX9_handed 24 = .ok (.iload_n 1, 1) := by decide +kernel
theorem dX9_handed_25 : decode cX9_handed 25 = .ok (.baload, 1) := by decide +kernel
theorem dX9_handed_26 : decode cX9_handed 26 = .ok (.invokevirtual 116, 3) := by decide +kernel
theorem dX9_handed_29 : decode cX9_handed 29 = .ok (.iinc 1 1, 3) := by decide +kernel
theorem dX9_handed_32 : decode cX9_handed 32 = .ok (.goto (-30), 3) := by decide +kernel
theorem dX9_handed_35 : decode cX9_handed 35 = .ok (.aload_n 0, 1) := by decide +kernel
theorem dX9_handed_36 : decode cX9_handed 36 = .ok (.iconst 0, 1) := by decide +kernel
theorem dX9_handed_37 : decode cX9_handed 37 = .ok (.invokevirtual 120, 3) := by decide +kernel
theorem dX9_handed_40 : decode cX9_handed 40 = .ok (.ireturn, 1) := by decide +kernel
theorem dX9_isOver_0 : decode cX9_isOver 0 = .ok (.iconst 1, 1) := by decide +kernel
theorem dX9_isOver_1 : decode cX9_isOver 1 = .ok (.istore 4, 2) := by decide +kernel
theorem dX9_isOver_3 : decode cX9_isOver 3 = .ok (.iconst 0, 1) := by decide +kernel
theorem dX9_isOver_4 : decode cX9_isOver 4 = .ok (.istore 5, 2) := by decide +kernel
theorem dX9_isOver_6 : decode cX9_isOver 6 = .ok (.iload 4, 2) := by decide +kernel
theorem dX9_isOver_8 : decode cX9_isOver 8 = .ok (.ifCond .eq 53, 3) := by decide +kernel
theorem dX9_isOver_11 : decode cX9_isOver 11 = .ok (.iload 5, 2) := by decide +kernel
theorem dX9_isOver_13 : decode cX9_isOver 13 = .ok (.sipush 4096, 3) := by decide +kernel
theorem dX9_isOver_16 : decode cX9_isOver 16 = .ok (.if_icmp .ge 45, 3) := by decide +kernel
theorem dX9_isOver_19 : decode cX9_isOver 19 = .ok (.aload_n 0, 1) := by decide +kernel
theorem dX9_isOver_20 : decode cX9_isOver 20 = .ok (.iload_n 2, 1) := by decide +kernel
theorem dX9_isOver_21 : decode cX9_isOver 21 = .ok (.iload 5, 2) := by decide +kernel
theorem dX9_isOver_23 : decode cX9_isOver 23 = .ok (.invokevirtual 145, 3) := by decide +kernel
theorem dX9_isOver_26 : decode cX9_isOver 26 = .ok (.ifCond .eq 22, 3) := by decide +kernel
theorem dX9_isOver_29 : decode cX9_isOver 29 = .ok (.iload_n 3, 1) := by decide +kernel
theorem dX9_isOver_30 : decode cX9_isOver 30 = .ok (.iload 5, 2) := by decide +kernel
theorem dX9_isOver_32 : decode cX9_isOver 32 = .ok (.iand, 1) := by decide +kernel
theorem dX9_isOver_33 : decode cX9_isOver 33 = .ok (.ifCond .ne 19, 3) := by decide +kernel
theorem dX9_isOver_36 : decode cX9_isOver 36 = .ok (.aload_n 0, 1) := by decide +kernel
theorem dX9_isOver_37 : decode cX9_isOver 37 = .ok (.iload_n 1, 1) := by decide +kernel
theorem dX9_isOver_38 : decode cX9_isOver 38 = .ok (.iload_n 3, 1) := by decide +kernel
theorem dX9_isOver_39 : decode cX9_isOver 39 = .ok (.iload 5, 2) := by decide +kernel
theorem dX9_isOver_41 : decode cX9_isOver 41 = .ok (.ior, 1) := by decide +kernel
theorem dX9_isOver_42 : decode cX9_isOver 42 = .ok (.invokevirtual 145, 3) := by decide +kernel
theorem dX9_isOver_45 : decode cX9_isOver 45 = .ok (.ifCond .eq 7, 3) := by decide +kernel
theorem dX9_isOver_48 : decode cX9_isOver 48 = .ok (.iconst 1, 1) := by decide +kernel
theorem dX9_isOver_49 : decode cX9_isOver 49 = .ok (.goto 4, 3) := by decide +kernel
theorem dX9_isOver_52 : decode cX9_isOver 52 = .ok (.iconst 0, 1) := by decide +kernel
theorem dX9_isOver_53 : decode cX9_isOver 53 = .ok (.istore 4, 2) := by decide +kernel
theorem dX9_isOver_55 : decode cX9_isOver 55 = .ok (.iinc 5 1, 3) := by decide +kernel
theorem dX9_isOver_58 : decode cX9_isOver 58 = .ok (.goto (-52), 3) := by decide +kernel
theorem dX9_isOver_61 : decode cX9_isOver 61 = .ok (.iload 4, 2) := by decide +kernel
theorem dX9_isOver_63 : decode cX9_isOver 63 = .ok (.ireturn, 1) := by decide +kernel
theorem dX9_joined_0 : decode cX9_joined 0 = .ok (.iload_n 1, 1) := by decide +kernel
theorem dX9_joined_1 : decode cX9_joined 1 = .ok (.iconst 3, 1) := by decide +kernel
theorem dX9_joined_2 : decode cX9_joined 2 = .ok (.if_icmp .ge 82, 3) := by decide +kernel
theorem dX9_joined_5 : decode cX9_joined 5 = .ok (.aload_n 0, 1) := by decide +kernel
theorem dX9_joined_6 : decode cX9_joined 6 = .ok (.iload_n 2, 1) := by decide +kernel
theorem dX9_joined_7 : decode cX9_joined 7 = .ok (.iload 4, 2) := by decide +kernel
theorem dX9_joined_9 : decode cX9_joined 9 = .ok (.invokevirtual 145, 3) := by decide +kernel
theorem dX9_joined_12 : decode cX9_joined 12 = .ok (.istore 5, 2) := by decide +kernel
theorem dX9_joined_14 : decode cX9_joined 14 = .ok (.aload_n 0, 1) := by decide +kernel
theorem dX9_joined_15 : decode cX9_joined 15 = .ok (.iload_n 3, 1) := by decide +kernel
theorem dX9_joined_16 : decode cX9_joined 16 = .ok (.iload 4, 2) := by decide +kernel
theorem dX9_joined_18 : decode cX9_joined 18 = .ok (.invokevirtual 145, 3) := by decide +kernel
theorem dX9_joined_21 : decode cX9_joined 21 = .ok (.istore 6, 2) := by decide +kernel
theorem dX9_joined_23 : decode cX9_joined 23 = .ok (.iload_n 1, 1) := by decide +kernel
theorem dX9_joined_24 : decode cX9_joined 24 = .ok (.ifCond .ne 21, 3) := by decide +kernel
theorem dX9_joined_27 : decode cX9_joined 27 = .ok (.iload 5, 2) := by decide +kernel
theorem dX9_joined_29 : decode cX9_joined 29 = .ok (.ifCond .eq 12, 3) := by decide +kernel
theorem dX9_joined_32 : decode cX9_joined 32 = .ok (.iload 6, 2) := by decide +kernel
theorem dX9_joined_34 : decode cX9_joined 34 = .ok (.ifCond .eq 7, 3) := by decide +kernel
theorem dX9_joined_37 : decode cX9_joined 37 = .ok (.iconst 1, 1) := by decide +kernel
theorem dX9_joined_38 : decode cX9_joined 38 = .ok (.goto 45, 3) := by decide +kernel
theorem dX9_joined_41 : decode cX9_joined 41 = .ok (.iconst 0, 1) := by decide +kernel
theorem dX9_joined_42 : decode cX9_joined 42 = .ok (.goto 41, 3) := by decide +kernel
theorem dX9_joined_45 : decode cX9_joined 45 = .ok (.iload_n 1, 1) := by decide +kernel
theorem dX9_joined_46 : decode cX9_joined 46 = .ok (.iconst 1, 1) := by decide +kernel
theorem dX9_joined_47 : decode cX9_joined 47 = .ok (.if_icmp .ne 21, 3) := by decide +kernel
theorem dX9_joined_50 : decode cX9_joined 50 = .ok (.iload 5, 2) := by decide +kernel
theorem dX9_joined_52 : decode cX9_joined 52 = .ok (.ifCond .ne 8, 3) := by decide +kernel
theorem dX9_joined_55 : decode cX9_joined 55 = .ok (.iload 6, 2) := by decide +kernel
theorem dX9_joined_57 : decode cX9_joined 57 = .ok (.ifCond .eq 7, 3) := by decide +kernel
theorem dX9_joined_60 : decode cX9_joined 60 = .ok (.iconst 1, 1) := by decide +kernel
theorem dX9_joined_61 : decode cX9_joined 61 = .ok (.goto 22, 3) := by decide +kernel
theorem dX9_joined_64 : decode cX9_joined 64 = .ok (.iconst 0, 1) := by decide +kernel
theorem dX9_joined_65 : decode cX9_joined 65 = .ok (.goto 18, 3) := by decide +kernel
theorem dX9_joined_68 : decode cX9_joined 68 = .ok (.iload 5, 2) := by decide +kernel
theorem dX9_joined_70 : decode cX9_joined 70 = .ok (.ifCond .eq 12, 3) := by decide +kernel
theorem dX9_joined_73 : decode cX9_joined 73 = .ok (.iload 6, 2) := by decide +kernel
theorem dX9_joined_75 : decode cX9_joined 75 = .ok (.ifCond .ne 7, 3) := by decide +kernel
theorem dX9_joined_78 : decode cX9_joined 78 = .ok (.iconst 1, 1) := by decide +kernel
theorem dX9_joined_79 : decode cX9_joined 79 = .ok (.goto 4, 3) := by decide +kernel
theorem dX9_joined_82 : decode cX9_joined 82 = .ok (.iconst 0, 1) := by decide +kernel
theorem dX9_joined_83 : decode cX9_joined 83 = .ok (.ireturn, 1) := by decide +kernel
theorem dX9_joined_84 : decode cX9_joined 84 = .ok (.iload_n 1, 1) := by decide +kernel
theorem dX9_joined_85 : decode cX9_joined 85 = .ok (.iconst 4, 1) := by decide +kernel
theorem dX9_joined_86 : decode cX9_joined 86 = .ok (.if_icmp .ne 12, 3) := by decide +kernel
theorem dX9_joined_89 : decode cX9_joined 89 = .ok (.aload_n 0, 1) := by decide +kernel
theorem dX9_joined_90 : decode cX9_joined 90 = .ok (.iload_n 2, 1) := by decide +kernel
theorem dX9_joined_91 : decode cX9_joined 91 = .ok (.iload_n 3, 1) := by decide +kernel
theorem dX9_joined_92 : decode cX9_joined 92 = .ok (.iload 4, 2) := by decide +kernel
theorem dX9_joined_94 : decode cX9_joined 94 = .ok (.invokevirtual 148, 3) := by decide +kernel
theorem dX9_joined_97 : decode cX9_joined 97 = .ok (.ireturn, 1) := by decide +kernel
theorem dX9_joined_98 : decode cX9_joined 98 = .ok (.iconst 0, 1) := by decide +kernel
theorem dX9_joined_99 : decode cX9_joined 99 = .ok (.istore 5, 2) := by decide +kernel
theorem dX9_joined_101 : decode cX9_joined 101 = .ok (.iconst 0, 1) := by decide +kernel
theorem dX9_joined_102 : decode cX9_joined 102 = .ok (.istore 6, 2) := by decide +kernel
theorem dX9_joined_104 : decode cX9_joined 104 = .ok (.iload 5, 2) := by decide +kernel
theorem dX9_joined_106 : decode cX9_joined 106 = .ok (.ifCond .ne 73, 3) := by decide +kernel
theorem dX9_joined_109 : decode cX9_joined 109 = .ok (.iload 6, 2) := by decide +kernel
theorem dX9_joined_111 : decode cX9_joined 111 = .ok (.sipush 4096, 3) := by decide +kernel
theorem dX9_joined_114 : decode cX9_joined 114 = .ok (.if_icmp .ge 65, 3) := by decide +kernel
theorem dX9_joined_117 : decode cX9_joined 117 = .ok (.aload_n 0, 1) := by decide +kernel
theorem dX9_joined_118 : decode cX9_joined 118 = .ok (.iload_n 2, 1) := by decide +kernel
theorem dX9_joined_119 : decode cX9_joined 119 = .ok (.iload 4, 2) := by decide +kernel
theorem dX9_joined_121 : decode cX9_joined 121 = .ok (.invokevirtual 145, 3) := by decide +kernel
theorem dX9_joined_124 : decode cX9_joined 124 = .ok (.ifCond .eq 55, 3) := by decide +kernel
theorem dX9_joined_127 : decode cX9_joined 127 = .ok (.aload_n 0, 1) := by decide +kernel
theorem dX9_joined_128 : decode cX9_joined 128 = .ok (.iload_n 3, 1) := by decide +kernel
theorem dX9_joined_129 : decode cX9_joined 129 = .ok (.iload 6, 2) := by decide +kernel
theorem dX9_joined_131 : decode cX9_joined 131 = .ok (.invokevirtual 145, 3) := by decide +kernel
theorem dX9_joined_134 : decode cX9_joined 134 = .ok (.ifCond .eq 36, 3) := by decide +kernel
theorem dX9_joined_137 : decode cX9_joined 137 = .ok (.iload_n 1, 1) := by decide +kernel
theorem dX9_joined_138 : decode cX9_joined 138 = .ok (.bipush 6, 2) := by decide +kernel
theorem dX9_joined_140 : decode cX9_joined 140 = .ok (.if_icmp .ne 16, 3) := by decide +kernel
theorem dX9_joined_143 : decode cX9_joined 143 = .ok (.iload 6, 2) := by decide +kernel
theorem dX9_joined_145 : decode cX9_joined 145 = .ok (.iload 4, 2) := by decide +kernel
theorem dX9_joined_147 : decode cX9_joined 147 = .ok (.iconst (-1), 1) := by decide +kernel
theorem dX9_joined_148 : decode cX9_joined 148 = .ok (.ixor, 1) := by decide +kernel
theorem dX9_joined_149 : decode cX9_joined 149 = .ok (.iand, 1) := by decide +kernel
theorem dX9_joined_150 : decode cX9_joined 150 = .ok (.ifCond .ne 20, 3) := by decide +kernel
theorem dX9_joined_153 : decode cX9_joined 153 = .ok (.goto 13, 3) := by decide +kernel
theorem dX9_joined_156 : decode cX9_joined 156 = .ok (.iload 4, 2) := by decide +kernel
theorem dX9_joined_158 : decode cX9_joined 158 = .ok (.iload 6, 2) := by decide +kernel
theorem dX9_joined_160 : decode cX9_joined 160 = .ok (.iconst (-1), 1) := by decide +kernel
theorem dX9_joined_161 : decode cX9_joined 161 = .ok (.ixor, 1) := by decide +kernel
theorem dX9_joined_162 : decode cX9_joined 162 = .ok (.iand, 1) := by decide +kernel
theorem dX9_joined_163 : decode cX9_joined 163 = .ok (.ifCond .ne 7, 3) := by decide +kernel
theorem dX9_joined_166 : decode cX9_joined 166 = .ok (.iconst 1, 1) := by decide +kernel
theorem dX9_joined_167 : decode cX9_joined 167 = .ok (.goto 4, 3) := by decide +kernel
theorem dX9_joined_170 : decode cX9_joined 170 = .ok (.iconst 0, 1) := by decide +kernel
theorem dX9_joined_171 : decode cX9_joined 171 = .ok (.istore 5, 2) := by decide +kernel
theorem dX9_joined_173 : decode cX9_joined 173 = .ok (.iinc 6 1, 3) := by decide +kernel
theorem dX9_joined_176 : decode cX9_joined 176 = .ok (.goto (-72), 3) := by decide +kernel
theorem dX9_joined_179 : decode cX9_joined 179 = .ok (.iload 5, 2) := by decide +kernel
theorem dX9_joined_181 : decode cX9_joined 181 = .ok (.ireturn, 1) := by decide +kernel
theorem dX9_count0_0 : decode cX9_count0 0 = .ok (.iconst 0, 1) := by decide +kernel
theorem dX9_count0_1 : decode cX9_count0 1 = .ok (.istore_n 2, 1) := by decide +kernel
theorem dX9_count0_2 : decode cX9_count0 2 = .ok (.iconst 0, 1) := by decide +kernel
theorem dX9_count0_3 : decode cX9_count0 3 = .ok (.istore_n 3, 1) := by decide +kernel
theorem dX9_count0_4 : decode cX9_count0 4 = .ok (.iload_n 3, 1) := by decide +kernel
theorem dX9_count0_5 : decode cX9_count0 5 = .ok (.sipush 4096, 3) := by decide +kernel
theorem dX9_count0_8 : decode cX9_count0 8 = .ok (.if_icmp .ge 26, 3) := by decide +kernel
theorem dX9_count0_11 : decode cX9_count0 11 = .ok (.iload_n 2, 1) := by decide +kernel
theorem dX9_count0_12 : decode cX9_count0 12 = .ok (.aload_n 0, 1) := by decide +kernel
theorem dX9_count0_13 : decode cX9_count0 13 = .ok (.iload_n 1, 1) := by decide +kernel
theorem dX9_count0_14 : decode cX9_count0 14 = .ok (.iload_n 3, 1) := by decide +kernel
theorem dX9_count0_15 : decode cX9_count0 15 = .ok (.invokevirtual 145, 3) := by decide +kernel
theorem dX9_count0_18 : decode cX9_count0 18 = .ok (.ifCond .eq 7, 3) := by decide +kernel
theorem dX9_count0_21 : decode cX9_count0 21 = .ok (.iconst 1, 1) := by decide +kernel
theorem dX9_count0_22 : decode cX9_count0 22 = .ok (.goto 4, 3) := by decide +kernel
theorem dX9_count0_25 : decode cX9_count0 25 = .ok (.iconst 0, 1) := by decide +kernel
theorem dX9_count0_26 : decode cX9_count0 26 = .ok (.iadd, 1) := by decide +kernel
theorem dX9_count0_27 : decode cX9_count0 27 = .ok (.istore_n 2, 1) := by decide +kernel
theorem dX9_count0_28 : decode cX9_count0 28 = .ok (.iinc 3 1, 3) := by decide +kernel
theorem dX9_count0_31 : decode cX9_count0 31 = .ok (.goto (-27), 3) := by decide +kernel
theorem dX9_count0_34 : decode cX9_count0 34 = .ok (.iload_n 2, 1) := by decide +kernel
theorem dX9_count0_35 : decode cX9_count0 35 = .ok (.ireturn, 1) := by decide +kernel
theorem dX9_rest_0 : decode cX9_rest 0 = .ok (.iconst 0, 1) := by decide +kernel
theorem dX9_rest_1 : decode cX9_rest 1 = .ok (.istore_n 3, 1) := by decide +kernel
theorem dX9_rest_2 : decode cX9_rest 2 = .ok (.iload_n 3, 1) := by decide +kernel
theorem dX9_rest_3 : decode cX9_rest 3 = .ok (.sipush 4096, 3) := by decide +kernel
theorem dX9_rest_6 : decode cX9_rest 6 = .ok (.if_icmp .ge 34, 3) := by decide +kernel
theorem dX9_rest_9 : decode cX9_rest 9 = .ok (.aload_n 0, 1) := by decide +kernel
theorem dX9_rest_10 : decode cX9_rest 10 = .ok (.getfield 60, 3) := by decide +kernel
theorem dX9_rest_13 : decode cX9_rest 13 = .ok (.iload_n 3, 1) := by decide +kernel
theorem dX9_rest_14 : decode cX9_rest 14 = .ok (.aload_n 0, 1) := by decide +kernel
theorem dX9_rest_15 : decode cX9_rest 15 = .ok (.iload_n 1, 1) := by decide +kernel
theorem dX9_rest_16 : decode cX9_rest 16 = .ok (.iload_n 2, 1) := by decide +kernel
theorem dX9_rest_17 : decode cX9_rest 17 = .ok (.iload_n 3, 1) := by decide +kernel
theorem dX9_rest_18 : decode cX9_rest 18 = .ok (.invokevirtual 148, 3) := by decide +kernel
theorem dX9_rest_21 : decode cX9_rest 21 = .ok (.bastore, 1) := by decide +kernel
theorem dX9_rest_22 : decode cX9_rest 22 = .ok (.aload_n 0, 1) := by decide +kernel
theorem dX9_rest_23 : decode cX9_rest 23 = .ok (.getfield 57, 3) := by decide +kernel
theorem dX9_rest_26 : decode cX9_rest 26 = .ok (.iload_n 3, 1) := by decide +kernel
theorem dX9_rest_27 : decode cX9_rest 27 = .ok (.aload_n 0, 1) := by decide +kernel
theorem dX9_rest_28 : decode cX9_rest 28 = .ok (.iload_n 1, 1) := by decide +kernel
theorem dX9_rest_29 : decode cX9_rest 29 = .ok (.iload_n 3, 1) := by decide +kernel
theorem dX9_rest_30 : decode cX9_rest 30 = .ok (.invokevirtual 145, 3) := by decide +kernel
theorem dX9_rest_33 : decode cX9_rest 33 = .ok (.bastore, 1) := by decide +kernel
theorem dX9_rest_34 : decode cX9_rest 34 = .ok (.iinc 3 1, 3) := by decide +kernel
theorem dX9_rest_37 : decode cX9_rest 37 = .ok (.goto (-35), 3) := by decide +kernel
theorem dX9_rest_40 : decode cX9_rest 40 = .ok (.iconst 0, 1) := by decide +kernel
theorem dX9_rest_41 : decode cX9_rest 41 = .ok (.istore_n 3, 1) := by decide +kernel
theorem dX9_rest_42 : decode cX9_rest 42 = .ok (.iload_n 3, 1) := by decide +kernel
theorem dX9_rest_43 : decode cX9_rest 43 = .ok (.sipush 4096, 3) := by decide +kernel
theorem dX9_rest_46 : decode cX9_rest 46 = .ok (.if_icmp .ge 71, 3) := by decide +kernel
theorem dX9_rest_49 : decode cX9_rest 49 = .ok (.iconst 0, 1) := by decide +kernel
theorem dX9_rest_50 : decode cX9_rest 50 = .ok (.istore 4, 2) := by decide +kernel
theorem dX9_rest_52 : decode cX9_rest 52 = .ok (.aload_n 0, 1) := by decide +kernel
theorem dX9_rest_53 : decode cX9_rest 53 = .ok (.getfield 60, 3) := by decide +kernel
theorem dX9_rest_56 : decode cX9_rest 56 = .ok (.iload_n 3, 1) := by decide +kernel
theorem dX9_rest_57 : decode cX9_rest 57 = .ok (.baload, 1) := by decide +kernel
theorem dX9_rest_58 : decode cX9_rest 58 = .ok (.ifCond .eq 53, 3) := by decide +kernel
theorem dX9_rest_61 : decode cX9_rest 61 = .ok (.iload 4, 2) := by decide +kernel
theorem dX9_rest_63 : decode cX9_rest 63 = .ok (.sipush 4096, 3) := by decide +kernel
theorem dX9_rest_66 : decode cX9_rest 66 = .ok (.if_icmp .ge 45, 3) := by decide +kernel
theorem dX9_rest_69 : decode cX9_rest 69 = .ok (.aload_n 0, 1) := by decide +kernel
theorem dX9_rest_70 : decode cX9_rest 70 = .ok (.getfield 57, 3) := by decide +kernel
theorem dX9_rest_73 : decode cX9_rest 73 = .ok (.iload_n 3, 1) := by decide +kernel
theorem dX9_rest_74 : decode cX9_rest 74 = .ok (.iload 4, 2) := by decide +kernel
theorem dX9_rest_76 : decode cX9_rest 76 = .ok (.ior, 1) := by decide +kernel
theorem dX9_rest_77 : decode cX9_rest 77 = .ok (.aload_n 0, 1) := by decide +kernel
theorem dX9_rest_78 : decode cX9_rest 78 = .ok (.getfield 57, 3) := by decide +kernel
theorem dX9_rest_81 : decode cX9_rest 81 = .ok (.iload_n 3, 1) := by decide +kernel
theorem dX9_rest_82 : decode cX9_rest 82 = .ok (.iload 4, 2) := by decide +kernel
theorem dX9_rest_84 : decode cX9_rest 84 = .ok (.ior, 1) := by decide +kernel
theorem dX9_rest_85 : decode cX9_rest 85 = .ok (.baload, 1) := by decide +kernel
theorem dX9_rest_86 : decode cX9_rest 86 = .ok (.ifCond .eq 17, 3) := by decide +kernel
theorem dX9_rest_89 : decode cX9_rest 89 = .ok (.aload_n 0, 1) := by decide +kernel
theorem dX9_rest_90 : decode cX9_rest 90 = .ok (.iload_n 2, 1) := by decide +kernel
theorem dX9_rest_91 : decode cX9_rest 91 = .ok (.iload 4, 2) := by decide +kernel
theorem dX9_rest_93 : decode cX9_rest 93 = .ok (.invokevirtual 145, 3) := by decide +kernel
theorem dX9_rest_96 : decode cX9_rest 96 = .ok (.ifCond .ne 7, 3) := by decide +kernel
theorem dX9_rest_99 : decode cX9_rest 99 = .ok (.iconst 1, 1) := by decide +kernel
theorem dX9_rest_100 : decode cX9_rest 100 = .ok (.goto 4, 3) := by decide +kernel
theorem dX9_rest_103 : decode cX9_rest 103 = .ok (.iconst 0, 1) := by decide +kernel
theorem dX9_rest_104 : decode cX9_rest 104 = .ok (.bastore, 1) := by decide +kernel
theorem dX9_rest_105 : decode cX9_rest 105 = .ok (.iinc 4 1, 3) := by decide +kernel
theorem dX9_rest_108 : decode cX9_rest 108 = .ok (.goto (-56), 3) := by decide +kernel
theorem dX9_rest_111 : decode cX9_rest 111 = .ok (.iinc 3 1, 3) := by decide +kernel
theorem dX9_rest_114 : decode cX9_rest 114 = .ok (.goto (-72), 3) := by decide +kernel
theorem dX9_rest_117 : decode cX9_rest 117 = .ok (.return_, 1) := by decide +kernel
theorem dX9_unions_0 : decode cX9_unions 0 = .ok (.iconst 0, 1) := by decide +kernel
theorem dX9_unions_1 : decode cX9_unions 1 = .ok (.istore_n 3, 1) := by decide +kernel
theorem dX9_unions_2 : decode cX9_unions 2 = .ok (.iload_n 3, 1) := by decide +kernel
theorem dX9_unions_3 : decode cX9_unions 3 = .ok (.sipush 4096, 3) := by decide +kernel
theorem dX9_unions_6 : decode cX9_unions 6 = .ok (.if_icmp .ge 16, 3) := by decide +kernel
theorem dX9_unions_9 : decode cX9_unions 9 = .ok (.aload_n 0, 1) := by decide +kernel
theorem dX9_unions_10 : decode cX9_unions 10 = .ok (.getfield 57, 3) := by decide +kernel
theorem dX9_unions_13 : decode cX9_unions 13 = .ok (.iload_n 3, 1) := by decide +kernel
theorem dX9_unions_14 : decode cX9_unions 14 = .ok (.iconst 0, 1) := by decide +kernel
theorem dX9_unions_15 : decode cX9_unions 15 = .ok (.bastore, 1) := by decide +kernel
theorem dX9_unions_16 : decode cX9_unions 16 = .ok (.iinc 3 1, 3) := by decide +kernel
theorem dX9_unions_19 : decode cX9_unions 19 = .ok (.goto (-17), 3) := by decide +kernel
theorem dX9_unions_22 : decode cX9_unions 22 = .ok (.iconst 0, 1) := by decide +kernel
theorem dX9_unions_23 : decode cX9_unions 23 = .ok (.istore_n 3, 1) := by decide +kernel
theorem dX9_unions_24 : decode cX9_unions 24 = .ok (.iload_n 3, 1) := by decide +kernel
theorem dX9_unions_25 : decode cX9_unions 25 = .ok (.sipush 4096, 3) := by decide +kernel
theorem dX9_unions_28 : decode cX9_unions 28 = .ok (.if_icmp .ge 71, 3) := by decide +kernel
theorem dX9_unions_31 : decode cX9_unions 31 = .ok (.iconst 0, 1) := by decide +kernel
theorem dX9_unions_32 : decode cX9_unions 32 = .ok (.istore 4, 2) := by decide +kernel
theorem dX9_unions_34 : decode cX9_unions 34 = .ok (.aload_n 0, 1) := by decide +kernel
theorem dX9_unions_35 : decode cX9_unions 35 = .ok (.iload_n 1, 1) := by decide +kernel
theorem dX9_unions_36 : decode cX9_unions 36 = .ok (.iload_n 3, 1) := by decide +kernel
theorem dX9_unions_37 : decode cX9_unions 37 = .ok (.invokevirtual 145, 3) := by decide +kernel
theorem dX9_unions_40 : decode cX9_unions 40 = .ok (.ifCond .eq 53, 3) := by decide +kernel
theorem dX9_unions_43 : decode cX9_unions 43 = .ok (.iload 4, 2) := by decide +kernel
theorem dX9_unions_45 : decode cX9_unions 45 = .ok (.sipush 4096, 3) := by decide +kernel
theorem dX9_unions_48 : decode cX9_unions 48 = .ok (.if_icmp .ge 45, 3) := by decide +kernel
theorem dX9_unions_51 : decode cX9_unions 51 = .ok (.aload_n 0, 1) := by decide +kernel
theorem dX9_unions_52 : decode cX9_unions 52 = .ok (.getfield 57, 3) := by decide +kernel
theorem dX9_unions_55 : decode cX9_unions 55 = .ok (.iload_n 3, 1) := by decide +kernel
theorem dX9_unions_56 : decode cX9_unions 56 = .ok (.iload 4, 2) := by decide +kernel
theorem dX9_unions_58 : decode cX9_unions 58 = .ok (.ior, 1) := by decide +kernel
theorem dX9_unions_59 : decode cX9_unions 59 = .ok (.aload_n 0, 1) := by decide +kernel
theorem dX9_unions_60 : decode cX9_unions 60 = .ok (.getfield 57, 3) := by decide +kernel
theorem dX9_unions_63 : decode cX9_unions 63 = .ok (.iload_n 3, 1) := by decide +kernel
theorem dX9_unions_64 : decode cX9_unions 64 = .ok (.iload 4, 2) := by decide +kernel
theorem dX9_unions_66 : decode cX9_unions 66 = .ok (.ior, 1) := by decide +kernel
theorem dX9_unions_67 : decode cX9_unions 67 = .ok (.baload, 1) := by decide +kernel
theorem dX9_unions_68 : decode cX9_unions 68 = .ok (.ifCond .ne 13, 3) := by decide +kernel
theorem dX9_unions_71 : decode cX9_unions 71 = .ok (.aload_n 0, 1) := by decide +kernel
theorem dX9_unions_72 : decode cX9_unions 72 = .ok (.iload_n 2, 1) := by decide +kernel
theorem dX9_unions_73 : decode cX9_unions 73 = .ok (.iload 4, 2) := by decide +kernel
theorem dX9_unions_75 : decode cX9_unions 75 = .ok (.invokevirtual 145, 3) := by decide +kernel
theorem dX9_unions_78 : decode cX9_unions 78 = .ok (.ifCond .eq 7, 3) := by decide +kernel
theorem dX9_unions_81 : decode cX9_unions 81 = .ok (.iconst 1, 1) := by decide +kernel
theorem dX9_unions_82 : decode cX9_unions 82 = .ok (.goto 4, 3) := by decide +kernel
theorem dX9_unions_85 : decode cX9_unions 85 = .ok (.iconst 0, 1) := by decide +kernel
theorem dX9_unions_86 : decode cX9_unions 86 = .ok (.bastore, 1) := by decide +kernel
theorem dX9_unions_87 : decode cX9_unions 87 = .ok (.iinc 4 1, 3) := by decide +kernel
theorem dX9_unions_90 : decode cX9_unions 90 = .ok (.goto (-56), 3) := by decide +kernel
theorem dX9_unions_93 : decode cX9_unions 93 = .ok (.iinc 3 1, 3) := by decide +kernel
theorem dX9_unions_96 : decode cX9_unions 96 = .ok (.goto (-72), 3) := by decide +kernel
theorem dX9_unions_99 : decode cX9_unions 99 = .ok (.return_, 1) := by decide +kernel
theorem dX9_join_0 : decode cX9_join 0 = .ok (.iload_n 1, 1) := by decide +kernel
theorem dX9_join_1 : decode cX9_join 1 = .ok (.iconst 0, 1) := by decide +kernel
theorem dX9_join_2 : decode cX9_join 2 = .ok (.bipush 7, 2) := by decide +kernel
theorem dX9_join_4 : decode cX9_join 4 = .ok (.invokestatic 91, 3) := by decide +kernel
theorem dX9_join_7 : decode cX9_join 7 = .ok (.ifCond .eq 19, 3) := by decide +kernel
theorem dX9_join_10 : decode cX9_join 10 = .ok (.aload_n 0, 1) := by decide +kernel
theorem dX9_join_11 : decode cX9_join 11 = .ok (.iload_n 2, 1) := by decide +kernel
theorem dX9_join_12 : decode cX9_join 12 = .ok (.invokevirtual 142, 3) := by decide +kernel
theorem dX9_join_15 : decode cX9_join 15 = .ok (.ifCond .eq 11, 3) := by decide +kernel
theorem dX9_join_18 : decode cX9_join 18 = .ok (.aload_n 0, 1) := by decide +kernel
theorem dX9_join_19 : decode cX9_join 19 = .ok (.iload_n 3, 1) := by decide +kernel
theorem dX9_join_20 : decode cX9_join 20 = .ok (.invokevirtual 142, 3) := by decide +kernel
theorem dX9_join_23 : decode cX9_join 23 = .ok (.ifCond .ne 6, 3) := by decide +kernel
theorem dX9_join_26 : decode cX9_join 26 = .ok (.bipush (-2), 2) := by decide +kernel
theorem dX9_join_28 : decode cX9_join 28 = .ok (.ireturn, 1) := by decide +kernel
theorem dX9_join_29 : decode cX9_join 29 = .ok (.iload_n 1, 1) := by decide +kernel
theorem dX9_join_30 : decode cX9_join 30 = .ok (.iconst 4, 1) := by decide +kernel
theorem dX9_join_31 : decode cX9_join 31 = .ok (.if_icmp .eq 8, 3) := by decide +kernel
theorem dX9_join_34 : decode cX9_join 34 = .ok (.iload_n 1, 1) := by decide +kernel
theorem dX9_join_35 : decode cX9_join 35 = .ok (.iconst 5, 1) := by decide +kernel
theorem dX9_join_36 : decode cX9_join 36 = .ok (.if_icmp .ne 14, 3) := by decide +kernel
theorem dX9_join_39 : decode cX9_join 39 = .ok (.aload_n 0, 1) := by decide +kernel
theorem dX9_join_40 : decode cX9_join 40 = .ok (.iload_n 3, 1) := by decide +kernel
theorem dX9_join_41 : decode cX9_join 41 = .ok (.invokevirtual 151, 3) := by decide +kernel
theorem dX9_join_44 : decode cX9_join 44 = .ok (.ifCond .ne 6, 3) := by decide +kernel
theorem dX9_join_47 : decode cX9_join 47 = .ok (.bipush (-3), 2) := by decide +kernel
theorem dX9_join_49 : decode cX9_join 49 = .ok (.ireturn, 1) := by decide +kernel
theorem dX9_join_50 : decode cX9_join 50 = .ok (.iload_n 1, 1) := by decide +kernel
theorem dX9_join_51 : decode cX9_join 51 = .ok (.iconst 3, 1) := by decide +kernel
theorem dX9_join_52 : decode cX9_join 52 = .ok (.if_icmp .ne 12, 3) := by decide +kernel
theorem dX9_join_55 : decode cX9_join 55 = .ok (.aload_n 0, 1) := by decide +kernel
theorem dX9_join_56 : decode cX9_join 56 = .ok (.iload_n 2, 1) := by decide +kernel
theorem dX9_join_57 : decode cX9_join 57 = .ok (.iload_n 3, 1) := by decide +kernel
theorem dX9_join_58 : decode cX9_join 58 = .ok (.invokevirtual 154, 3) := by decide +kernel
theorem dX9_join_61 : decode cX9_join 61 = .ok (.goto 50, 3) := by decide +kernel
theorem dX9_join_64 : decode cX9_join 64 = .ok (.iload_n 1, 1) := by decide +kernel
theorem dX9_join_65 : decode cX9_join 65 = .ok (.iconst 5, 1) := by decide +kernel
theorem dX9_join_66 : decode cX9_join 66 = .ok (.if_icmp .ne 12, 3) := by decide +kernel
theorem dX9_join_69 : decode cX9_join 69 = .ok (.aload_n 0, 1) := by decide +kernel
theorem dX9_join_70 : decode cX9_join 70 = .ok (.iload_n 2, 1) := by decide +kernel
theorem dX9_join_71 : decode cX9_join 71 = .ok (.iload_n 3, 1) := by decide +kernel
theorem dX9_join_72 : decode cX9_join 72 = .ok (.invokevirtual 158, 3) := by decide +kernel
theorem dX9_join_75 : decode cX9_join 75 = .ok (.goto 36, 3) := by decide +kernel
theorem dX9_join_78 : decode cX9_join 78 = .ok (.iconst 0, 1) := by decide +kernel
theorem dX9_join_79 : decode cX9_join 79 = .ok (.istore 4, 2) := by decide +kernel
theorem dX9_join_81 : decode cX9_join 81 = .ok (.iload 4, 2) := by decide +kernel
theorem dX9_join_83 : decode cX9_join 83 = .ok (.sipush 4096, 3) := by decide +kernel
theorem dX9_join_86 : decode cX9_join 86 = .ok (.if_icmp .ge 25, 3) := by decide +kernel
theorem dX9_join_89 : decode cX9_join 89 = .ok (.aload_n 0, 1) := by decide +kernel
theorem dX9_join_90 : decode cX9_join 90 = .ok (.getfield 57, 3) := by decide +kernel
theorem dX9_join_93 : decode cX9_join 93 = .ok (.iload 4, 2) := by decide +kernel
theorem dX9_join_95 : decode cX9_join 95 = .ok (.aload_n 0, 1) := by decide +kernel
theorem dX9_join_96 : decode cX9_join 96 = .ok (.iload_n 1, 1) := by decide +kernel
theorem dX9_join_97 : decode cX9_join 97 = .ok (.iload_n 2, 1) := by decide +kernel
theorem dX9_join_98 : decode cX9_join 98 = .ok (.iload_n 3, 1) := by decide +kernel
theorem dX9_join_99 : decode cX9_join 99 = .ok (.iload 4, 2) := by decide +kernel
theorem dX9_join_101 : decode cX9_join 101 = .ok (.invokevirtual 161, 3) := by decide +kernel
theorem dX9_join_104 : decode cX9_join 104 = .ok (.bastore, 1) := by decide +kernel
theorem dX9_join_105 : decode cX9_join 105 = .ok (.iinc 4 1, 3) := by decide +kernel
theorem dX9_join_108 : decode cX9_join 108 = .ok (.goto (-27), 3) := by decide +kernel
theorem dX9_join_111 : decode cX9_join 111 = .ok (.aload_n 0, 1) := by decide +kernel
theorem dX9_join_112 : decode cX9_join 112 = .ok (.invokevirtual 164, 3) := by decide +kernel
theorem dX9_join_115 : decode cX9_join 115 = .ok (.ireturn, 1) := by decide +kernel
theorem dX9_isThin_0 : decode cX9_isThin 0 = .ok (.aload_n 0, 1) := by decide +kernel
theorem dX9_isThin_1 : decode cX9_isThin 1 = .ok (.iload_n 1, 1) := by decide +kernel
theorem dX9_isThin_2 : decode cX9_isThin 2 = .ok (.iload_n 2, 1) := by decide +kernel
theorem dX9_isThin_3 : decode cX9_isThin 3 = .ok (.invokevirtual 145, 3) := by decide +kernel
theorem dX9_isThin_6 : decode cX9_isThin 6 = .ok (.istore 4, 2) := by decide +kernel
theorem dX9_isThin_8 : decode cX9_isThin 8 = .ok (.iconst 0, 1) := by decide +kernel
theorem dX9_isThin_9 : decode cX9_isThin 9 = .ok (.istore 5, 2) := by decide +kernel
theorem dX9_isThin_11 : decode cX9_isThin 11 = .ok (.iload 4, 2) := by decide +kernel
theorem dX9_isThin_13 : decode cX9_isThin 13 = .ok (.ifCond .eq 65, 3) := by decide +kernel
theorem dX9_isThin_16 : decode cX9_isThin 16 = .ok (.iload 5, 2) := by decide +kernel
theorem dX9_isThin_18 : decode cX9_isThin 18 = .ok (.sipush 4096, 3) := by decide +kernel
theorem dX9_isThin_21 : decode cX9_isThin 21 = .ok (.if_icmp .ge 57, 3) := by decide +kernel
theorem dX9_isThin_24 : decode cX9_isThin 24 = .ok (.iload 5, 2) := by decide +kernel
theorem dX9_isThin_26 : decode cX9_isThin 26 = .ok (.iload_n 2, 1) := by decide +kernel
theorem dX9_isThin_27 : decode cX9_isThin 27 = .ok (.if_icmp .eq 38, 3) := by decide +kernel
theorem dX9_isThin_30 : decode cX9_isThin 30 = .ok (.aload_n 0, 1) := by decide +kernel
theorem dX9_isThin_31 : decode cX9_isThin 31 = .ok (.iload_n 1, 1) := by decide +kernel
theorem dX9_isThin_32 : decode cX9_isThin 32 = .ok (.iload 5, 2) := by decide +kernel
theorem dX9_isThin_34 : decode cX9_isThin 34 = .ok (.invokevirtual 145, 3) := by decide +kernel
theorem dX9_isThin_37 : decode cX9_isThin 37 = .ok (.ifCond .eq 28, 3) := by decide +kernel
theorem dX9_isThin_40 : decode cX9_isThin 40 = .ok (.iload_n 3, 1) := by decide +kernel
theorem dX9_isThin_41 : decode cX9_isThin 41 = .ok (.ifCond .eq 15, 3) := by decide +kernel
theorem dX9_isThin_44 : decode cX9_isThin 44 = .ok (.iload 5, 2) := by decide +kernel
theorem dX9_isThin_46 : decode cX9_isThin 46 = .ok (.iload_n 2, 1) := by decide +kernel
theorem dX9_isThin_47 : decode cX9_isThin 47 = .ok (.iconst (-1), 1) := by decide +kernel
theorem dX9_isThin_48 : decode cX9_isThin 48 = .ok (.ixor, 1) := by decide +kernel
theorem dX9_isThin_49 : decode cX9_isThin 49 = .ok (.iand, 1) := by decide +kernel
theorem dX9_isThin_50 : decode cX9_isThin 50 = .ok (.ifCond .eq 19, 3) := by decide +kernel
theorem dX9_isThin_53 : decode cX9_isThin 53 = .ok (.goto 12, 3) := by decide +kernel
theorem dX9_isThin_56 : decode cX9_isThin 56 = .ok (.iload_n 2, 1) := by decide +kernel
theorem dX9_isThin_57 : decode cX9_isThin 57 = .ok (.iload 5, 2) := by decide +kernel
theorem dX9_isThin_59 : decode cX9_isThin 59 = .ok (.iconst (-1), 1) := by decide +kernel
theorem dX9_isThin_60 : decode cX9_isThin 60 = .ok (.ixor, 1) := by decide +kernel
theorem dX9_isThin_61 : decode cX9_isThin 61 = .ok (.iand, 1) := by decide +kernel
theorem dX9_isThin_62 : decode cX9_isThin 62 = .ok (.ifCond .eq 7, 3) := by decide +kernel
theorem dX9_isThin_65 : decode cX9_isThin 65 = .ok (.iconst 1, 1) := by decide +kernel
theorem dX9_isThin_66 : decode cX9_isThin 66 = .ok (.goto 4, 3) := by decide +kernel
theorem dX9_isThin_69 : decode cX9_isThin 69 = .ok (.iconst 0, 1) := by decide +kernel
theorem dX9_isThin_70 : decode cX9_isThin 70 = .ok (.istore 4, 2) := by decide +kernel
theorem dX9_isThin_72 : decode cX9_isThin 72 = .ok (.iinc 5 1, 3) := by decide +kernel
theorem dX9_isThin_75 : decode cX9_isThin 75 = .ok (.goto (-64), 3) := by decide +kernel
theorem dX9_isThin_78 : decode cX9_isThin 78 = .ok (.iload 4, 2) := by decide +kernel
theorem dX9_isThin_80 : decode cX9_isThin 80 = .ok (.ireturn, 1) := by decide +kernel
theorem dX9_meets_0 : decode cX9_meets 0 = .ok (.iconst 1, 1) := by decide +kernel
theorem dX9_meets_1 : decode cX9_meets 1 = .ok (.istore_n 3, 1) := by decide +kernel
theorem dX9_meets_2 : decode cX9_meets 2 = .ok (.iconst 0, 1) := by decide +kernel
theorem dX9_meets_3 : decode cX9_meets 3 = .ok (.istore 4, 2) := by decide +kernel
theorem dX9_meets_5 : decode cX9_meets 5 = .ok (.iload_n 3, 1) := by decide +kernel
theorem dX9_meets_6 : decode cX9_meets 6 = .ok (.ifCond .eq 40, 3) := by decide +kernel
theorem dX9_meets_9 : decode cX9_meets 9 = .ok (.iload 4, 2) := by decide +kernel
theorem dX9_meets_11 : decode cX9_meets 11 = .ok (.sipush 4096, 3) := by decide +kernel
theorem dX9_meets_14 : decode cX9_meets 14 = .ok (.if_icmp .ge 32, 3) := by decide +kernel
theorem dX9_meets_17 : decode cX9_meets 17 = .ok (.aload_n 0, 1) := by decide +kernel
theorem dX9_meets_18 : decode cX9_meets 18 = .ok (.iload_n 1, 1) := by decide +kernel
theorem dX9_meets_19 : decode cX9_meets 19 = .ok (.iload 4, 2) := by decide +kernel
theorem dX9_meets_21 : decode cX9_meets 21 = .ok (.invokevirtual 145, 3) := by decide +kernel
theorem dX9_meets_24 : decode cX9_meets 24 = .ok (.ifCond .eq 10, 3) := by decide +kernel
theorem dX9_meets_27 : decode cX9_meets 27 = .ok (.iload 4, 2) := by decide +kernel
theorem dX9_meets_29 : decode cX9_meets 29 = .ok (.iload_n 2, 1) := by decide +kernel
theorem dX9_meets_30 : decode cX9_meets 30 = .ok (.iand, 1) := by decide +kernel
theorem dX9_meets_31 : decode cX9_meets 31 = .ok (.ifCond .eq 7, 3) := by decide +kernel
theorem dX9_meets_34 : decode cX9_meets 34 = .ok (.iconst 1, 1) := by decide +kernel
theorem dX9_meets_35 : decode cX9_meets 35 = .ok (.goto 4, 3) := by decide +kernel
theorem dX9_meets_38 : decode cX9_meets 38 = .ok (.iconst 0, 1) := by decide +kernel
theorem dX9_meets_39 : decode cX9_meets 39 = .ok (.istore_n 3, 1) := by decide +kernel
theorem dX9_meets_40 : decode cX9_meets 40 = .ok (.iinc 4 1, 3) := by decide +kernel
theorem dX9_meets_43 : decode cX9_meets 43 = .ok (.goto (-38), 3) := by decide +kernel
theorem dX9_meets_46 : decode cX9_meets 46 = .ok (.iload_n 3, 1) := by decide +kernel
theorem dX9_meets_47 : decode cX9_meets 47 = .ok (.ireturn, 1) := by decide +kernel
theorem dX9_isLeastMeeting_0 : decode cX9_isLeastMeeting 0 = .ok (.aload_n 0, 1) := by decide +kernel
theorem dX9_isLeastMeeting_1 : decode cX9_isLeastMeeting 1 = .ok (.iload_n 1, 1) := by decide +kernel
theorem dX9_isLeastMeeting_2 : decode cX9_isLeastMeeting 2 = .ok (.iload_n 2, 1) := by decide +kernel
theorem dX9_isLeastMeeting_3 : decode cX9_isLeastMeeting 3 = .ok (.invokevirtual 167, 3) := by decide +kernel
theorem dX9_isLeastMeeting_6 : decode cX9_isLeastMeeting 6 = .ok (.istore_n 3, 1) := by decide +kernel
theorem dX9_isLeastMeeting_7 : decode cX9_isLeastMeeting 7 = .ok (.iconst 0, 1) := by decide +kernel
theorem dX9_isLeastMeeting_8 : decode cX9_isLeastMeeting 8 = .ok (.istore 4, 2) := by decide +kernel
theorem dX9_isLeastMeeting_10 : decode cX9_isLeastMeeting 10 = .ok (.iload_n 3, 1) := by decide +kernel
theorem dX9_isLeastMeeting_11 : decode cX9_isLeastMeeting 11 = .ok (.ifCond .eq 49, 3) := by decide +kernel
theorem dX9_isLeastMeeting_14 : decode cX9_isLeastMeeting 14 = .ok (.iload 4, 2) := by decide +kernel
theorem dX9_isLeastMeeting_16 : decode cX9_isLeastMeeting 16 = .ok (.aload_n 0, 1) := by decide +kernel
theorem dX9_isLeastMeeting_17 : decode cX9_isLeastMeeting 17 = .ok (.getfield 98, 3) := by decide +kernel
theorem dX9_isLeastMeeting_20 : decode cX9_isLeastMeeting 20 = .ok (.if_icmp .ge 40, 3) := by decide +kernel
theorem dX9_isLeastMeeting_23 : decode cX9_isLeastMeeting 23 = .ok (.iload_n 2, 1) := by decide +kernel
theorem dX9_isLeastMeeting_24 : decode cX9_isLeastMeeting 24 = .ok (.iload 4, 2) := by decide +kernel
theorem dX9_isLeastMeeting_26 : decode cX9_isLeastMeeting 26 = .ok (.invokestatic 101, 3) := by decide +kernel
theorem dX9_isLeastMeeting_29 : decode cX9_isLeastMeeting 29 = .ok (.ifCond .eq 19, 3) := by decide +kernel
theorem dX9_isLeastMeeting_32 : decode cX9_isLeastMeeting 32 = .ok (.aload_n 0, 1) := by decide +kernel
theorem dX9_isLeastMeeting_33 : decode cX9_isLeastMeeting 33 = .ok (.iload_n 1, 1) := by decide +kernel
theorem dX9_isLeastMeeting_34 : decode cX9_isLeastMeeting 34 = .ok (.iload_n 2, 1) := by decide +kernel
theorem dX9_isLeastMeeting_35 : decode cX9_isLeastMeeting 35 = .ok (.iconst 1, 1) := by decide +kernel
theorem dX9_isLeastMeeting_36 : decode cX9_isLeastMeeting 36 = .ok (.iload 4, 2) := by decide +kernel
theorem dX9_isLeastMeeting_38 : decode cX9_isLeastMeeting 38 = .ok (.ishl, 1) := by decide +kernel
theorem dX9_isLeastMeeting_39 : decode cX9_isLeastMeeting 39 = .ok (.iconst (-1), 1) := by decide +kernel
theorem dX9_isLeastMeeting_40 : decode cX9_isLeastMeeting 40 = .ok (.ixor, 1) := by decide +kernel
theorem dX9_isLeastMeeting_41 : decode cX9_isLeastMeeting 41 = .ok (.iand, 1) := by decide +kernel
theorem dX9_isLeastMeeting_42 : decode cX9_isLeastMeeting 42 = .ok (.invokevirtual 167, 3) := by decide +kernel
theorem dX9_isLeastMeeting_45 : decode cX9_isLeastMeeting 45 = .ok (.ifCond .ne 7, 3) := by decide +kernel
theorem dX9_isLeastMeeting_48 : decode cX9_isLeastMeeting 48 = .ok (.iconst 1, 1) := by decide +kernel
theorem dX9_isLeastMeeting_49 : decode cX9_isLeastMeeting 49 = .ok (.goto 4, 3) := by decide +kernel
theorem dX9_isLeastMeeting_52 : decode cX9_isLeastMeeting 52 = .ok (.iconst 0, 1) := by decide +kernel
theorem dX9_isLeastMeeting_53 : decode cX9_isLeastMeeting 53 = .ok (.istore_n 3, 1) := by decide +kernel
theorem dX9_isLeastMeeting_54 : decode cX9_isLeastMeeting 54 = .ok (.iinc 4 1, 3) := by decide +kernel
theorem dX9_isLeastMeeting_57 : decode cX9_isLeastMeeting 57 = .ok (.goto (-47), 3) := by decide +kernel
theorem dX9_isLeastMeeting_60 : decode cX9_isLeastMeeting 60 = .ok (.iload_n 3, 1) := by decide +kernel
theorem dX9_isLeastMeeting_61 : decode cX9_isLeastMeeting 61 = .ok (.ireturn, 1) := by decide +kernel
theorem dX9_thin_0 : decode cX9_thin 0 = .ok (.iload_n 1, 1) := by decide +kernel
theorem dX9_thin_1 : decode cX9_thin 1 = .ok (.iconst 0, 1) := by decide +kernel
theorem dX9_thin_2 : decode cX9_thin 2 = .ok (.iconst 2, 1) := by decide +kernel
theorem dX9_thin_3 : decode cX9_thin 3 = .ok (.invokestatic 91, 3) := by decide +kernel
theorem dX9_thin_6 : decode cX9_thin 6 = .ok (.ifCond .eq 11, 3) := by decide +kernel
theorem dX9_thin_9 : decode cX9_thin 9 = .ok (.aload_n 0, 1) := by decide +kernel
theorem dX9_thin_10 : decode cX9_thin 10 = .ok (.iload_n 2, 1) := by decide +kernel
theorem dX9_thin_11 : decode cX9_thin 11 = .ok (.invokevirtual 142, 3) := by decide +kernel
theorem dX9_thin_14 : decode cX9_thin 14 = .ok (.ifCond .ne 6, 3) := by decide +kernel
theorem dX9_thin_17 : decode cX9_thin 17 = .ok (.bipush (-2), 2) := by decide +kernel
theorem dX9_thin_19 : decode cX9_thin 19 = .ok (.ireturn, 1) := by decide +kernel
theorem dX9_thin_20 : decode cX9_thin 20 = .ok (.aload_n 0, 1) := by decide +kernel
theorem dX9_thin_21 : decode cX9_thin 21 = .ok (.invokevirtual 112, 3) := by decide +kernel
theorem dX9_thin_24 : decode cX9_thin 24 = .ok (.istore_n 3, 1) := by decide +kernel
theorem dX9_thin_25 : decode cX9_thin 25 = .ok (.iload_n 3, 1) := by decide +kernel
theorem dX9_thin_26 : decode cX9_thin 26 = .ok (.sipush 4096, 3) := by decide +kernel
theorem dX9_thin_29 : decode cX9_thin 29 = .ok (.if_icmp .ge 26, 3) := by decide +kernel
theorem dX9_thin_32 : decode cX9_thin 32 = .ok (.iload_n 1, 1) := by decide +kernel
theorem dX9_thin_33 : decode cX9_thin 33 = .ok (.iconst 2, 1) := by decide +kernel
theorem dX9_thin_34 : decode cX9_thin 34 = .ok (.if_icmp .ne 21, 3) := by decide +kernel
theorem dX9_thin_37 : decode cX9_thin 37 = .ok (.aload_n 0, 1) := by decide +kernel
theorem dX9_thin_38 : decode cX9_thin 38 = .ok (.iload_n 2, 1) := by decide +kernel
theorem dX9_thin_39 : decode cX9_thin 39 = .ok (.iload_n 3, 1) := by decide +kernel
theorem dX9_thin_40 : decode cX9_thin 40 = .ok (.invokevirtual 145, 3) := by decide +kernel
theorem dX9_thin_43 : decode cX9_thin 43 = .ok (.ifCond .eq 6, 3) := by decide +kernel
theorem dX9_thin_46 : decode cX9_thin 46 = .ok (.bipush (-3), 2) := by decide +kernel
theorem dX9_thin_48 : decode cX9_thin 48 = .ok (.ireturn, 1) := by decide +kernel
theorem dX9_thin_49 : decode cX9_thin 49 = .ok (.iinc 3 1, 3) := by decide +kernel
theorem dX9_thin_52 : decode cX9_thin 52 = .ok (.goto (-27), 3) := by decide +kernel
theorem dX9_thin_55 : decode cX9_thin 55 = .ok (.iconst 0, 1) := by decide +kernel
theorem dX9_thin_56 : decode cX9_thin 56 = .ok (.istore_n 3, 1) := by decide +kernel
theorem dX9_thin_57 : decode cX9_thin 57 = .ok (.iload_n 3, 1) := by decide +kernel
theorem dX9_thin_58 : decode cX9_thin 58 = .ok (.sipush 4096, 3) := by decide +kernel
theorem dX9_thin_61 : decode cX9_thin 61 = .ok (.if_icmp .ge 60, 3) := by decide +kernel
theorem dX9_thin_64 : decode cX9_thin 64 = .ok (.aload_n 0, 1) := by decide +kernel
theorem dX9_thin_65 : decode cX9_thin 65 = .ok (.getfield 57, 3) := by decide +kernel
theorem dX9_thin_68 : decode cX9_thin 68 = .ok (.iload_n 3, 1) := by decide +kernel
theorem dX9_thin_69 : decode cX9_thin 69 = .ok (.iload_n 1, 1) := by decide +kernel
theorem dX9_thin_70 : decode cX9_thin 70 = .ok (.iconst 2, 1) := by decide +kernel
theorem dX9_thin_71 : decode cX9_thin 71 = .ok (.if_icmp .ne 28, 3) := by decide +kernel
theorem dX9_thin_74 : decode cX9_thin 74 = .ok (.iload_n 3, 1) := by decide +kernel
theorem dX9_thin_75 : decode cX9_thin 75 = .ok (.aload_n 0, 1) := by decide +kernel
theorem dX9_thin_76 : decode cX9_thin 76 = .ok (.invokevirtual 112, 3) := by decide +kernel
theorem dX9_thin_79 : decode cX9_thin 79 = .ok (.if_icmp .ge 16, 3) := by decide +kernel
theorem dX9_thin_82 : decode cX9_thin 82 = .ok (.aload_n 0, 1) := by decide +kernel
theorem dX9_thin_83 : decode cX9_thin 83 = .ok (.iload_n 2, 1) := by decide +kernel
theorem dX9_thin_84 : decode cX9_thin 84 = .ok (.iload_n 3, 1) := by decide +kernel
theorem dX9_thin_85 : decode cX9_thin 85 = .ok (.invokevirtual 170, 3) := by decide +kernel
theorem dX9_thin_88 : decode cX9_thin 88 = .ok (.ifCond .eq 7, 3) := by decide +kernel
theorem dX9_thin_91 : decode cX9_thin 91 = .ok (.iconst 1, 1) := by decide +kernel
theorem dX9_thin_92 : decode cX9_thin 92 = .ok (.goto 22, 3) := by decide +kernel
theorem dX9_thin_95 : decode cX9_thin 95 = .ok (.iconst 0, 1) := by decide +kernel
theorem dX9_thin_96 : decode cX9_thin 96 = .ok (.goto 18, 3) := by decide +kernel
theorem dX9_thin_99 : decode cX9_thin 99 = .ok (.aload_n 0, 1) := by decide +kernel
theorem dX9_thin_100 : decode cX9_thin 100 = .ok (.iload_n 2, 1) := by decide +kernel
theorem dX9_thin_101 : decode cX9_thin 101 = .ok (.iload_n 3, 1) := by decide +kernel
theorem dX9_thin_102 : decode cX9_thin 102 = .ok (.iload_n 1, 1) := by decide +kernel
theorem dX9_thin_103 : decode cX9_thin 103 = .ok (.ifCond .ne 7, 3) := by decide +kernel
theorem dX9_thin_106 : decode cX9_thin 106 = .ok (.iconst 1, 1) := by decide +kernel
theorem dX9_thin_107 : decode cX9_thin 107 = .ok (.goto 4, 3) := by decide +kernel
theorem dX9_thin_110 : decode cX9_thin 110 = .ok (.iconst 0, 1) := by decide +kernel
theorem dX9_thin_111 : decode cX9_thin 111 = .ok (.invokevirtual 173, 3) := by decide +kernel
theorem dX9_thin_114 : decode cX9_thin 114 = .ok (.bastore, 1) := by decide +kernel
theorem dX9_thin_115 : decode cX9_thin 115 = .ok (.iinc 3 1, 3) := by decide +kernel
theorem dX9_thin_118 : decode cX9_thin 118 = .ok (.goto (-61), 3) := by decide +kernel
theorem dX9_thin_121 : decode cX9_thin 121 = .ok (.aload_n 0, 1) := by decide +kernel
theorem dX9_thin_122 : decode cX9_thin 122 = .ok (.invokevirtual 164, 3) := by decide +kernel
theorem dX9_thin_125 : decode cX9_thin 125 = .ok (.ireturn, 1) := by decide +kernel
theorem dX9_by_0 : decode cX9_by 0 = .ok (.iload_n 1, 1) := by decide +kernel
theorem dX9_by_1 : decode cX9_by 1 = .ok (.iconst 0, 1) := by decide +kernel
theorem dX9_by_2 : decode cX9_by 2 = .ok (.iconst 2, 1) := by decide +kernel
theorem dX9_by_3 : decode cX9_by 3 = .ok (.invokestatic 91, 3) := by decide +kernel
theorem dX9_by_6 : decode cX9_by 6 = .ok (.ifCond .eq 21, 3) := by decide +kernel
theorem dX9_by_9 : decode cX9_by 9 = .ok (.aload_n 0, 1) := by decide +kernel
theorem dX9_by_10 : decode cX9_by 10 = .ok (.iload_n 2, 1) := by decide +kernel
theorem dX9_by_11 : decode cX9_by 11 = .ok (.invokevirtual 142, 3) := by decide +kernel
theorem dX9_by_14 : decode cX9_by 14 = .ok (.ifCond .eq 13, 3) := by decide +kernel
theorem dX9_by_17 : decode cX9_by 17 = .ok (.iload_n 3, 1) := by decide +kernel
theorem dX9_by_18 : decode cX9_by 18 = .ok (.iconst 0, 1) := by decide +kernel
theorem dX9_by_19 : decode cX9_by 19 = .ok (.bipush 11, 2) := by decide +kernel
theorem dX9_by_21 : decode cX9_by 21 = .ok (.invokestatic 91, 3) := by decide +kernel
theorem dX9_by_24 : decode cX9_by 24 = .ok (.ifCond .ne 6, 3) := by decide +kernel
theorem dX9_by_27 : decode cX9_by 27 = .ok (.bipush (-2), 2) := by decide +kernel
theorem dX9_by_29 : decode cX9_by 29 = .ok (.ireturn, 1) := by decide +kernel
theorem dX9_by_30 : decode cX9_by 30 = .ok (.iconst 0, 1) := by decide +kernel
theorem dX9_by_31 : decode cX9_by 31 = .ok (.istore 4, 2) := by decide +kernel
theorem dX9_by_33 : decode cX9_by 33 = .ok (.iload 4, 2) := by decide +kernel
theorem dX9_by_35 : decode cX9_by 35 = .ok (.sipush 4096, 3) := by decide +kernel
theorem dX9_by_38 : decode cX9_by 38 = .ok (.if_icmp .ge 69, 3) := by decide +kernel
theorem dX9_by_41 : decode cX9_by 41 = .ok (.aload_n 0, 1) := by decide +kernel
theorem dX9_by_42 : decode cX9_by 42 = .ok (.getfield 57, 3) := by decide +kernel
theorem dX9_by_45 : decode cX9_by 45 = .ok (.iload 4, 2) := by decide +kernel
theorem dX9_by_47 : decode cX9_by 47 = .ok (.iload_n 1, 1) := by decide +kernel
theorem dX9_by_48 : decode cX9_by 48 = .ok (.iconst 2, 1) := by decide +kernel
theorem dX9_by_49 : decode cX9_by 49 = .ok (.if_icmp .ne 17, 3) := by decide +kernel
theorem dX9_by_52 : decode cX9_by 52 = .ok (.aload_n 0, 1) := by decide +kernel
theorem dX9_by_53 : decode cX9_by 53 = .ok (.iload_n 2, 1) := by decide +kernel
theorem dX9_by_54 : decode cX9_by 54 = .ok (.iload 4, 2) := by decide +kernel
theorem dX9_by_56 : decode cX9_by 56 = .ok (.iconst 1, 1) := by decide +kernel
theorem dX9_by_57 : decode cX9_by 57 = .ok (.iload_n 3, 1) := by decide +kernel
theorem dX9_by_58 : decode cX9_by 58 = .ok (.ishl, 1) := by decide +kernel
theorem dX9_by_59 : decode cX9_by 59 = .ok (.ixor, 1) := by decide +kernel
theorem dX9_by_60 : decode cX9_by 60 = .ok (.invokevirtual 145, 3) := by decide +kernel
theorem dX9_by_63 : decode cX9_by 63 = .ok (.goto 37, 3) := by decide +kernel
theorem dX9_by_66 : decode cX9_by 66 = .ok (.aload_n 0, 1) := by decide +kernel
theorem dX9_by_67 : decode cX9_by 67 = .ok (.iload_n 2, 1) := by decide +kernel
theorem dX9_by_68 : decode cX9_by 68 = .ok (.iload 4, 2) := by decide +kernel
theorem dX9_by_70 : decode cX9_by 70 = .ok (.invokevirtual 145, 3) := by decide +kernel
theorem dX9_by_73 : decode cX9_by 73 = .ok (.ifCond .eq 26, 3) := by decide +kernel
theorem dX9_by_76 : decode cX9_by 76 = .ok (.iload 4, 2) := by decide +kernel
theorem dX9_by_78 : decode cX9_by 78 = .ok (.iload_n 3, 1) := by decide +kernel
theorem dX9_by_79 : decode cX9_by 79 = .ok (.invokestatic 101, 3) := by decide +kernel
theorem dX9_by_82 : decode cX9_by 82 = .ok (.iload_n 1, 1) := by decide +kernel
theorem dX9_by_83 : decode cX9_by 83 = .ok (.iconst 1, 1) := by decide +kernel
theorem dX9_by_84 : decode cX9_by 84 = .ok (.if_icmp .ne 7, 3) := by decide +kernel
theorem dX9_by_87 : decode cX9_by 87 = .ok (.iconst 1, 1) := by decide +kernel
theorem dX9_by_88 : decode cX9_by 88 = .ok (.goto 4, 3) := by decide +kernel
theorem dX9_by_91 : decode cX9_by 91 = .ok (.iconst 0, 1) := by decide +kernel
theorem dX9_by_92 : decode cX9_by 92 = .ok (.if_icmp .ne 7, 3) := by decide +kernel
theorem dX9_by_95 : decode cX9_by 95 = .ok (.iconst 1, 1) := by decide +kernel
theorem dX9_by_96 : decode cX9_by 96 = .ok (.goto 4, 3) := by decide +kernel
theorem dX9_by_99 : decode cX9_by 99 = .ok (.iconst 0, 1) := by decide +kernel
theorem dX9_by_100 : decode cX9_by 100 = .ok (.bastore, 1) := by decide +kernel
theorem dX9_by_101 : decode cX9_by 101 = .ok (.iinc 4 1, 3) := by decide +kernel
theorem dX9_by_104 : decode cX9_by 104 = .ok (.goto (-71), 3) := by decide +kernel
theorem dX9_by_107 : decode cX9_by 107 = .ok (.aload_n 0, 1) := by decide +kernel
theorem dX9_by_108 : decode cX9_by 108 = .ok (.invokevirtual 164, 3) := by decide +kernel
theorem dX9_by_111 : decode cX9_by 111 = .ok (.ireturn, 1) := by decide +kernel
theorem dX9_within_0 : decode cX9_within 0 = .ok (.aload_n 0, 1) := by decide +kernel
theorem dX9_within_1 : decode cX9_within 1 = .ok (.iload_n 1, 1) := by decide +kernel
theorem dX9_within_2 : decode cX9_within 2 = .ok (.invokevirtual 142, 3) := by decide +kernel
theorem dX9_within_5 : decode cX9_within 5 = .ok (.ifCond .ne 6, 3) := by decide +kernel
theorem dX9_within_8 : decode cX9_within 8 = .ok (.bipush (-2), 2) := by decide +kernel
theorem dX9_within_10 : decode cX9_within 10 = .ok (.ireturn, 1) := by decide +kernel
theorem dX9_within_11 : decode cX9_within 11 = .ok (.iconst 0, 1) := by decide +kernel
theorem dX9_within_12 : decode cX9_within 12 = .ok (.istore 4, 2) := by decide +kernel
theorem dX9_within_14 : decode cX9_within 14 = .ok (.iload 4, 2) := by decide +kernel
theorem dX9_within_16 : decode cX9_within 16 = .ok (.sipush 4096, 3) := by decide +kernel
theorem dX9_within_19 : decode cX9_within 19 = .ok (.if_icmp .ge 45, 3) := by decide +kernel
theorem dX9_within_22 : decode cX9_within 22 = .ok (.aload_n 0, 1) := by decide +kernel
theorem dX9_within_23 : decode cX9_within 23 = .ok (.getfield 57, 3) := by decide +kernel
theorem dX9_within_26 : decode cX9_within 26 = .ok (.iload 4, 2) := by decide +kernel
theorem dX9_within_28 : decode cX9_within 28 = .ok (.aload_n 0, 1) := by decide +kernel
theorem dX9_within_29 : decode cX9_within 29 = .ok (.iload_n 1, 1) := by decide +kernel
theorem dX9_within_30 : decode cX9_within 30 = .ok (.iload 4, 2) := by decide +kernel
theorem dX9_within_32 : decode cX9_within 32 = .ok (.invokevirtual 145, 3) := by decide +kernel
theorem dX9_within_35 : decode cX9_within 35 = .ok (.ifCond .eq 21, 3) := by decide +kernel
theorem dX9_within_38 : decode cX9_within 38 = .ok (.aload_n 0, 1) := by decide +kernel
theorem dX9_within_39 : decode cX9_within 39 = .ok (.iload 4, 2) := by decide +kernel
theorem dX9_within_41 : decode cX9_within 41 = .ok (.invokevirtual 177, 3) := by decide +kernel
theorem dX9_within_44 : decode cX9_within 44 = .ok (.iload_n 2, 1) := by decide +kernel
theorem dX9_within_45 : decode cX9_within 45 = .ok (.iload_n 3, 1) := by decide +kernel
theorem dX9_within_46 : decode cX9_within 46 = .ok (.invokestatic 91, 3) := by decide +kernel
theorem dX9_within_49 : decode cX9_within 49 = .ok (.ifCond .eq 7, 3) := by decide +kernel
theorem dX9_within_52 : decode cX9_within 52 = .ok (.iconst 1, 1) := by decide +kernel
theorem dX9_within_53 : decode cX9_within 53 = .ok (.goto 4, 3) := by decide +kernel
theorem dX9_within_56 : decode cX9_within 56 = .ok (.iconst 0, 1) := by decide +kernel
theorem dX9_within_57 : decode cX9_within 57 = .ok (.bastore, 1) := by decide +kernel
theorem dX9_within_58 : decode cX9_within 58 = .ok (.iinc 4 1, 3) := by decide +kernel
theorem dX9_within_61 : decode cX9_within 61 = .ok (.goto (-47), 3) := by decide +kernel
theorem dX9_within_64 : decode cX9_within 64 = .ok (.aload_n 0, 1) := by decide +kernel
theorem dX9_within_65 : decode cX9_within 65 = .ok (.invokevirtual 164, 3) := by decide +kernel
theorem dX9_within_68 : decode cX9_within 68 = .ok (.ireturn, 1) := by decide +kernel
theorem dX9_drop_0 : decode cX9_drop 0 = .ok (.aload_n 0, 1) := by decide +kernel
theorem dX9_drop_1 : decode cX9_drop 1 = .ok (.getfield 87, 3) := by decide +kernel
theorem dX9_drop_4 : decode cX9_drop 4 = .ok (.ifCond .ne 6, 3) := by decide +kernel
theorem dX9_drop_7 : decode cX9_drop 7 = .ok (.bipush (-2), 2) := by decide +kernel
theorem dX9_drop_9 : decode cX9_drop 9 = .ok (.ireturn, 1) := by decide +kernel
theorem dX9_drop_10 : decode cX9_drop 10 = .ok (.aload_n 0, 1) := by decide +kernel
theorem dX9_drop_11 : decode cX9_drop 11 = .ok (.dup, 1) := by decide +kernel
theorem dX9_drop_12 : decode cX9_drop 12 = .ok (.getfield 87, 3) := by decide +kernel
theorem dX9_drop_15 : decode cX9_drop 15 = .ok (.iconst 1, 1) := by decide +kernel
theorem dX9_drop_16 : decode cX9_drop 16 = .ok (.isub, 1) := by decide +kernel
theorem dX9_drop_17 : decode cX9_drop 17 = .ok (.putfield 87, 3) := by decide +kernel
theorem dX9_drop_20 : decode cX9_drop 20 = .ok (.aload_n 0, 1) := by decide +kernel
theorem dX9_drop_21 : decode cX9_drop 21 = .ok (.getfield 87, 3) := by decide +kernel
theorem dX9_drop_24 : decode cX9_drop 24 = .ok (.ireturn, 1) := by decide +kernel
theorem dX9_close_0 : decode cX9_close 0 = .ok (.aload_n 0, 1) := by decide +kernel
theorem dX9_close_1 : decode cX9_close 1 = .ok (.getfield 98, 3) := by decide +kernel
theorem dX9_close_4 : decode cX9_close 4 = .ok (.ifCond .ne 6, 3) := by decide +kernel
theorem dX9_close_7 : decode cX9_close 7 = .ok (.bipush (-2), 2) := by decide +kernel
theorem dX9_close_9 : decode cX9_close 9 = .ok (.ireturn, 1) := by decide +kernel
theorem dX9_close_10 : decode cX9_close 10 = .ok (.aload_n 0, 1) := by decide +kernel
theorem dX9_close_11 : decode cX9_close 11 = .ok (.dup, 1) := by decide +kernel
theorem dX9_close_12 : decode cX9_close 12 = .ok (.getfield 98, 3) := by decide +kernel
theorem dX9_close_15 : decode cX9_close 15 = .ok (.iconst 1, 1) := by decide +kernel
theorem dX9_close_16 : decode cX9_close 16 = .ok (.isub, 1) := by decide +kernel
theorem dX9_close_17 : decode cX9_close 17 = .ok (.putfield 98, 3) := by decide +kernel
theorem dX9_close_20 : decode cX9_close 20 = .ok (.aload_n 0, 1) := by decide +kernel
theorem dX9_close_21 : decode cX9_close 21 = .ok (.getfield 98, 3) := by decide +kernel
theorem dX9_close_24 : decode cX9_close 24 = .ok (.ireturn, 1) := by decide +kernel
theorem dX9_knot_0 : decode cX9_knot 0 = .ok (.iload_n 3, 1) := by decide +kernel
theorem dX9_knot_1 : decode cX9_knot 1 = .ok (.iconst (-1), 1) := by decide +kernel
theorem dX9_knot_2 : decode cX9_knot 2 = .ok (.if_icmp .ne 5, 3) := by decide +kernel
theorem dX9_knot_5 : decode cX9_knot 5 = .ok (.iload_n 2, 1) := by decide +kernel
theorem dX9_knot_6 : decode cX9_knot 6 = .ok (.ireturn, 1) := by decide +kernel
theorem dX9_knot_7 : decode cX9_knot 7 = .ok (.iconst 0, 1) := by decide +kernel
theorem dX9_knot_8 : decode cX9_knot 8 = .ok (.istore 4, 2) := by decide +kernel
theorem dX9_knot_10 : decode cX9_knot 10 = .ok (.iload 4, 2) := by decide +kernel
theorem dX9_knot_12 : decode cX9_knot 12 = .ok (.aload_n 0, 1) := by decide +kernel
theorem dX9_knot_13 : decode cX9_knot 13 = .ok (.getfield 180, 3) := by decide +kernel
theorem dX9_knot_16 : decode cX9_knot 16 = .ok (.if_icmp .ge 45, 3) := by decide +kernel
theorem dX9_knot_19 : decode cX9_knot 19 = .ok (.aload_n 0, 1) := by decide +kernel
theorem dX9_knot_20 : decode cX9_knot 20 = .ok (.getfield 63, 3) := by decide +kernel
theorem dX9_knot_23 : decode cX9_knot 23 = .ok (.iload 4, 2) := by decide +kernel
theorem dX9_knot_25 : decode cX9_knot 25 = .ok (.iaload, 1) := by decide +kernel
theorem dX9_knot_26 : decode cX9_knot 26 = .ok (.iload_n 1, 1) := by decide +kernel
theorem dX9_knot_27 : decode cX9_knot 27 = .ok (.if_icmp .ne 28, 3) := by decide +kernel
theorem dX9_knot_30 : decode cX9_knot 30 = .ok (.aload_n 0, 1) := by decide +kernel
theorem dX9_knot_31 : decode cX9_knot 31 = .ok (.getfield 66, 3) := by decide +kernel
theorem dX9_knot_34 : decode cX9_knot 34 = .ok (.iload 4, 2) := by decide +kernel
theorem dX9_knot_36 : decode cX9_knot 36 = .ok (.iaload, 1) := by decide +kernel
theorem dX9_knot_37 : decode cX9_knot 37 = .ok (.iload_n 2, 1) := by decide +kernel
theorem dX9_knot_38 : decode cX9_knot 38 = .ok (.if_icmp .ne 17, 3) := by decide +kernel
theorem dX9_knot_41 : decode cX9_knot 41 = .ok (.aload_n 0, 1) := by decide +kernel
theorem dX9_knot_42 : decode cX9_knot 42 = .ok (.getfield 69, 3) := by decide +kernel
theorem dX9_knot_45 : decode cX9_knot 45 = .ok (.iload 4, 2) := by decide +kernel
theorem dX9_knot_47 : decode cX9_knot 47 = .ok (.iaload, 1) := by decide +kernel
theorem dX9_knot_48 : decode cX9_knot 48 = .ok (.iload_n 3, 1) := by decide +kernel
theorem dX9_knot_49 : decode cX9_knot 49 = .ok (.if_icmp .ne 6, 3) := by decide +kernel
theorem dX9_knot_52 : decode cX9_knot 52 = .ok (.iload 4, 2) := by decide +kernel
theorem dX9_knot_54 : decode cX9_knot 54 = .ok (.ireturn, 1) := by decide +kernel
theorem dX9_knot_55 : decode cX9_knot 55 = .ok (.iinc 4 1, 3) := by decide +kernel
theorem dX9_knot_58 : decode cX9_knot 58 = .ok (.goto (-48), 3) := by decide +kernel
theorem dX9_knot_61 : decode cX9_knot 61 = .ok (.aload_n 0, 1) := by decide +kernel
theorem dX9_knot_62 : decode cX9_knot 62 = .ok (.getfield 63, 3) := by decide +kernel
theorem dX9_knot_65 : decode cX9_knot 65 = .ok (.aload_n 0, 1) := by decide +kernel
theorem dX9_knot_66 : decode cX9_knot 66 = .ok (.getfield 180, 3) := by decide +kernel
theorem dX9_knot_69 : decode cX9_knot 69 = .ok (.iload_n 1, 1) := by decide +kernel
theorem dX9_knot_70 : decode cX9_knot 70 = .ok (.iastore, 1) := by decide +kernel
theorem dX9_knot_71 : decode cX9_knot 71 = .ok (.aload_n 0, 1) := by decide +kernel
theorem dX9_knot_72 : decode cX9_knot 72 = .ok (.getfield 66, 3) := by decide +kernel
theorem dX9_knot_75 : decode cX9_knot 75 = .ok (.aload_n 0, 1) := by decide +kernel
theorem dX9_knot_76 : decode cX9_knot 76 = .ok (.getfield 180, 3) := by decide +kernel
theorem dX9_knot_79 : decode cX9_knot 79 = .ok (.iload_n 2, 1) := by decide +kernel
theorem dX9_knot_80 : decode cX9_knot 80 = .ok (.iastore, 1) := by decide +kernel
theorem dX9_knot_81 : decode cX9_knot 81 = .ok (.aload_n 0, 1) := by decide +kernel
theorem dX9_knot_82 : decode cX9_knot 82 = .ok (.getfield 69, 3) := by decide +kernel
theorem dX9_knot_85 : decode cX9_knot 85 = .ok (.aload_n 0, 1) := by decide +kernel
theorem dX9_knot_86 : decode cX9_knot 86 = .ok (.getfield 180, 3) := by decide +kernel
theorem dX9_knot_89 : decode cX9_knot 89 = .ok (.iload_n 3, 1) := by decide +kernel
theorem dX9_knot_90 : decode cX9_knot 90 = .ok (.iastore, 1) := by decide +kernel
theorem dX9_knot_91 : decode cX9_knot 91 = .ok (.aload_n 0, 1) := by decide +kernel
theorem dX9_knot_92 : decode cX9_knot 92 = .ok (.dup, 1) := by decide +kernel
theorem dX9_knot_93 : decode cX9_knot 93 = .ok (.getfield 180, 3) := by decide +kernel
theorem dX9_knot_96 : decode cX9_knot 96 = .ok (.iconst 1, 1) := by decide +kernel
theorem dX9_knot_97 : decode cX9_knot 97 = .ok (.iadd, 1) := by decide +kernel
theorem dX9_knot_98 : decode cX9_knot 98 = .ok (.putfield 180, 3) := by decide +kernel
theorem dX9_knot_101 : decode cX9_knot 101 = .ok (.aload_n 0, 1) := by decide +kernel
theorem dX9_knot_102 : decode cX9_knot 102 = .ok (.getfield 180, 3) := by decide +kernel
theorem dX9_knot_105 : decode cX9_knot 105 = .ok (.iconst 1, 1) := by decide +kernel
theorem dX9_knot_106 : decode cX9_knot 106 = .ok (.isub, 1) := by decide +kernel
theorem dX9_knot_107 : decode cX9_knot 107 = .ok (.ireturn, 1) := by decide +kernel
theorem dX9_turnedMask_0 : decode cX9_turnedMask 0 = .ok (.iconst 0, 1) := by decide +kernel
theorem dX9_turnedMask_1 : decode cX9_turnedMask 1 = .ok (.istore_n 2, 1) := by decide +kernel
theorem dX9_turnedMask_2 : decode cX9_turnedMask 2 = .ok (.iconst 0, 1) := by decide +kernel
theorem dX9_turnedMask_3 : decode cX9_turnedMask 3 = .ok (.istore_n 3, 1) := by decide +kernel
theorem dX9_turnedMask_4 : decode cX9_turnedMask 4 = .ok (.iload_n 3, 1) := by decide +kernel
theorem dX9_turnedMask_5 : decode cX9_turnedMask 5 = .ok (.bipush 12, 2) := by decide +kernel
theorem dX9_turnedMask_7 : decode cX9_turnedMask 7 = .ok (.if_icmp .ge 36, 3) := by decide +kernel
theorem dX9_turnedMask_10 : decode cX9_turnedMask 10 = .ok (.iload_n 2, 1) := by decide +kernel
theorem dX9_turnedMask_11 : decode cX9_turnedMask 11 = .ok (.iload_n 0, 1) := by decide +kernel
theorem dX9_turnedMask_12 : decode cX9_turnedMask 12 = .ok (.iload_n 3, 1) := by decide +kernel
theorem dX9_turnedMask_13 : decode cX9_turnedMask 13 = .ok (.invokestatic 101, 3) := by decide +kernel
theorem dX9_turnedMask_16 : decode cX9_turnedMask 16 = .ok (.ifCond .eq 18, 3) := by decide +kernel
theorem dX9_turnedMask_19 : decode cX9_turnedMask 19 = .ok (.iconst 1, 1) := by decide +kernel
theorem dX9_turnedMask_20 : decode cX9_turnedMask 20 = .ok (.iload_n 3, 1) := by decide +kernel
theorem dX9_turnedMask_21 : decode cX9_turnedMask 21 = .ok (.iconst 1, 1) := by decide +kernel
theorem dX9_turnedMask_22 : decode cX9_turnedMask 22 = .ok (.iadd, 1) := by decide +kernel
theorem dX9_turnedMask_23 : decode cX9_turnedMask 23 = .ok (.iload_n 1, 1) := by decide +kernel
theorem dX9_turnedMask_24 : decode cX9_turnedMask 24 = .ok (.imul, 1) := by decide +kernel
theorem dX9_turnedMask_25 : decode cX9_turnedMask 25 = .ok (.bipush 13, 2) := by decide +kernel
theorem dX9_turnedMask_27 : decode cX9_turnedMask 27 = .ok (.irem, 1) := by decide +kernel
theorem dX9_turnedMask_28 : decode cX9_turnedMask 28 = .ok (.iconst 1, 1) := by decide +kernel
theorem dX9_turnedMask_29 : decode cX9_turnedMask 29 = .ok (.isub, 1) := by decide +kernel
theorem dX9_turnedMask_30 : decode cX9_turnedMask 30 = .ok (.ishl, 1) := by decide +kernel
theorem dX9_turnedMask_31 : decode cX9_turnedMask 31 = .ok (.goto 4, 3) := by decide +kernel
theorem dX9_turnedMask_34 : decode cX9_turnedMask 34 = .ok (.iconst 0, 1) := by decide +kernel
theorem dX9_turnedMask_35 : decode cX9_turnedMask 35 = .ok (.ior, 1) := by decide +kernel
theorem dX9_turnedMask_36 : decode cX9_turnedMask 36 = .ok (.istore_n 2, 1) := by decide +kernel
theorem dX9_turnedMask_37 : decode cX9_turnedMask 37 = .ok (.iinc 3 1, 3) := by decide +kernel
theorem dX9_turnedMask_40 : decode cX9_turnedMask 40 = .ok (.goto (-36), 3) := by decide +kernel
theorem dX9_turnedMask_43 : decode cX9_turnedMask 43 = .ok (.iload_n 2, 1) := by decide +kernel
theorem dX9_turnedMask_44 : decode cX9_turnedMask 44 = .ok (.ireturn, 1) := by decide +kernel
theorem dX9_bookOf_0 : decode cX9_bookOf 0 = .ok (.aload_n 0, 1) := by decide +kernel
theorem dX9_bookOf_1 : decode cX9_bookOf 1 = .ok (.iconst 0, 1) := by decide +kernel
theorem dX9_bookOf_2 : decode cX9_bookOf 2 = .ok (.putfield 180, 3) := by decide +kernel
theorem dX9_bookOf_5 : decode cX9_bookOf 5 = .ok (.iconst 0, 1) := by decide +kernel
theorem dX9_bookOf_6 : decode cX9_bookOf 6 = .ok (.istore_n 3, 1) := by decide +kernel
theorem dX9_bookOf_7 : decode cX9_bookOf 7 = .ok (.iload_n 3, 1) := by decide +kernel
theorem dX9_bookOf_8 : decode cX9_bookOf 8 = .ok (.sipush 4096, 3) := by decide +kernel
theorem dX9_bookOf_11 : decode cX9_bookOf 11 = .ok (.if_icmp .ge 34, 3) := by decide +kernel
theorem dX9_bookOf_14 : decode cX9_bookOf 14 = .ok (.aload_n 0, 1) := by decide +kernel
theorem dX9_bookOf_15 : decode cX9_bookOf 15 = .ok (.getfield 72, 3) := by decide +kernel
theorem dX9_bookOf_18 : decode cX9_bookOf 18 = .ok (.iload_n 3, 1) := by decide +kernel
theorem dX9_bookOf_19 : decode cX9_bookOf 19 = .ok (.iload_n 2, 1) := by decide +kernel
theorem dX9_bookOf_20 : decode cX9_bookOf 20 = .ok (.invokestatic 183, 3) := by decide +kernel
theorem dX9_bookOf_23 : decode cX9_bookOf 23 = .ok (.aload_n 0, 1) := by decide +kernel
theorem dX9_bookOf_24 : decode cX9_bookOf 24 = .ok (.iload_n 1, 1) := by decide +kernel
theorem dX9_bookOf_25 : decode cX9_bookOf 25 = .ok (.iload_n 3, 1) := by decide +kernel
theorem dX9_bookOf_26 : decode cX9_bookOf 26 = .ok (.invokevirtual 145, 3) := by decide +kernel
theorem dX9_bookOf_29 : decode cX9_bookOf 29 = .ok (.ifCond .eq 8, 3) := by decide +kernel
theorem dX9_bookOf_32 : decode cX9_bookOf 32 = .ok (.bipush (-2), 2) := by decide +kernel
theorem dX9_bookOf_34 : decode cX9_bookOf 34 = .ok (.goto 4, 3) := by decide +kernel
theorem dX9_bookOf_37 : decode cX9_bookOf 37 = .ok (.iconst (-1), 1) := by decide +kernel
theorem dX9_bookOf_38 : decode cX9_bookOf 38 = .ok (.iastore, 1) := by decide +kernel
theorem dX9_bookOf_39 : decode cX9_bookOf 39 = .ok (.iinc 3 1, 3) := by decide +kernel
theorem dX9_bookOf_42 : decode cX9_bookOf 42 = .ok (.goto (-35), 3) := by decide +kernel
theorem dX9_bookOf_45 : decode cX9_bookOf 45 = .ok (.bipush 11, 2) := by decide +kernel
theorem dX9_bookOf_47 : decode cX9_bookOf 47 = .ok (.istore_n 3, 1) := by decide +kernel
theorem dX9_bookOf_48 : decode cX9_bookOf 48 = .ok (.iload_n 3, 1) := by decide +kernel
theorem dX9_bookOf_49 : decode cX9_bookOf 49 = .ok (.ifCond .lt 56, 3) := by decide +kernel
theorem dX9_bookOf_52 : decode cX9_bookOf 52 = .ok (.iconst 0, 1) := by decide +kernel
theorem dX9_bookOf_53 : decode cX9_bookOf 53 = .ok (.istore 4, 2) := by decide +kernel
theorem dX9_bookOf_55 : decode cX9_bookOf 55 = .ok (.iload 4, 2) := by decide +kernel
theorem dX9_bookOf_57 : decode cX9_bookOf 57 = .ok (.iconst 1, 1) := by decide +kernel
theorem dX9_bookOf_58 : decode cX9_bookOf 58 = .ok (.iload_n 3, 1) := by decide +kernel
theorem dX9_bookOf_59 : decode cX9_bookOf 59 = .ok (.ishl, 1) := by decide +kernel
theorem dX9_bookOf_60 : decode cX9_bookOf 60 = .ok (.if_icmp .ge 39, 3) := by decide +kernel
theorem dX9_bookOf_63 : decode cX9_bookOf 63 = .ok (.aload_n 0, 1) := by decide +kernel
theorem dX9_bookOf_64 : decode cX9_bookOf 64 = .ok (.getfield 72, 3) := by decide +kernel
theorem dX9_bookOf_67 : decode cX9_bookOf 67 = .ok (.iload 4, 2) := by decide +kernel
theorem dX9_bookOf_69 : decode cX9_bookOf 69 = .ok (.aload_n 0, 1) := by decide +kernel
theorem dX9_bookOf_70 : decode cX9_bookOf 70 = .ok (.iload_n 3, 1) := by decide +kernel
theorem dX9_bookOf_71 : decode cX9_bookOf 71 = .ok (.aload_n 0, 1) := by decide +kernel
theorem dX9_bookOf_72 : decode cX9_bookOf 72 = .ok (.getfield 72, 3) := by decide +kernel
theorem dX9_bookOf_75 : decode cX9_bookOf 75 = .ok (.iload 4, 2) := by decide +kernel
theorem dX9_bookOf_77 : decode cX9_bookOf 77 = .ok (.iaload, 1) := by decide +kernel
theorem dX9_bookOf_78 : decode cX9_bookOf 78 = .ok (.aload_n 0, 1) := by decide +kernel
theorem dX9_bookOf_79 : decode cX9_bookOf 79 = .ok (.getfield 72, 3) := by decide +kernel
theorem dX9_bookOf_82 : decode cX9_bookOf 82 = .ok (.iload 4, 2) := by decide +kernel
theorem dX9_bookOf_84 : decode cX9_bookOf 84 = .ok (.iconst 1, 1) := by decide +kernel
theorem dX9_bookOf_85 : decode cX9_bookOf 85 = .ok (.iload_n 3, 1) := by decide +kernel
theorem dX9_bookOf_86 : decode cX9_bookOf 86 = .ok (.ishl, 1) := by decide +kernel
theorem dX9_bookOf_87 : decode cX9_bookOf 87 = .ok (.ior, 1) := by decide +kernel
theorem dX9_bookOf_88 : decode cX9_bookOf 88 = .ok (.iaload, 1) := by decide +kernel
theorem dX9_bookOf_89 : decode cX9_bookOf 89 = .ok (.invokevirtual 186, 3) := by decide +kernel
theorem dX9_bookOf_92 : decode cX9_bookOf 92 = .ok (.iastore, 1) := by decide +kernel
theorem dX9_bookOf_93 : decode cX9_bookOf 93 = .ok (.iinc 4 1, 3) := by decide +kernel
theorem dX9_bookOf_96 : decode cX9_bookOf 96 = .ok (.goto (-41), 3) := by decide +kernel
theorem dX9_bookOf_99 : decode cX9_bookOf 99 = .ok (.iinc 3 (-1), 3) := by decide +kernel
theorem dX9_bookOf_102 : decode cX9_bookOf 102 = .ok (.goto (-54), 3) := by decide +kernel
theorem dX9_bookOf_105 : decode cX9_bookOf 105 = .ok (.aload_n 0, 1) := by decide +kernel
theorem dX9_bookOf_106 : decode cX9_bookOf 106 = .ok (.getfield 72, 3) := by decide +kernel
theorem dX9_bookOf_109 : decode cX9_bookOf 109 = .ok (.iconst 0, 1) := by decide +kernel
theorem dX9_bookOf_110 : decode cX9_bookOf 110 = .ok (.iaload, 1) := by decide +kernel
theorem dX9_bookOf_111 : decode cX9_bookOf 111 = .ok (.ireturn, 1) := by decide +kernel
theorem dX9_count_0 : decode cX9_count 0 = .ok (.aload_n 0, 1) := by decide +kernel
theorem dX9_count_1 : decode cX9_count 1 = .ok (.iload_n 1, 1) := by decide +kernel
theorem dX9_count_2 : decode cX9_count 2 = .ok (.invokevirtual 142, 3) := by decide +kernel
theorem dX9_count_5 : decode cX9_count 5 = .ok (.ifCond .eq 11, 3) := by decide +kernel
theorem dX9_count_8 : decode cX9_count 8 = .ok (.aload_n 0, 1) := by decide +kernel
theorem dX9_count_9 : decode cX9_count 9 = .ok (.iload_n 1, 1) := by decide +kernel
theorem dX9_count_10 : decode cX9_count 10 = .ok (.invokevirtual 151, 3) := by decide +kernel
theorem dX9_count_13 : decode cX9_count 13 = .ok (.goto 5, 3) := by decide +kernel
theorem dX9_count_16 : decode cX9_count 16 = .ok (.bipush (-2), 2) := by decide +kernel
theorem dX9_count_18 : decode cX9_count 18 = .ok (.ireturn, 1) := by decide +kernel
theorem dX9_told_0 : decode cX9_told 0 = .ok (.aload_n 0, 1) := by decide +kernel
theorem dX9_told_1 : decode cX9_told 1 = .ok (.iload_n 1, 1) := by decide +kernel
theorem dX9_told_2 : decode cX9_told 2 = .ok (.invokevirtual 142, 3) := by decide +kernel
theorem dX9_told_5 : decode cX9_told 5 = .ok (.ifCond .eq 12, 3) := by decide +kernel
theorem dX9_told_8 : decode cX9_told 8 = .ok (.iload_n 2, 1) := by decide +kernel
theorem dX9_told_9 : decode cX9_told 9 = .ok (.iconst 0, 1) := by decide +kernel
theorem dX9_told_10 : decode cX9_told 10 = .ok (.iconst 2, 1) := by decide +kernel
theorem dX9_told_11 : decode cX9_told 11 = .ok (.invokestatic 91, 3) := by decide +kernel
theorem dX9_told_14 : decode cX9_told 14 = .ok (.ifCond .ne 6, 3) := by decide +kernel
theorem dX9_told_17 : decode cX9_told 17 = .ok (.bipush (-2), 2) := by decide +kernel
theorem dX9_told_19 : decode cX9_told 19 = .ok (.ireturn, 1) := by decide +kernel
theorem dX9_told_20 : decode cX9_told 20 = .ok (.iload_n 2, 1) := by decide +kernel
theorem dX9_told_21 : decode cX9_told 21 = .ok (.ifCond .ne 10, 3) := by decide +kernel
theorem dX9_told_24 : decode cX9_told 24 = .ok (.aload_n 0, 1) := by decide +kernel
theorem dX9_told_25 : decode cX9_told 25 = .ok (.getfield 22, 3) := by decide +kernel
theorem dX9_told_28 : decode cX9_told 28 = .ok (.iload_n 1, 1) := by decide +kernel
theorem dX9_told_29 : decode cX9_told 29 = .ok (.iaload, 1) := by decide +kernel
theorem dX9_told_30 : decode cX9_told 30 = .ok (.ireturn, 1) := by decide +kernel
theorem dX9_told_31 : decode cX9_told 31 = .ok (.iload_n 2, 1) := by decide +kernel
theorem dX9_told_32 : decode cX9_told 32 = .ok (.iconst 1, 1) := by decide +kernel
theorem dX9_told_33 : decode cX9_told 33 = .ok (.if_icmp .ne 15, 3) := by decide +kernel
theorem dX9_told_36 : decode cX9_told 36 = .ok (.aload_n 0, 1) := by decide +kernel
theorem dX9_told_37 : decode cX9_told 37 = .ok (.iload_n 1, 1) := by decide +kernel
theorem dX9_told_38 : decode cX9_told 38 = .ok (.iconst 1, 1) := by decide +kernel
theorem dX9_told_39 : decode cX9_told 39 = .ok (.invokevirtual 190, 3) := by decide +kernel
theorem dX9_told_42 : decode cX9_told 42 = .ok (.pop, 1) := by decide +kernel
theorem dX9_told_43 : decode cX9_told 43 = .ok (.aload_n 0, 1) := by decide +kernel
theorem dX9_told_44 : decode cX9_told 44 = .ok (.getfield 180, 3) := by decide +kernel
theorem dX9_told_47 : decode cX9_told 47 = .ok (.ireturn, 1) := by decide +kernel
theorem dX9_told_48 : decode cX9_told 48 = .ok (.iconst 0, 1) := by decide +kernel
theorem dX9_told_49 : decode cX9_told 49 = .ok (.istore_n 3, 1) := by decide +kernel
theorem dX9_told_50 : decode cX9_told 50 = .ok (.iconst 0, 1) := by decide +kernel
theorem dX9_told_51 : decode cX9_told 51 = .ok (.istore 4, 2) := by decide +kernel
theorem dX9_told_53 : decode cX9_told 53 = .ok (.iload 4, 2) := by decide +kernel
theorem dX9_told_55 : decode cX9_told 55 = .ok (.sipush 4096, 3) := by decide +kernel
theorem dX9_told_58 : decode cX9_told 58 = .ok (.if_icmp .ge 28, 3) := by decide +kernel
theorem dX9_told_61 : decode cX9_told 61 = .ok (.iload_n 3, 1) := by decide +kernel
theorem dX9_told_62 : decode cX9_told 62 = .ok (.aload_n 0, 1) := by decide +kernel
theorem dX9_told_63 : decode cX9_told 63 = .ok (.iload_n 1, 1) := by decide +kernel
theorem dX9_told_64 : decode cX9_told 64 = .ok (.iload 4, 2) := by decide +kernel
theorem dX9_told_66 : decode cX9_told 66 = .ok (.invokevirtual 145, 3) := by decide +kernel
theorem dX9_told_69 : decode cX9_told 69 = .ok (.ifCond .eq 8, 3) := by decide +kernel
theorem dX9_told_72 : decode cX9_told 72 = .ok (.iload 4, 2) := by decide +kernel
theorem dX9_told_74 : decode cX9_told 74 = .ok (.goto 4, 3) := by decide +kernel
theorem dX9_told_77 : decode cX9_told 77 = .ok (.iconst 0, 1) := by decide +kernel
theorem dX9_told_78 : decode cX9_told 78 = .ok (.ior, 1) := by decide +kernel
theorem dX9_told_79 : decode cX9_told 79 = .ok (.istore_n 3, 1) := by decide +kernel
theorem dX9_told_80 : decode cX9_told 80 = .ok (.iinc 4 1, 3) := by decide +kernel
theorem dX9_told_83 : decode cX9_told 83 = .ok (.goto (-30), 3) := by decide +kernel
theorem dX9_told_86 : decode cX9_told 86 = .ok (.iload_n 3, 1) := by decide +kernel
theorem dX9_told_87 : decode cX9_told 87 = .ok (.ireturn, 1) := by decide +kernel
theorem dX9_total_0 : decode cX9_total 0 = .ok (.lconst 0, 1) := by decide +kernel
theorem dX9_total_1 : decode cX9_total 1 = .ok (.lstore_n 2, 1) := by decide +kernel
theorem dX9_total_2 : decode cX9_total 2 = .ok (.iconst 0, 1) := by decide +kernel
theorem dX9_total_3 : decode cX9_total 3 = .ok (.istore 4, 2) := by decide +kernel
theorem dX9_total_5 : decode cX9_total 5 = .ok (.iload 4, 2) := by decide +kernel
theorem dX9_total_7 : decode cX9_total 7 = .ok (.sipush 4096, 3) := by decide +kernel
theorem dX9_total_10 : decode cX9_total 10 = .ok (.if_icmp .ge 41, 3) := by decide +kernel
theorem dX9_total_13 : decode cX9_total 13 = .ok (.aload_n 0, 1) := by decide +kernel
theorem dX9_total_14 : decode cX9_total 14 = .ok (.iload_n 1, 1) := by decide +kernel
theorem dX9_total_15 : decode cX9_total 15 = .ok (.invokevirtual 142, 3) := by decide +kernel
theorem dX9_total_18 : decode cX9_total 18 = .ok (.ifCond .eq 33, 3) := by decide +kernel
theorem dX9_total_21 : decode cX9_total 21 = .ok (.lload_n 2, 1) := by decide +kernel
theorem dX9_total_22 : decode cX9_total 22 = .ok (.aload_n 0, 1) := by decide +kernel
theorem dX9_total_23 : decode cX9_total 23 = .ok (.iload_n 1, 1) := by decide +kernel
theorem dX9_total_24 : decode cX9_total 24 = .ok (.iload 4, 2) := by decide +kernel
theorem dX9_total_26 : decode cX9_total 26 = .ok (.invokevirtual 145, 3) := by decide +kernel
theorem dX9_total_29 : decode cX9_total 29 = .ok (.ifCond .eq 13, 3) := by decide +kernel
theorem dX9_total_32 : decode cX9_total 32 = .ok (.aload_n 0, 1) := by decide +kernel
theorem dX9_total_33 : decode cX9_total 33 = .ok (.iload 4, 2) := by decide +kernel
theorem dX9_total_35 : decode cX9_total 35 = .ok (.invokevirtual 177, 3) := by decide +kernel
theorem dX9_total_38 : decode cX9_total 38 = .ok (.i2l, 1) := by decide +kernel
theorem dX9_total_39 : decode cX9_total 39 = .ok (.goto 4, 3) := by decide +kernel
theorem dX9_total_42 : decode cX9_total 42 = .ok (.lconst 0, 1) := by decide +kernel
theorem dX9_total_43 : decode cX9_total 43 = .ok (.ladd, 1) := by decide +kernel
theorem dX9_total_44 : decode cX9_total 44 = .ok (.lstore_n 2, 1) := by decide +kernel
theorem dX9_total_45 : decode cX9_total 45 = .ok (.iinc 4 1, 3) := by decide +kernel
theorem dX9_total_48 : decode cX9_total 48 = .ok (.goto (-43), 3) := by decide +kernel
theorem dX9_total_51 : decode cX9_total 51 = .ok (.lload_n 2, 1) := by decide +kernel
theorem dX9_total_52 : decode cX9_total 52 = .ok (.lreturn, 1) := by decide +kernel
theorem dX9_often_0 : decode cX9_often 0 = .ok (.aload_n 0, 1) := by decide +kernel
theorem dX9_often_1 : decode cX9_often 1 = .ok (.iload_n 1, 1) := by decide +kernel
theorem dX9_often_2 : decode cX9_often 2 = .ok (.invokevirtual 142, 3) := by decide +kernel
theorem dX9_often_5 : decode cX9_often 5 = .ok (.ifCond .eq 13, 3) := by decide +kernel
theorem dX9_often_8 : decode cX9_often 8 = .ok (.iload_n 2, 1) := by decide +kernel
theorem dX9_often_9 : decode cX9_often 9 = .ok (.iconst 0, 1) := by decide +kernel
theorem dX9_often_10 : decode cX9_often 10 = .ok (.bipush 11, 2) := by decide +kernel
theorem dX9_often_12 : decode cX9_often 12 = .ok (.invokestatic 91, 3) := by decide +kernel
theorem dX9_often_15 : decode cX9_often 15 = .ok (.ifCond .ne 6, 3) := by decide +kernel
theorem dX9_often_18 : decode cX9_often 18 = .ok (.bipush (-2), 2) := by decide +kernel
theorem dX9_often_20 : decode cX9_often 20 = .ok (.ireturn, 1) := by decide +kernel
theorem dX9_often_21 : decode cX9_often 21 = .ok (.iconst 0, 1) := by decide +kernel
theorem dX9_often_22 : decode cX9_often 22 = .ok (.istore_n 3, 1) := by decide +kernel
theorem dX9_often_23 : decode cX9_often 23 = .ok (.iconst 0, 1) := by decide +kernel
theorem dX9_often_24 : decode cX9_often 24 = .ok (.istore 4, 2) := by decide +kernel
theorem dX9_often_26 : decode cX9_often 26 = .ok (.iload 4, 2) := by decide +kernel
theorem dX9_often_28 : decode cX9_often 28 = .ok (.sipush 4096, 3) := by decide +kernel
theorem dX9_often_31 : decode cX9_often 31 = .ok (.if_icmp .ge 36, 3) := by decide +kernel
theorem dX9_often_34 : decode cX9_often 34 = .ok (.iload_n 3, 1) := by decide +kernel
theorem dX9_often_35 : decode cX9_often 35 = .ok (.aload_n 0, 1) := by decide +kernel
theorem dX9_often_36 : decode cX9_often 36 = .ok (.iload_n 1, 1) := by decide +kernel
theorem dX9_often_37 : decode cX9_often 37 = .ok (.iload 4, 2) := by decide +kernel
theorem dX9_often_39 : decode cX9_often 39 = .ok (.invokevirtual 145, 3) := by decide +kernel
theorem dX9_often_42 : decode cX9_often 42 = .ok (.ifCond .eq 16, 3) := by decide +kernel
theorem dX9_often_45 : decode cX9_often 45 = .ok (.iload 4, 2) := by decide +kernel
theorem dX9_often_47 : decode cX9_often 47 = .ok (.iload_n 2, 1) := by decide +kernel
theorem dX9_often_48 : decode cX9_often 48 = .ok (.invokestatic 101, 3) := by decide +kernel
theorem dX9_often_51 : decode cX9_often 51 = .ok (.ifCond .eq 7, 3) := by decide +kernel
theorem dX9_often_54 : decode cX9_often 54 = .ok (.iconst 1, 1) := by decide +kernel
theorem dX9_often_55 : decode cX9_often 55 = .ok (.goto 4, 3) := by decide +kernel
theorem dX9_often_58 : decode cX9_often 58 = .ok (.iconst 0, 1) := by decide +kernel
theorem dX9_often_59 : decode cX9_often 59 = .ok (.iadd, 1) := by decide +kernel
theorem dX9_often_60 : decode cX9_often 60 = .ok (.istore_n 3, 1) := by decide +kernel
theorem dX9_often_61 : decode cX9_often 61 = .ok (.iinc 4 1, 3) := by decide +kernel
theorem dX9_often_64 : decode cX9_often 64 = .ok (.goto (-38), 3) := by decide +kernel
theorem dX9_often_67 : decode cX9_often 67 = .ok (.iload_n 3, 1) := by decide +kernel
theorem dX9_often_68 : decode cX9_often 68 = .ok (.ireturn, 1) := by decide +kernel
theorem dX9_has_0 : decode cX9_has 0 = .ok (.aload_n 0, 1) := by decide +kernel
theorem dX9_has_1 : decode cX9_has 1 = .ok (.iload_n 1, 1) := by decide +kernel
theorem dX9_has_2 : decode cX9_has 2 = .ok (.invokevirtual 142, 3) := by decide +kernel
theorem dX9_has_5 : decode cX9_has 5 = .ok (.ifCond .eq 31, 3) := by decide +kernel
theorem dX9_has_8 : decode cX9_has 8 = .ok (.iload_n 2, 1) := by decide +kernel
theorem dX9_has_9 : decode cX9_has 9 = .ok (.ifCond .lt 27, 3) := by decide +kernel
theorem dX9_has_12 : decode cX9_has 12 = .ok (.iload_n 2, 1) := by decide +kernel
theorem dX9_has_13 : decode cX9_has 13 = .ok (.sipush 4096, 3) := by decide +kernel
theorem dX9_has_16 : decode cX9_has 16 = .ok (.if_icmp .ge 16, 3) := by decide +kernel
theorem dX9_has_19 : decode cX9_has 19 = .ok (.aload_n 0, 1) := by decide +kernel
theorem dX9_has_20 : decode cX9_has 20 = .ok (.iload_n 1, 1) := by decide +kernel
theorem dX9_has_21 : decode cX9_has 21 = .ok (.iload_n 2, 1) := by decide +kernel
theorem dX9_has_22 : decode cX9_has 22 = .ok (.invokevirtual 145, 3) := by decide +kernel
theorem dX9_has_25 : decode cX9_has 25 = .ok (.ifCond .eq 7, 3) := by decide +kernel
theorem dX9_has_28 : decode cX9_has 28 = .ok (.iconst 1, 1) := by decide +kernel
theorem dX9_has_29 : decode cX9_has 29 = .ok (.goto 9, 3) := by decide +kernel
theorem dX9_has_32 : decode cX9_has 32 = .ok (.iconst 0, 1) := by decide +kernel
theorem dX9_has_33 : decode cX9_has 33 = .ok (.goto 5, 3) := by decide +kernel
theorem dX9_has_36 : decode cX9_has 36 = .ok (.bipush (-2), 2) := by decide +kernel
theorem dX9_has_38 : decode cX9_has 38 = .ok (.ireturn, 1) := by decide +kernel
theorem dX9_ordered_0 : decode cX9_ordered 0 = .ok (.iconst 0, 1) := by decide +kernel
theorem dX9_ordered_1 : decode cX9_ordered 1 = .ok (.istore_n 1, 1) := by decide +kernel
theorem dX9_ordered_2 : decode cX9_ordered 2 = .ok (.iconst 0, 1) := by decide +kernel
theorem dX9_ordered_3 : decode cX9_ordered 3 = .ok (.istore_n 2, 1) := by decide +kernel
theorem dX9_ordered_4 : decode cX9_ordered 4 = .ok (.iload_n 2, 1) := by decide +kernel
theorem dX9_ordered_5 : decode cX9_ordered 5 = .ok (.bipush 12, 2) := by decide +kernel
theorem dX9_ordered_7 : decode cX9_ordered 7 = .ok (.if_icmp .ge 30, 3) := by decide +kernel
theorem dX9_ordered_10 : decode cX9_ordered 10 = .ok (.iload_n 1, 1) := by decide +kernel
theorem dX9_ordered_11 : decode cX9_ordered 11 = .ok (.iload_n 0, 1) := by decide +kernel
theorem dX9_ordered_12 : decode cX9_ordered 12 = .ok (.iload_n 2, 1) := by decide +kernel
theorem dX9_ordered_13 : decode cX9_ordered 13 = .ok (.invokestatic 101, 3) := by decide +kernel
theorem dX9_ordered_16 : decode cX9_ordered 16 = .ok (.ifCond .eq 12, 3) := by decide +kernel
theorem dX9_ordered_19 : decode cX9_ordered 19 = .ok (.iconst 1, 1) := by decide +kernel
theorem dX9_ordered_20 : decode cX9_ordered 20 = .ok (.bipush 11, 2) := by decide +kernel
theorem dX9_ordered_22 : decode cX9_ordered 22 = .ok (.iload_n 2, 1) := by decide +kernel
theorem dX9_ordered_23 : decode cX9_ordered 23 = .ok (.isub, 1) := by decide +kernel
theorem dX9_ordered_24 : decode cX9_ordered 24 = .ok (.ishl, 1) := by decide +kernel
theorem dX9_ordered_25 : decode cX9_ordered 25 = .ok (.goto 4, 3) := by decide +kernel
theorem dX9_ordered_28 : decode cX9_ordered 28 = .ok (.iconst 0, 1) := by decide +kernel
theorem dX9_ordered_29 : decode cX9_ordered 29 = .ok (.ior, 1) := by decide +kernel
theorem dX9_ordered_30 : decode cX9_ordered 30 = .ok (.istore_n 1, 1) := by decide +kernel
theorem dX9_ordered_31 : decode cX9_ordered 31 = .ok (.iinc 2 1, 3) := by decide +kernel
theorem dX9_ordered_34 : decode cX9_ordered 34 = .ok (.goto (-30), 3) := by decide +kernel
theorem dX9_ordered_37 : decode cX9_ordered 37 = .ok (.iload_n 1, 1) := by decide +kernel
theorem dX9_ordered_38 : decode cX9_ordered 38 = .ok (.ireturn, 1) := by decide +kernel
theorem dX9_way0_0 : decode cX9_way0 0 = .ok (.iload_n 2, 1) := by decide +kernel
theorem dX9_way0_1 : decode cX9_way0 1 = .ok (.istore_n 3, 1) := by decide +kernel
theorem dX9_way0_2 : decode cX9_way0 2 = .ok (.iconst 0, 1) := by decide +kernel
theorem dX9_way0_3 : decode cX9_way0 3 = .ok (.istore 4, 2) := by decide +kernel
theorem dX9_way0_5 : decode cX9_way0 5 = .ok (.iload 4, 2) := by decide +kernel
theorem dX9_way0_7 : decode cX9_way0 7 = .ok (.sipush 4096, 3) := by decide +kernel
theorem dX9_way0_10 : decode cX9_way0 10 = .ok (.if_icmp .ge 39, 3) := by decide +kernel
theorem dX9_way0_13 : decode cX9_way0 13 = .ok (.iload_n 3, 1) := by decide +kernel
theorem dX9_way0_14 : decode cX9_way0 14 = .ok (.ifCond .lt 35, 3) := by decide +kernel
theorem dX9_way0_17 : decode cX9_way0 17 = .ok (.aload_n 0, 1) := by decide +kernel
theorem dX9_way0_18 : decode cX9_way0 18 = .ok (.iload_n 1, 1) := by decide +kernel
theorem dX9_way0_19 : decode cX9_way0 19 = .ok (.iload 4, 2) := by decide +kernel
theorem dX9_way0_21 : decode cX9_way0 21 = .ok (.invokestatic 193, 3) := by decide +kernel
theorem dX9_way0_24 : decode cX9_way0 24 = .ok (.invokevirtual 145, 3) := by decide +kernel
theorem dX9_way0_27 : decode cX9_way0 27 = .ok (.ifCond .eq 16, 3) := by decide +kernel
theorem dX9_way0_30 : decode cX9_way0 30 = .ok (.iload_n 3, 1) := by decide +kernel
theorem dX9_way0_31 : decode cX9_way0 31 = .ok (.ifCond .ne 9, 3) := by decide +kernel
theorem dX9_way0_34 : decode cX9_way0 34 = .ok (.iload 4, 2) := by decide +kernel
theorem dX9_way0_36 : decode cX9_way0 36 = .ok (.invokestatic 193, 3) := by decide +kernel
theorem dX9_way0_39 : decode cX9_way0 39 = .ok (.ireturn, 1) := by decide +kernel
theorem dX9_way0_40 : decode cX9_way0 40 = .ok (.iinc 3 (-1), 3) := by decide +kernel
theorem dX9_way0_43 : decode cX9_way0 43 = .ok (.iinc 4 1, 3) := by decide +kernel
theorem dX9_way0_46 : decode cX9_way0 46 = .ok (.goto (-41), 3) := by decide +kernel
theorem dX9_way0_49 : decode cX9_way0 49 = .ok (.iconst (-1), 1) := by decide +kernel
theorem dX9_way0_50 : decode cX9_way0 50 = .ok (.ireturn, 1) := by decide +kernel
theorem dX9_way_0 : decode cX9_way 0 = .ok (.aload_n 0, 1) := by decide +kernel
theorem dX9_way_1 : decode cX9_way 1 = .ok (.iload_n 1, 1) := by decide +kernel
theorem dX9_way_2 : decode cX9_way 2 = .ok (.invokevirtual 142, 3) := by decide +kernel
theorem dX9_way_5 : decode cX9_way 5 = .ok (.ifCond .eq 12, 3) := by decide +kernel
theorem dX9_way_8 : decode cX9_way 8 = .ok (.aload_n 0, 1) := by decide +kernel
theorem dX9_way_9 : decode cX9_way 9 = .ok (.iload_n 1, 1) := by decide +kernel
theorem dX9_way_10 : decode cX9_way 10 = .ok (.iload_n 2, 1) := by decide +kernel
theorem dX9_way_11 : decode cX9_way 11 = .ok (.invokevirtual 196, 3) := by decide +kernel
theorem dX9_way_14 : decode cX9_way 14 = .ok (.goto 5, 3) := by decide +kernel
theorem dX9_way_17 : decode cX9_way 17 = .ok (.bipush (-2), 2) := by decide +kernel
theorem dX9_way_19 : decode cX9_way 19 = .ok (.ireturn, 1) := by decide +kernel
theorem dX9_rank_0 : decode cX9_rank 0 = .ok (.aload_n 0, 1) := by decide +kernel
theorem dX9_rank_1 : decode cX9_rank 1 = .ok (.iload_n 1, 1) := by decide +kernel
theorem dX9_rank_2 : decode cX9_rank 2 = .ok (.invokevirtual 142, 3) := by decide +kernel
theorem dX9_rank_5 : decode cX9_rank 5 = .ok (.ifCond .eq 14, 3) := by decide +kernel
theorem dX9_rank_8 : decode cX9_rank 8 = .ok (.iload_n 2, 1) := by decide +kernel
theorem dX9_rank_9 : decode cX9_rank 9 = .ok (.iconst 0, 1) := by decide +kernel
theorem dX9_rank_10 : decode cX9_rank 10 = .ok (.sipush 4095, 3) := by decide +kernel
theorem dX9_rank_13 : decode cX9_rank 13 = .ok (.invokestatic 91, 3) := by decide +kernel
theorem dX9_rank_16 : decode cX9_rank 16 = .ok (.ifCond .ne 6, 3) := by decide +kernel
theorem dX9_rank_19 : decode cX9_rank 19 = .ok (.bipush (-2), 2) := by decide +kernel
theorem dX9_rank_21 : decode cX9_rank 21 = .ok (.ireturn, 1) := by decide +kernel
theorem dX9_rank_22 : decode cX9_rank 22 = .ok (.iconst 0, 1) := by decide +kernel
theorem dX9_rank_23 : decode cX9_rank 23 = .ok (.istore_n 3, 1) := by decide +kernel
theorem dX9_rank_24 : decode cX9_rank 24 = .ok (.iconst 0, 1) := by decide +kernel
theorem dX9_rank_25 : decode cX9_rank 25 = .ok (.istore 4, 2) := by decide +kernel
theorem dX9_rank_27 : decode cX9_rank 27 = .ok (.iload 4, 2) := by decide +kernel
theorem dX9_rank_29 : decode cX9_rank 29 = .ok (.iload_n 2, 1) := by decide +kernel
theorem dX9_rank_30 : decode cX9_rank 30 = .ok (.invokestatic 193, 3) := by decide +kernel
theorem dX9_rank_33 : decode cX9_rank 33 = .ok (.if_icmp .ge 30, 3) := by decide +kernel
theorem dX9_rank_36 : decode cX9_rank 36 = .ok (.iload_n 3, 1) := by decide +kernel
theorem dX9_rank_37 : decode cX9_rank 37 = .ok (.aload_n 0, 1) := by decide +kernel
theorem dX9_rank_38 : decode cX9_rank 38 = .ok (.iload_n 1, 1) := by decide +kernel
theorem dX9_rank_39 : decode cX9_rank 39 = .ok (.iload 4, 2) := by decide +kernel
theorem dX9_rank_41 : decode cX9_rank 41 = .ok (.invokestatic 193, 3) := by decide +kernel
theorem dX9_rank_44 : decode cX9_rank 44 = .ok (.invokevirtual 145, 3) := by decide +kernel
theorem dX9_rank_47 : decode cX9_rank 47 = .ok (.ifCond .eq 7, 3) := by decide +kernel
theorem dX9_rank_50 : decode cX9_rank 50 = .ok (.iconst 1, 1) := by decide +kernel
theorem dX9_rank_51 : decode cX9_rank 51 = .ok (.goto 4, 3) := by decide +kernel
theorem dX9_rank_54 : decode cX9_rank 54 = .ok (.iconst 0, 1) := by decide +kernel
theorem dX9_rank_55 : decode cX9_rank 55 = .ok (.iadd, 1) := by decide +kernel
theorem dX9_rank_56 : decode cX9_rank 56 = .ok (.istore_n 3, 1) := by decide +kernel
theorem dX9_rank_57 : decode cX9_rank 57 = .ok (.iinc 4 1, 3) := by decide +kernel
theorem dX9_rank_60 : decode cX9_rank 60 = .ok (.goto (-33), 3) := by decide +kernel
theorem dX9_rank_63 : decode cX9_rank 63 = .ok (.iload_n 3, 1) := by decide +kernel
theorem dX9_rank_64 : decode cX9_rank 64 = .ok (.ireturn, 1) := by decide +kernel
theorem dX9_best_0 : decode cX9_best 0 = .ok (.aload_n 0, 1) := by decide +kernel
theorem dX9_best_1 : decode cX9_best 1 = .ok (.iload_n 1, 1) := by decide +kernel
theorem dX9_best_2 : decode cX9_best 2 = .ok (.invokevirtual 142, 3) := by decide +kernel
theorem dX9_best_5 : decode cX9_best 5 = .ok (.ifCond .eq 12, 3) := by decide +kernel
theorem dX9_best_8 : decode cX9_best 8 = .ok (.iload_n 2, 1) := by decide +kernel
theorem dX9_best_9 : decode cX9_best 9 = .ok (.iconst 0, 1) := by decide +kernel
theorem dX9_best_10 : decode cX9_best 10 = .ok (.iconst 1, 1) := by decide +kernel
theorem dX9_best_11 : decode cX9_best 11 = .ok (.invokestatic 91, 3) := by decide +kernel
theorem dX9_best_14 : decode cX9_best 14 = .ok (.ifCond .ne 6, 3) := by decide +kernel
theorem dX9_best_17 : decode cX9_best 17 = .ok (.bipush (-2), 2) := by decide +kernel
theorem dX9_best_19 : decode cX9_best 19 = .ok (.ireturn, 1) := by decide +kernel
theorem dX9_best_20 : decode cX9_best 20 = .ok (.iload_n 3, 1) := by decide +kernel
theorem dX9_best_21 : decode cX9_best 21 = .ok (.ifCond .ge 5, 3) := by decide +kernel
theorem dX9_best_24 : decode cX9_best 24 = .ok (.iconst (-1), 1) := by decide +kernel
theorem dX9_best_25 : decode cX9_best 25 = .ok (.ireturn, 1) := by decide +kernel
theorem dX9_best_26 : decode cX9_best 26 = .ok (.iload_n 3, 1) := by decide +kernel
theorem dX9_best_27 : decode cX9_best 27 = .ok (.istore 4, 2) := by decide +kernel
theorem dX9_best_29 : decode cX9_best 29 = .ok (.sipush 600, 3) := by decide +kernel
theorem dX9_best_32 : decode cX9_best 32 = .ok (.istore 5, 2) := by decide +kernel
theorem dX9_best_34 : decode cX9_best 34 = .ok (.iload 5, 2) := by decide +kernel
theorem dX9_best_36 : decode cX9_best 36 = .ok (.sipush (-600), 3) := by decide +kernel
theorem dX9_best_39 : decode cX9_best 39 = .ok (.if_icmp .lt 75, 3) := by decide +kernel
theorem dX9_best_42 : decode cX9_best 42 = .ok (.iconst 0, 1) := by decide +kernel
theorem dX9_best_43 : decode cX9_best 43 = .ok (.istore 6, 2) := by decide +kernel
theorem dX9_best_45 : decode cX9_best 45 = .ok (.iload 6, 2) := by decide +kernel
theorem dX9_best_47 : decode cX9_best 47 = .ok (.sipush 4096, 3) := by decide +kernel
theorem dX9_best_50 : decode cX9_best 50 = .ok (.if_icmp .ge 58, 3) := by decide +kernel
theorem dX9_best_53 : decode cX9_best 53 = .ok (.iload 6, 2) := by decide +kernel
theorem dX9_best_55 : decode cX9_best 55 = .ok (.invokestatic 193, 3) := by decide +kernel
theorem dX9_best_58 : decode cX9_best 58 = .ok (.istore 7, 2) := by decide +kernel
theorem dX9_best_60 : decode cX9_best 60 = .ok (.aload_n 0, 1) := by decide +kernel
theorem dX9_best_61 : decode cX9_best 61 = .ok (.iload_n 1, 1) := by decide +kernel
theorem dX9_best_62 : decode cX9_best 62 = .ok (.iload 7, 2) := by decide +kernel
theorem dX9_best_64 : decode cX9_best 64 = .ok (.invokevirtual 145, 3) := by decide +kernel
theorem dX9_best_67 : decode cX9_best 67 = .ok (.ifCond .eq 35, 3) := by decide +kernel
theorem dX9_best_70 : decode cX9_best 70 = .ok (.aload_n 0, 1) := by decide +kernel
theorem dX9_best_71 : decode cX9_best 71 = .ok (.iload 7, 2) := by decide +kernel
theorem dX9_best_73 : decode cX9_best 73 = .ok (.invokevirtual 177, 3) := by decide +kernel
theorem dX9_best_76 : decode cX9_best 76 = .ok (.iload_n 2, 1) := by decide +kernel
theorem dX9_best_77 : decode cX9_best 77 = .ok (.ifCond .ne 8, 3) := by decide +kernel
theorem dX9_best_80 : decode cX9_best 80 = .ok (.iload 5, 2) := by decide +kernel
theorem dX9_best_82 : decode cX9_best 82 = .ok (.goto 6, 3) := by decide +kernel
theorem dX9_best_85 : decode cX9_best 85 = .ok (.iload 5, 2) := by decide +kernel
theorem dX9_best_87 : decode cX9_best 87 = .ok (.ineg, 1) := by decide +kernel
theorem dX9_best_88 : decode cX9_best 88 = .ok (.if_icmp .ne 14, 3) := by decide +kernel
theorem dX9_best_91 : decode cX9_best 91 = .ok (.iload 4, 2) := by decide +kernel
theorem dX9_best_93 : decode cX9_best 93 = .ok (.ifCond .ne 6, 3) := by decide +kernel
theorem dX9_best_96 : decode cX9_best 96 = .ok (.iload 7, 2) := by decide +kernel
theorem dX9_best_98 : decode cX9_best 98 = .ok (.ireturn, 1) := by decide +kernel
theorem dX9_best_99 : decode cX9_best 99 = .ok (.iinc 4 (-1), 3) := by decide +kernel
theorem dX9_best_102 : decode cX9_best 102 = .ok (.iinc 6 1, 3) := by decide +kernel
theorem dX9_best_105 : decode cX9_best 105 = .ok (.goto (-60), 3) := by decide +kernel
theorem dX9_best_108 : decode cX9_best 108 = .ok (.iinc 5 (-1), 3) := by decide +kernel
theorem dX9_best_111 : decode cX9_best 111 = .ok (.goto (-77), 3) := by decide +kernel
theorem dX9_best_114 : decode cX9_best 114 = .ok (.iconst (-1), 1) := by decide +kernel
theorem dX9_best_115 : decode cX9_best 115 = .ok (.ireturn, 1) := by decide +kernel
theorem dX9_draw_0 : decode cX9_draw 0 = .ok (.aload_n 0, 1) := by decide +kernel
theorem dX9_draw_1 : decode cX9_draw 1 = .ok (.iload_n 1, 1) := by decide +kernel
theorem dX9_draw_2 : decode cX9_draw 2 = .ok (.invokevirtual 142, 3) := by decide +kernel
theorem dX9_draw_5 : decode cX9_draw 5 = .ok (.ifCond .ne 6, 3) := by decide +kernel
theorem dX9_draw_8 : decode cX9_draw 8 = .ok (.bipush (-2), 2) := by decide +kernel
theorem dX9_draw_10 : decode cX9_draw 10 = .ok (.ireturn, 1) := by decide +kernel
theorem dX9_draw_11 : decode cX9_draw 11 = .ok (.aload_n 0, 1) := by decide +kernel
theorem dX9_draw_12 : decode cX9_draw 12 = .ok (.iload_n 1, 1) := by decide +kernel
theorem dX9_draw_13 : decode cX9_draw 13 = .ok (.invokevirtual 151, 3) := by decide +kernel
theorem dX9_draw_16 : decode cX9_draw 16 = .ok (.istore_n 3, 1) := by decide +kernel
theorem dX9_draw_17 : decode cX9_draw 17 = .ok (.iload_n 3, 1) := by decide +kernel
theorem dX9_draw_18 : decode cX9_draw 18 = .ok (.ifCond .ne 5, 3) := by decide +kernel
theorem dX9_draw_21 : decode cX9_draw 21 = .ok (.iconst (-1), 1) := by decide +kernel
theorem dX9_draw_22 : decode cX9_draw 22 = .ok (.ireturn, 1) := by decide +kernel
theorem dX9_draw_23 : decode cX9_draw 23 = .ok (.iconst 0, 1) := by decide +kernel
theorem dX9_draw_24 : decode cX9_draw 24 = .ok (.istore 4, 2) := by decide +kernel
theorem dX9_draw_26 : decode cX9_draw 26 = .ok (.iconst 1, 1) := by decide +kernel
theorem dX9_draw_27 : decode cX9_draw 27 = .ok (.iload 4, 2) := by decide +kernel
theorem dX9_draw_29 : decode cX9_draw 29 = .ok (.ishl, 1) := by decide +kernel
theorem dX9_draw_30 : decode cX9_draw 30 = .ok (.iload_n 3, 1) := by decide +kernel
theorem dX9_draw_31 : decode cX9_draw 31 = .ok (.if_icmp .ge 9, 3) := by decide +kernel
theorem dX9_draw_34 : decode cX9_draw 34 = .ok (.iinc 4 1, 3) := by decide +kernel
theorem dX9_draw_37 : decode cX9_draw 37 = .ok (.goto (-11), 3) := by decide +kernel
theorem dX9_draw_40 : decode cX9_draw 40 = .ok (.iload_n 2, 1) := by decide +kernel
theorem dX9_draw_41 : decode cX9_draw 41 = .ok (.istore 5, 2) := by decide +kernel
theorem dX9_draw_43 : decode cX9_draw 43 = .ok (.iload_n 3, 1) := by decide +kernel
theorem dX9_draw_44 : decode cX9_draw 44 = .ok (.istore 6, 2) := by decide +kernel
theorem dX9_draw_46 : decode cX9_draw 46 = .ok (.iconst 0, 1) := by decide +kernel
theorem dX9_draw_47 : decode cX9_draw 47 = .ok (.istore 7, 2) := by decide +kernel
theorem dX9_draw_49 : decode cX9_draw 49 = .ok (.iload 7, 2) := by decide +kernel
theorem dX9_draw_51 : decode cX9_draw 51 = .ok (.sipush 1000, 3) := by decide +kernel
theorem dX9_draw_54 : decode cX9_draw 54 = .ok (.if_icmp .ge 45, 3) := by decide +kernel
theorem dX9_draw_57 : decode cX9_draw 57 = .ok (.iload 6, 2) := by decide +kernel
theorem dX9_draw_59 : decode cX9_draw 59 = .ok (.iload_n 3, 1) := by decide +kernel
theorem dX9_draw_60 : decode cX9_draw 60 = .ok (.if_icmp .lt 39, 3) := by decide +kernel
theorem dX9_draw_63 : decode cX9_draw 63 = .ok (.iload 5, 2) := by decide +kernel
theorem dX9_draw_65 : decode cX9_draw 65 = .ok (.ldc 199, 2) := by decide +kernel
theorem dX9_draw_67 : decode cX9_draw 67 = .ok (.imul, 1) := by decide +kernel
theorem dX9_draw_68 : decode cX9_draw 68 = .ok (.sipush 12345, 3) := by decide +kernel
theorem dX9_draw_71 : decode cX9_draw 71 = .ok (.iadd, 1) := by decide +kernel
theorem dX9_draw_72 : decode cX9_draw 72 = .ok (.istore 5, 2) := by decide +kernel
theorem dX9_draw_74 : decode cX9_draw 74 = .ok (.iload 4, 2) := by decide +kernel
theorem dX9_draw_76 : decode cX9_draw 76 = .ok (.ifCond .ne 7, 3) := by decide +kernel
theorem dX9_draw_79 : decode cX9_draw 79 = .ok (.iconst 0, 1) := by decide +kernel
theorem dX9_draw_80 : decode cX9_draw 80 = .ok (.goto 11, 3) := by decide +kernel
theorem dX9_draw_83 : decode cX9_draw 83 = .ok (.iload 5, 2) := by decide +kernel
theorem dX9_draw_85 : decode cX9_draw 85 = .ok (.bipush 32, 2) := by decide +kernel
theorem dX9_draw_87 : decode cX9_draw 87 = .ok (.iload 4, 2) := by decide +kernel
theorem dX9_draw_89 : decode cX9_draw 89 = .ok (.isub, 1) := by decide +kernel
theorem dX9_draw_90 : decode cX9_draw 90 = .ok (.iushr, 1) := by decide +kernel
theorem dX9_draw_91 : decode cX9_draw 91 = .ok (.istore 6, 2) := by decide +kernel
theorem dX9_draw_93 : decode cX9_draw 93 = .ok (.iinc 7 1, 3) := by decide +kernel
theorem dX9_draw_96 : decode cX9_draw 96 = .ok (.goto (-47), 3) := by decide +kernel
theorem dX9_draw_99 : decode cX9_draw 99 = .ok (.aload_n 0, 1) := by decide +kernel
theorem dX9_draw_100 : decode cX9_draw 100 = .ok (.iload_n 1, 1) := by decide +kernel
theorem dX9_draw_101 : decode cX9_draw 101 = .ok (.iload 6, 2) := by decide +kernel
theorem dX9_draw_103 : decode cX9_draw 103 = .ok (.iload_n 3, 1) := by decide +kernel
theorem dX9_draw_104 : decode cX9_draw 104 = .ok (.irem, 1) := by decide +kernel
theorem dX9_draw_105 : decode cX9_draw 105 = .ok (.invokevirtual 196, 3) := by decide +kernel
theorem dX9_draw_108 : decode cX9_draw 108 = .ok (.ireturn, 1) := by decide +kernel
theorem dX9_same_0 : decode cX9_same 0 = .ok (.aload_n 0, 1) := by decide +kernel
theorem dX9_same_1 : decode cX9_same 1 = .ok (.iload_n 1, 1) := by decide +kernel
theorem dX9_same_2 : decode cX9_same 2 = .ok (.invokevirtual 142, 3) := by decide +kernel
theorem dX9_same_5 : decode cX9_same 5 = .ok (.ifCond .eq 11, 3) := by decide +kernel
theorem dX9_same_8 : decode cX9_same 8 = .ok (.aload_n 0, 1) := by decide +kernel
theorem dX9_same_9 : decode cX9_same 9 = .ok (.iload_n 2, 1) := by decide +kernel
theorem dX9_same_10 : decode cX9_same 10 = .ok (.invokevirtual 142, 3) := by decide +kernel
theorem dX9_same_13 : decode cX9_same 13 = .ok (.ifCond .ne 6, 3) := by decide +kernel
theorem dX9_same_16 : decode cX9_same 16 = .ok (.bipush (-2), 2) := by decide +kernel
theorem dX9_same_18 : decode cX9_same 18 = .ok (.ireturn, 1) := by decide +kernel
theorem dX9_same_19 : decode cX9_same 19 = .ok (.iconst 1, 1) := by decide +kernel
theorem dX9_same_20 : decode cX9_same 20 = .ok (.istore_n 3, 1) := by decide +kernel
theorem dX9_same_21 : decode cX9_same 21 = .ok (.iconst 0, 1) := by decide +kernel
theorem dX9_same_22 : decode cX9_same 22 = .ok (.istore 4, 2) := by decide +kernel
theorem dX9_same_24 : decode cX9_same 24 = .ok (.iload 4, 2) := by decide +kernel
theorem dX9_same_26 : decode cX9_same 26 = .ok (.sipush 4096, 3) := by decide +kernel
theorem dX9_same_29 : decode cX9_same 29 = .ok (.if_icmp .ge 36, 3) := by decide +kernel
theorem dX9_same_32 : decode cX9_same 32 = .ok (.iload_n 3, 1) := by decide +kernel
theorem dX9_same_33 : decode cX9_same 33 = .ok (.ifCond .eq 24, 3) := by decide +kernel
theorem dX9_same_36 : decode cX9_same 36 = .ok (.aload_n 0, 1) := by decide +kernel
theorem dX9_same_37 : decode cX9_same 37 = .ok (.iload_n 1, 1) := by decide +kernel
theorem dX9_same_38 : decode cX9_same 38 = .ok (.iload 4, 2) := by decide +kernel
theorem dX9_same_40 : decode cX9_same 40 = .ok (.invokevirtual 145, 3) := by decide +kernel
theorem dX9_same_43 : decode cX9_same 43 = .ok (.aload_n 0, 1) := by decide +kernel
theorem dX9_same_44 : decode cX9_same 44 = .ok (.iload_n 2, 1) := by decide +kernel
theorem dX9_same_45 : decode cX9_same 45 = .ok (.iload 4, 2) := by decide +kernel
theorem dX9_same_47 : decode cX9_same 47 = .ok (.invokevirtual 145, 3) := by decide +kernel
theorem dX9_same_50 : decode cX9_same 50 = .ok (.if_icmp .ne 7, 3) := by decide +kernel
theorem dX9_same_53 : decode cX9_same 53 = .ok (.iconst 1, 1) := by decide +kernel
theorem dX9_same_54 : decode cX9_same 54 = .ok (.goto 4, 3) := by decide +kernel
theorem dX9_same_57 : decode cX9_same 57 = .ok (.iconst 0, 1) := by decide +kernel
theorem dX9_same_58 : decode cX9_same 58 = .ok (.istore_n 3, 1) := by decide +kernel
theorem dX9_same_59 : decode cX9_same 59 = .ok (.iinc 4 1, 3) := by decide +kernel
theorem dX9_same_62 : decode cX9_same 62 = .ok (.goto (-38), 3) := by decide +kernel
theorem dX9_same_65 : decode cX9_same 65 = .ok (.iload_n 3, 1) := by decide +kernel
theorem dX9_same_66 : decode cX9_same 66 = .ok (.ifCond .eq 7, 3) := by decide +kernel
theorem dX9_same_69 : decode cX9_same 69 = .ok (.iconst 1, 1) := by decide +kernel
theorem dX9_same_70 : decode cX9_same 70 = .ok (.goto 4, 3) := by decide +kernel
theorem dX9_same_73 : decode cX9_same 73 = .ok (.iconst 0, 1) := by decide +kernel
theorem dX9_same_74 : decode cX9_same 74 = .ok (.ireturn, 1) := by decide +kernel
theorem dX9_chance0_0 : decode cX9_chance0 0 = .ok (.iconst 0, 1) := by decide +kernel
theorem dX9_chance0_1 : decode cX9_chance0 1 = .ok (.istore 4, 2) := by decide +kernel
theorem dX9_chance0_3 : decode cX9_chance0 3 = .ok (.iload 4, 2) := by decide +kernel
theorem dX9_chance0_5 : decode cX9_chance0 5 = .ok (.sipush 4096, 3) := by decide +kernel
theorem dX9_chance0_8 : decode cX9_chance0 8 = .ok (.if_icmp .ge 23, 3) := by decide +kernel
theorem dX9_chance0_11 : decode cX9_chance0 11 = .ok (.aload_n 0, 1) := by decide +kernel
theorem dX9_chance0_12 : decode cX9_chance0 12 = .ok (.getfield 57, 3) := by decide +kernel
theorem dX9_chance0_15 : decode cX9_chance0 15 = .ok (.iload 4, 2) := by decide +kernel
theorem dX9_chance0_17 : decode cX9_chance0 17 = .ok (.aload_n 0, 1) := by decide +kernel
theorem dX9_chance0_18 : decode cX9_chance0 18 = .ok (.iload_n 1, 1) := by decide +kernel
theorem dX9_chance0_19 : decode cX9_chance0 19 = .ok (.iload 4, 2) := by decide +kernel
theorem dX9_chance0_21 : decode cX9_chance0 21 = .ok (.invokevirtual 145, 3) := by decide +kernel
theorem dX9_chance0_24 : decode cX9_chance0 24 = .ok (.bastore, 1) := by decide +kernel
theorem dX9_chance0_25 : decode cX9_chance0 25 = .ok (.iinc 4 1, 3) := by decide +kernel
theorem dX9_chance0_28 : decode cX9_chance0 28 = .ok (.goto (-25), 3) := by decide +kernel
theorem dX9_chance0_31 : decode cX9_chance0 31 = .ok (.iconst 0, 1) := by decide +kernel
theorem dX9_chance0_32 : decode cX9_chance0 32 = .ok (.istore 4, 2) := by decide +kernel
theorem dX9_chance0_34 : decode cX9_chance0 34 = .ok (.iload 4, 2) := by decide +kernel
theorem dX9_chance0_36 : decode cX9_chance0 36 = .ok (.bipush 12, 2) := by decide +kernel
theorem dX9_chance0_38 : decode cX9_chance0 38 = .ok (.if_icmp .ge 75, 3) := by decide +kernel
theorem dX9_chance0_41 : decode cX9_chance0 41 = .ok (.iconst 0, 1) := by decide +kernel
theorem dX9_chance0_42 : decode cX9_chance0 42 = .ok (.istore 5, 2) := by decide +kernel
theorem dX9_chance0_44 : decode cX9_chance0 44 = .ok (.iload 5, 2) := by decide +kernel
theorem dX9_chance0_46 : decode cX9_chance0 46 = .ok (.sipush 4096, 3) := by decide +kernel
theorem dX9_chance0_49 : decode cX9_chance0 49 = .ok (.if_icmp .ge 58, 3) := by decide +kernel
theorem dX9_chance0_52 : decode cX9_chance0 52 = .ok (.aload_n 0, 1) := by decide +kernel
theorem dX9_chance0_53 : decode cX9_chance0 53 = .ok (.getfield 57, 3) := by decide +kernel
theorem dX9_chance0_56 : decode cX9_chance0 56 = .ok (.iload 5, 2) := by decide +kernel
theorem dX9_chance0_58 : decode cX9_chance0 58 = .ok (.aload_n 0, 1) := by decide +kernel
theorem dX9_chance0_59 : decode cX9_chance0 59 = .ok (.getfield 57, 3) := by decide +kernel
theorem dX9_chance0_62 : decode cX9_chance0 62 = .ok (.iload 5, 2) := by decide +kernel
theorem dX9_chance0_64 : decode cX9_chance0 64 = .ok (.baload, 1) := by decide +kernel
theorem dX9_chance0_65 : decode cX9_chance0 65 = .ok (.ifCond .ne 30, 3) := by decide +kernel
theorem dX9_chance0_68 : decode cX9_chance0 68 = .ok (.iload 5, 2) := by decide +kernel
theorem dX9_chance0_70 : decode cX9_chance0 70 = .ok (.iload 4, 2) := by decide +kernel
theorem dX9_chance0_72 : decode cX9_chance0 72 = .ok (.invokestatic 101, 3) := by decide +kernel
theorem dX9_chance0_75 : decode cX9_chance0 75 = .ok (.ifCond .eq 24, 3) := by decide +kernel
theorem dX9_chance0_78 : decode cX9_chance0 78 = .ok (.aload_n 0, 1) := by decide +kernel
theorem dX9_chance0_79 : decode cX9_chance0 79 = .ok (.getfield 57, 3) := by decide +kernel
theorem dX9_chance0_82 : decode cX9_chance0 82 = .ok (.iload 5, 2) := by decide +kernel
theorem dX9_chance0_84 : decode cX9_chance0 84 = .ok (.iconst 1, 1) := by decide +kernel
theorem dX9_chance0_85 : decode cX9_chance0 85 = .ok (.iload 4, 2) := by decide +kernel
theorem dX9_chance0_87 : decode cX9_chance0 87 = .ok (.ishl, 1) := by decide +kernel
theorem dX9_chance0_88 : decode cX9_chance0 88 = .ok (.iconst (-1), 1) := by decide +kernel
theorem dX9_chance0_89 : decode cX9_chance0 89 = .ok (.ixor, 1) := by decide +kernel
theorem dX9_chance0_90 : decode cX9_chance0 90 = .ok (.iand, 1) := by decide +kernel
theorem dX9_chance0_91 : decode cX9_chance0 91 = .ok (.baload, 1) := by decide +kernel
theorem dX9_chance0_92 : decode cX9_chance0 92 = .ok (.ifCond .eq 7, 3) := by decide +kernel
theorem dX9_chance0_95 : decode cX9_chance0 95 = .ok (.iconst 1, 1) := by decide +kernel
theorem dX9_chance0_96 : decode cX9_chance0 96 = .ok (.goto 4, 3) := by decide +kernel
theorem dX9_chance0_99 : decode cX9_chance0 99 = .ok (.iconst 0, 1) := by decide +kernel
theorem dX9_chance0_100 : decode cX9_chance0 100 = .ok (.bastore, 1) := by decide +kernel
theorem dX9_chance0_101 : decode cX9_chance0 101 = .ok (.iinc 5 1, 3) := by decide +kernel
theorem dX9_chance0_104 : decode cX9_chance0 104 = .ok (.goto (-60), 3) := by decide +kernel
theorem dX9_chance0_107 : decode cX9_chance0 107 = .ok (.iinc 4 1, 3) := by decide +kernel
theorem dX9_chance0_110 : decode cX9_chance0 110 = .ok (.goto (-76), 3) := by decide +kernel
theorem dX9_chance0_113 : decode cX9_chance0 113 = .ok (.lconst 0, 1) := by decide +kernel
theorem dX9_chance0_114 : decode cX9_chance0 114 = .ok (.lstore 4, 2) := by decide +kernel
theorem dX9_chance0_116 : decode cX9_chance0 116 = .ok (.iconst 0, 1) := by decide +kernel
theorem dX9_chance0_117 : decode cX9_chance0 117 = .ok (.istore 6, 2) := by decide +kernel
theorem dX9_chance0_119 : decode cX9_chance0 119 = .ok (.iload 6, 2) := by decide +kernel
theorem dX9_chance0_121 : decode cX9_chance0 121 = .ok (.aload_n 0, 1) := by decide +kernel
theorem dX9_chance0_122 : decode cX9_chance0 122 = .ok (.invokevirtual 112, 3) := by decide +kernel
theorem dX9_chance0_125 : decode cX9_chance0 125 = .ok (.if_icmp .ge 118, 3) := by decide +kernel
theorem dX9_chance0_128 : decode cX9_chance0 128 = .ok (.aload_n 0, 1) := by decide +kernel
theorem dX9_chance0_129 : decode cX9_chance0 129 = .ok (.getfield 57, 3) := by decide +kernel
theorem dX9_chance0_132 : decode cX9_chance0 132 = .ok (.iload 6, 2) := by decide +kernel
theorem dX9_chance0_134 : decode cX9_chance0 134 = .ok (.baload, 1) := by decide +kernel
theorem dX9_chance0_135 : decode cX9_chance0 135 = .ok (.ifCond .eq 7, 3) := by decide +kernel
theorem dX9_chance0_138 : decode cX9_chance0 138 = .ok (.lconst 1, 1) := by decide +kernel
theorem dX9_chance0_139 : decode cX9_chance0 139 = .ok (.goto 4, 3) := by decide +kernel
theorem dX9_chance0_142 : decode cX9_chance0 142 = .ok (.lconst 0, 1) := by decide +kernel
theorem dX9_chance0_143 : decode cX9_chance0 143 = .ok (.lstore 7, 2) := by decide +kernel
theorem dX9_chance0_145 : decode cX9_chance0 145 = .ok (.iconst 0, 1) := by decide +kernel
theorem dX9_chance0_146 : decode cX9_chance0 146 = .ok (.istore 9, 2) := by decide +kernel
theorem dX9_chance0_148 : decode cX9_chance0 148 = .ok (.iload 9, 2) := by decide +kernel
theorem dX9_chance0_150 : decode cX9_chance0 150 = .ok (.bipush 12, 2) := by decide +kernel
theorem dX9_chance0_152 : decode cX9_chance0 152 = .ok (.if_icmp .ge 78, 3) := by decide +kernel
theorem dX9_chance0_155 : decode cX9_chance0 155 = .ok (.iload 9, 2) := by decide +kernel
theorem dX9_chance0_157 : decode cX9_chance0 157 = .ok (.aload_n 0, 1) := by decide +kernel
theorem dX9_chance0_158 : decode cX9_chance0 158 = .ok (.getfield 98, 3) := by decide +kernel
theorem dX9_chance0_161 : decode cX9_chance0 161 = .ok (.if_icmp .lt 8, 3) := by decide +kernel
theorem dX9_chance0_164 : decode cX9_chance0 164 = .ok (.bipush 8, 2) := by decide +kernel
theorem dX9_chance0_166 : decode cX9_chance0 166 = .ok (.goto 20, 3) := by decide +kernel
theorem dX9_chance0_169 : decode cX9_chance0 169 = .ok (.iload 9, 2) := by decide +kernel
theorem dX9_chance0_171 : decode cX9_chance0 171 = .ok (.iload_n 2, 1) := by decide +kernel
theorem dX9_chance0_172 : decode cX9_chance0 172 = .ok (.if_icmp .ne 7, 3) := by decide +kernel
theorem dX9_chance0_175 : decode cX9_chance0 175 = .ok (.iload_n 3, 1) := by decide +kernel
theorem dX9_chance0_176 : decode cX9_chance0 176 = .ok (.goto 10, 3) := by decide +kernel
theorem dX9_chance0_179 : decode cX9_chance0 179 = .ok (.aload_n 0, 1) := by decide +kernel
theorem dX9_chance0_180 : decode cX9_chance0 180 = .ok (.getfield 19, 3) := by decide +kernel
theorem dX9_chance0_183 : decode cX9_chance0 183 = .ok (.iload 9, 2) := by decide +kernel
theorem dX9_chance0_185 : decode cX9_chance0 185 = .ok (.iaload, 1) := by decide +kernel
theorem dX9_chance0_186 : decode cX9_chance0 186 = .ok (.istore 10, 2) := by decide +kernel
theorem dX9_chance0_188 : decode cX9_chance0 188 = .ok (.lload 7, 2) := by decide +kernel
theorem dX9_chance0_190 : decode cX9_chance0 190 = .ok (.iload 9, 2) := by decide +kernel
theorem dX9_chance0_192 : decode cX9_chance0 192 = .ok (.aload_n 0, 1) := by decide +kernel
theorem dX9_chance0_193 : decode cX9_chance0 193 = .ok (.getfield 98, 3) := by decide +kernel
theorem dX9_chance0_196 : decode cX9_chance0 196 = .ok (.if_icmp .ge 13, 3) := by decide +kernel
theorem dX9_chance0_199 : decode cX9_chance0 199 = .ok (.iload 6, 2) := by decide +kernel
theorem dX9_chance0_201 : decode cX9_chance0 201 = .ok (.iload 9, 2) := by decide +kernel
theorem dX9_chance0_203 : decode cX9_chance0 203 = .ok (.invokestatic 101, 3) := by decide +kernel
theorem dX9_chance0_206 : decode cX9_chance0 206 = .ok (.ifCond .eq 9, 3) := by decide +kernel
theorem dX9_chance0_209 : decode cX9_chance0 209 = .ok (.iload 10, 2) := by decide +kernel
theorem dX9_chance0_211 : decode cX9_chance0 211 = .ok (.i2l, 1) := by decide +kernel
theorem dX9_chance0_212 : decode cX9_chance0 212 = .ok (.goto 9, 3) := by decide +kernel
theorem dX9_chance0_215 : decode cX9_chance0 215 = .ok (.bipush 8, 2) := by decide +kernel
theorem dX9_chance0_217 : decode cX9_chance0 217 = .ok (.iload 10, 2) := by decide +kernel
theorem dX9_chance0_219 : decode cX9_chance0 219 = .ok (.isub, 1) := by decide +kernel
theorem dX9_chance0_220 : decode cX9_chance0 220 = .ok (.i2l, 1) := by decide +kernel
theorem dX9_chance0_221 : decode cX9_chance0 221 = .ok (.lmul, 1) := by decide +kernel
theorem dX9_chance0_222 : decode cX9_chance0 222 = .ok (.lstore 7, 2) := by decide +kernel
theorem dX9_chance0_224 : decode cX9_chance0 224 = .ok (.iinc 9 1, 3) := by decide +kernel
theorem dX9_chance0_227 : decode cX9_chance0 227 = .ok (.goto (-79), 3) := by decide +kernel
theorem dX9_chance0_230 : decode cX9_chance0 230 = .ok (.lload 4, 2) := by decide +kernel
theorem dX9_chance0_232 : decode cX9_chance0 232 = .ok (.lload 7, 2) := by decide +kernel
theorem dX9_chance0_234 : decode cX9_chance0 234 = .ok (.ladd, 1) := by decide +kernel
theorem dX9_chance0_235 : decode cX9_chance0 235 = .ok (.lstore 4, 2) := by decide +kernel
theorem dX9_chance0_237 : decode cX9_chance0 237 = .ok (.iinc 6 1, 3) := by decide +kernel
theorem dX9_chance0_240 : decode cX9_chance0 240 = .ok (.goto (-121), 3) := by decide +kernel
theorem dX9_chance0_243 : decode cX9_chance0 243 = .ok (.lload 4, 2) := by decide +kernel
theorem dX9_chance0_245 : decode cX9_chance0 245 = .ok (.lreturn, 1) := by decide +kernel
theorem dX9_chance_0 : decode cX9_chance 0 = .ok (.aload_n 0, 1) := by decide +kernel
theorem dX9_chance_1 : decode cX9_chance 1 = .ok (.iload_n 1, 1) := by decide +kernel
theorem dX9_chance_2 : decode cX9_chance 2 = .ok (.invokevirtual 142, 3) := by decide +kernel
theorem dX9_chance_5 : decode cX9_chance 5 = .ok (.ifCond .eq 13, 3) := by decide +kernel
theorem dX9_chance_8 : decode cX9_chance 8 = .ok (.aload_n 0, 1) := by decide +kernel
theorem dX9_chance_9 : decode cX9_chance 9 = .ok (.iload_n 1, 1) := by decide +kernel
theorem dX9_chance_10 : decode cX9_chance 10 = .ok (.iconst (-1), 1) := by decide +kernel
theorem dX9_chance_11 : decode cX9_chance 11 = .ok (.iconst 0, 1) := by decide +kernel
theorem dX9_chance_12 : decode cX9_chance 12 = .ok (.invokevirtual 200, 3) := by decide +kernel
theorem dX9_chance_15 : decode cX9_chance 15 = .ok (.goto 6, 3) := by decide +kernel
theorem dX9_chance_18 : decode cX9_chance 18 = .ok (.ldc2_w 204, 3) := by decide +kernel
theorem dX9_chance_21 : decode cX9_chance 21 = .ok (.lreturn, 1) := by decide +kernel
theorem dX9_matters_0 : decode cX9_matters 0 = .ok (.aload_n 0, 1) := by decide +kernel
theorem dX9_matters_1 : decode cX9_matters 1 = .ok (.iload_n 1, 1) := by decide +kernel
theorem dX9_matters_2 : decode cX9_matters 2 = .ok (.invokevirtual 142, 3) := by decide +kernel
theorem dX9_matters_5 : decode cX9_matters 5 = .ok (.ifCond .eq 36, 3) := by decide +kernel
theorem dX9_matters_8 : decode cX9_matters 8 = .ok (.iload_n 2, 1) := by decide +kernel
theorem dX9_matters_9 : decode cX9_matters 9 = .ok (.iconst 0, 1) := by decide +kernel
theorem dX9_matters_10 : decode cX9_matters 10 = .ok (.aload_n 0, 1) := by decide +kernel
theorem dX9_matters_11 : decode cX9_matters 11 = .ok (.getfield 98, 3) := by decide +kernel
theorem dX9_matters_14 : decode cX9_matters 14 = .ok (.iconst 1, 1) := by decide +kernel
theorem dX9_matters_15 : decode cX9_matters 15 = .ok (.isub, 1) := by decide +kernel
theorem dX9_matters_16 : decode cX9_matters 16 = .ok (.invokestatic 91, 3) := by decide +kernel
theorem dX9_matters_19 : decode cX9_matters 19 = .ok (.ifCond .eq 22, 3) := by decide +kernel
theorem dX9_matters_22 : decode cX9_matters 22 = .ok (.aload_n 0, 1) := by decide +kernel
theorem dX9_matters_23 : decode cX9_matters 23 = .ok (.iload_n 1, 1) := by decide +kernel
theorem dX9_matters_24 : decode cX9_matters 24 = .ok (.iload_n 2, 1) := by decide +kernel
theorem dX9_matters_25 : decode cX9_matters 25 = .ok (.bipush 8, 2) := by decide +kernel
theorem dX9_matters_27 : decode cX9_matters 27 = .ok (.invokevirtual 200, 3) := by decide +kernel
theorem dX9_matters_30 : decode cX9_matters 30 = .ok (.aload_n 0, 1) := by decide +kernel
theorem dX9_matters_31 : decode cX9_matters 31 = .ok (.iload_n 1, 1) := by decide +kernel
theorem dX9_matters_32 : decode cX9_matters 32 = .ok (.iload_n 2, 1) := by decide +kernel
theorem dX9_matters_33 : decode cX9_matters 33 = .ok (.iconst 0, 1) := by decide +kernel
theorem dX9_matters_34 : decode cX9_matters 34 = .ok (.invokevirtual 200, 3) := by decide +kernel
theorem dX9_matters_37 : decode cX9_matters 37 = .ok (.lsub, 1) := by decide +kernel
theorem dX9_matters_38 : decode cX9_matters 38 = .ok (.goto 6, 3) := by decide +kernel
theorem dX9_matters_41 : decode cX9_matters 41 = .ok (.ldc2_w 204, 3) := by decide +kernel
theorem dX9_matters_44 : decode cX9_matters 44 = .ok (.lreturn, 1) := by decide +kernel
theorem dX9_turned_0 : decode cX9_turned 0 = .ok (.aload_n 0, 1) := by decide +kernel
theorem dX9_turned_1 : decode cX9_turned 1 = .ok (.iload_n 1, 1) := by decide +kernel
theorem dX9_turned_2 : decode cX9_turned 2 = .ok (.invokevirtual 142, 3) := by decide +kernel
theorem dX9_turned_5 : decode cX9_turned 5 = .ok (.ifCond .eq 13, 3) := by decide +kernel
theorem dX9_turned_8 : decode cX9_turned 8 = .ok (.iload_n 2, 1) := by decide +kernel
theorem dX9_turned_9 : decode cX9_turned 9 = .ok (.iconst 1, 1) := by decide +kernel
theorem dX9_turned_10 : decode cX9_turned 10 = .ok (.bipush 12, 2) := by decide +kernel
theorem dX9_turned_12 : decode cX9_turned 12 = .ok (.invokestatic 91, 3) := by decide +kernel
theorem dX9_turned_15 : decode cX9_turned 15 = .ok (.ifCond .ne 6, 3) := by decide +kernel
theorem dX9_turned_18 : decode cX9_turned 18 = .ok (.bipush (-2), 2) := by decide +kernel
theorem dX9_turned_20 : decode cX9_turned 20 = .ok (.ireturn, 1) := by decide +kernel
theorem dX9_turned_21 : decode cX9_turned 21 = .ok (.aload_n 0, 1) := by decide +kernel
theorem dX9_turned_22 : decode cX9_turned 22 = .ok (.iload_n 1, 1) := by decide +kernel
theorem dX9_turned_23 : decode cX9_turned 23 = .ok (.iload_n 2, 1) := by decide +kernel
theorem dX9_turned_24 : decode cX9_turned 24 = .ok (.invokevirtual 190, 3) := by decide +kernel
theorem dX9_turned_27 : decode cX9_turned 27 = .ok (.pop, 1) := by decide +kernel
theorem dX9_turned_28 : decode cX9_turned 28 = .ok (.aload_n 0, 1) := by decide +kernel
theorem dX9_turned_29 : decode cX9_turned 29 = .ok (.getfield 180, 3) := by decide +kernel
theorem dX9_turned_32 : decode cX9_turned 32 = .ok (.ireturn, 1) := by decide +kernel
theorem dX9_ref_0 : decode cX9_ref 0 = .ok (.iload_n 1, 1) := by decide +kernel
theorem dX9_ref_1 : decode cX9_ref 1 = .ok (.ifCond .ge 7, 3) := by decide +kernel
theorem dX9_ref_4 : decode cX9_ref 4 = .ok (.iload_n 1, 1) := by decide +kernel
theorem dX9_ref_5 : decode cX9_ref 5 = .ok (.goto 9, 3) := by decide +kernel
theorem dX9_ref_8 : decode cX9_ref 8 = .ok (.aload_n 0, 1) := by decide +kernel
theorem dX9_ref_9 : decode cX9_ref 9 = .ok (.getfield 75, 3) := by decide +kernel
theorem dX9_ref_12 : decode cX9_ref 12 = .ok (.iload_n 1, 1) := by decide +kernel
theorem dX9_ref_13 : decode cX9_ref 13 = .ok (.iaload, 1) := by decide +kernel
theorem dX9_ref_14 : decode cX9_ref 14 = .ok (.ireturn, 1) := by decide +kernel
theorem dX9_countOf_0 : decode cX9_countOf 0 = .ok (.iload_n 1, 1) := by decide +kernel
theorem dX9_countOf_1 : decode cX9_countOf 1 = .ok (.iconst (-1), 1) := by decide +kernel
theorem dX9_countOf_2 : decode cX9_countOf 2 = .ok (.if_icmp .ne 7, 3) := by decide +kernel
theorem dX9_countOf_5 : decode cX9_countOf 5 = .ok (.iconst 0, 1) := by decide +kernel
theorem dX9_countOf_6 : decode cX9_countOf 6 = .ok (.goto 23, 3) := by decide +kernel
theorem dX9_countOf_9 : decode cX9_countOf 9 = .ok (.iload_n 1, 1) := by decide +kernel
theorem dX9_countOf_10 : decode cX9_countOf 10 = .ok (.bipush (-2), 2) := by decide +kernel
theorem dX9_countOf_12 : decode cX9_countOf 12 = .ok (.if_icmp .ne 7, 3) := by decide +kernel
theorem dX9_countOf_15 : decode cX9_countOf 15 = .ok (.iconst 1, 1) := by decide +kernel
theorem dX9_countOf_16 : decode cX9_countOf 16 = .ok (.goto 13, 3) := by decide +kernel
theorem dX9_countOf_19 : decode cX9_countOf 19 = .ok (.aload_n 0, 1) := by decide +kernel
theorem dX9_countOf_20 : decode cX9_countOf 20 = .ok (.getfield 84, 3) := by decide +kernel
theorem dX9_countOf_23 : decode cX9_countOf 23 = .ok (.iconst 4, 1) := by decide +kernel
theorem dX9_countOf_24 : decode cX9_countOf 24 = .ok (.iload_n 1, 1) := by decide +kernel
theorem dX9_countOf_25 : decode cX9_countOf 25 = .ok (.imul, 1) := by decide +kernel
theorem dX9_countOf_26 : decode cX9_countOf 26 = .ok (.iconst 3, 1) := by decide +kernel
theorem dX9_countOf_27 : decode cX9_countOf 27 = .ok (.iadd, 1) := by decide +kernel
theorem dX9_countOf_28 : decode cX9_countOf 28 = .ok (.iaload, 1) := by decide +kernel
theorem dX9_countOf_29 : decode cX9_countOf 29 = .ok (.ireturn, 1) := by decide +kernel
theorem dX9_writeKnot_0 : decode cX9_writeKnot 0 = .ok (.aload_n 0, 1) := by decide +kernel
theorem dX9_writeKnot_1 : decode cX9_writeKnot 1 = .ok (.getfield 75, 3) := by decide +kernel
theorem dX9_writeKnot_4 : decode cX9_writeKnot 4 = .ok (.iload_n 1, 1) := by decide +kernel
theorem dX9_writeKnot_5 : decode cX9_writeKnot 5 = .ok (.aload_n 0, 1) := by decide +kernel
theorem dX9_writeKnot_6 : decode cX9_writeKnot 6 = .ok (.getfield 206, 3) := by decide +kernel
theorem dX9_writeKnot_9 : decode cX9_writeKnot 9 = .ok (.iastore, 1) := by decide +kernel
theorem dX9_writeKnot_10 : decode cX9_writeKnot 10 = .ok (.aload_n 0, 1) := by decide +kernel
theorem dX9_writeKnot_11 : decode cX9_writeKnot 11 = .ok (.getfield 84, 3) := by decide +kernel
theorem dX9_writeKnot_14 : decode cX9_writeKnot 14 = .ok (.iconst 4, 1) := by decide +kernel
theorem dX9_writeKnot_15 : decode cX9_writeKnot 15 = .ok (.aload_n 0, 1) := by decide +kernel
theorem dX9_writeKnot_16 : decode cX9_writeKnot 16 = .ok (.getfield 206, 3) := by decide +kernel
theorem dX9_writeKnot_19 : decode cX9_writeKnot 19 = .ok (.imul, 1) := by decide +kernel
theorem dX9_writeKnot_20 : decode cX9_writeKnot 20 = .ok (.aload_n 0, 1) := by decide +kernel
theorem dX9_writeKnot_21 : decode cX9_writeKnot 21 = .ok (.getfield 63, 3) := by decide +kernel
theorem dX9_writeKnot_24 : decode cX9_writeKnot 24 = .ok (.iload_n 1, 1) := by decide +kernel
theorem dX9_writeKnot_25 : decode cX9_writeKnot 25 = .ok (.iaload, 1) := by decide +kernel
theorem dX9_writeKnot_26 : decode cX9_writeKnot 26 = .ok (.iastore, 1) := by decide +kernel
theorem dX9_writeKnot_27 : decode cX9_writeKnot 27 = .ok (.aload_n 0, 1) := by decide +kernel
theorem dX9_writeKnot_28 : decode cX9_writeKnot 28 = .ok (.getfield 84, 3) := by decide +kernel
theorem dX9_writeKnot_31 : decode cX9_writeKnot 31 = .ok (.iconst 4, 1) := by decide +kernel
theorem dX9_writeKnot_32 : decode cX9_writeKnot 32 = .ok (.aload_n 0, 1) := by decide +kernel
theorem dX9_writeKnot_33 : decode cX9_writeKnot 33 = .ok (.getfield 206, 3) := by decide +kernel
theorem dX9_writeKnot_36 : decode cX9_writeKnot 36 = .ok (.imul, 1) := by decide +kernel
theorem dX9_writeKnot_37 : decode cX9_writeKnot 37 = .ok (.iconst 1, 1) := by decide +kernel
theorem dX9_writeKnot_38 : decode cX9_writeKnot 38 = .ok (.iadd, 1) := by decide +kernel
theorem dX9_writeKnot_39 : decode cX9_writeKnot 39 = .ok (.aload_n 0, 1) := by decide +kernel
theorem dX9_writeKnot_40 : decode cX9_writeKnot 40 = .ok (.aload_n 0, 1) := by decide +kernel
theorem dX9_writeKnot_41 : decode cX9_writeKnot 41 = .ok (.getfield 66, 3) := by decide +kernel
theorem dX9_writeKnot_44 : decode cX9_writeKnot 44 = .ok (.iload_n 1, 1) := by decide +kernel
theorem dX9_writeKnot_45 : decode cX9_writeKnot 45 = .ok (.iaload, 1) := by decide +kernel
theorem dX9_writeKnot_46 : decode cX9_writeKnot 46 = .ok (.invokevirtual 209, 3) := by decide +kernel
theorem dX9_writeKnot_49 : decode cX9_writeKnot 49 = .ok (.iastore, 1) := by decide +kernel
theorem dX9_writeKnot_50 : decode cX9_writeKnot 50 = .ok (.aload_n 0, 1) := by decide +kernel
theorem dX9_writeKnot_51 : decode cX9_writeKnot 51 = .ok (.getfield 84, 3) := by decide +kernel
theorem dX9_writeKnot_54 : decode cX9_writeKnot 54 = .ok (.iconst 4, 1) := by decide +kernel
theorem dX9_writeKnot_55 : decode cX9_writeKnot 55 = .ok (.aload_n 0, 1) := by decide +kernel
theorem dX9_writeKnot_56 : decode cX9_writeKnot 56 = .ok (.getfield 206, 3) := by decide +kernel
theorem dX9_writeKnot_59 : decode cX9_writeKnot 59 = .ok (.imul, 1) := by decide +kernel
theorem dX9_writeKnot_60 : decode cX9_writeKnot 60 = .ok (.iconst 2, 1) := by decide +kernel
theorem dX9_writeKnot_61 : decode cX9_writeKnot 61 = .ok (.iadd, 1) := by decide +kernel
theorem dX9_writeKnot_62 : decode cX9_writeKnot 62 = .ok (.aload_n 0, 1) := by decide +kernel
theorem dX9_writeKnot_63 : decode cX9_writeKnot 63 = .ok (.aload_n 0, 1) := by decide +kernel
theorem dX9_writeKnot_64 : decode cX9_writeKnot 64 = .ok (.getfield 69, 3) := by decide +kernel
theorem dX9_writeKnot_67 : decode cX9_writeKnot 67 = .ok (.iload_n 1, 1) := by decide +kernel
theorem dX9_writeKnot_68 : decode cX9_writeKnot 68 = .ok (.iaload, 1) := by decide +kernel
theorem dX9_writeKnot_69 : decode cX9_writeKnot 69 = .ok (.invokevirtual 209, 3) := by decide +kernel
theorem dX9_writeKnot_72 : decode cX9_writeKnot 72 = .ok (.iastore, 1) := by decide +kernel
theorem dX9_writeKnot_73 : decode cX9_writeKnot 73 = .ok (.aload_n 0, 1) := by decide +kernel
theorem dX9_writeKnot_74 : decode cX9_writeKnot 74 = .ok (.getfield 84, 3) := by decide +kernel
theorem dX9_writeKnot_77 : decode cX9_writeKnot 77 = .ok (.iconst 4, 1) := by decide +kernel
theorem dX9_writeKnot_78 : decode cX9_writeKnot 78 = .ok (.aload_n 0, 1) := by decide +kernel
theorem dX9_writeKnot_79 : decode cX9_writeKnot 79 = .ok (.getfield 206, 3) := by decide +kernel
theorem dX9_writeKnot_82 : decode cX9_writeKnot 82 = .ok (.imul, 1) := by decide +kernel
theorem dX9_writeKnot_83 : decode cX9_writeKnot 83 = .ok (.iconst 3, 1) := by decide +kernel
theorem dX9_writeKnot_84 : decode cX9_writeKnot 84 = .ok (.iadd, 1) := by decide +kernel
theorem dX9_writeKnot_85 : decode cX9_writeKnot 85 = .ok (.aload_n 0, 1) := by decide +kernel
theorem dX9_writeKnot_86 : decode cX9_writeKnot 86 = .ok (.aload_n 0, 1) := by decide +kernel
theorem dX9_writeKnot_87 : decode cX9_writeKnot 87 = .ok (.aload_n 0, 1) := by decide +kernel
theorem dX9_writeKnot_88 : decode cX9_writeKnot 88 = .ok (.getfield 66, 3) := by decide +kernel
theorem dX9_writeKnot_91 : decode cX9_writeKnot 91 = .ok (.iload_n 1, 1) := by decide +kernel
theorem dX9_writeKnot_92 : decode cX9_writeKnot 92 = .ok (.iaload, 1) := by decide +kernel
theorem dX9_writeKnot_93 : decode cX9_writeKnot 93 = .ok (.invokevirtual 209, 3) := by decide +kernel
theorem dX9_writeKnot_96 : decode cX9_writeKnot 96 = .ok (.invokevirtual 212, 3) := by decide +kernel
theorem dX9_writeKnot_99 : decode cX9_writeKnot 99 = .ok (.aload_n 0, 1) := by decide +kernel
theorem dX9_writeKnot_100 : decode cX9_writeKnot 100 = .ok (.aload_n 0, 1) := by decide +kernel
theorem dX9_writeKnot_101 : decode cX9_writeKnot 101 = .ok (.aload_n 0, 1) := by decide +kernel
theorem dX9_writeKnot_102 : decode cX9_writeKnot 102 = .ok (.getfield 69, 3) := by decide +kernel
theorem dX9_writeKnot_105 : decode cX9_writeKnot 105 = .ok (.iload_n 1, 1) := by decide +kernel
theorem dX9_writeKnot_106 : decode cX9_writeKnot 106 = .ok (.iaload, 1) := by decide +kernel
theorem dX9_writeKnot_107 : decode cX9_writeKnot 107 = .ok (.invokevirtual 209, 3) := by decide +kernel
theorem dX9_writeKnot_110 : decode cX9_writeKnot 110 = .ok (.invokevirtual 212, 3) := by decide +kernel
theorem dX9_writeKnot_113 : decode cX9_writeKnot 113 = .ok (.iadd, 1) := by decide +kernel
theorem dX9_writeKnot_114 : decode cX9_writeKnot 114 = .ok (.iastore, 1) := by decide +kernel
theorem dX9_writeKnot_115 : decode cX9_writeKnot 115 = .ok (.aload_n 0, 1) := by decide +kernel
theorem dX9_writeKnot_116 : decode cX9_writeKnot 116 = .ok (.dup, 1) := by decide +kernel
theorem dX9_writeKnot_117 : decode cX9_writeKnot 117 = .ok (.getfield 206, 3) := by decide +kernel
theorem dX9_writeKnot_120 : decode cX9_writeKnot 120 = .ok (.iconst 1, 1) := by decide +kernel
theorem dX9_writeKnot_121 : decode cX9_writeKnot 121 = .ok (.iadd, 1) := by decide +kernel
theorem dX9_writeKnot_122 : decode cX9_writeKnot 122 = .ok (.putfield 206, 3) := by decide +kernel
theorem dX9_writeKnot_125 : decode cX9_writeKnot 125 = .ok (.return_, 1) := by decide +kernel
theorem dX9_rowsOf_0 : decode cX9_rowsOf 0 = .ok (.aload_n 0, 1) := by decide +kernel
theorem dX9_rowsOf_1 : decode cX9_rowsOf 1 = .ok (.iload_n 1, 1) := by decide +kernel
theorem dX9_rowsOf_2 : decode cX9_rowsOf 2 = .ok (.iconst 1, 1) := by decide +kernel
theorem dX9_rowsOf_3 : decode cX9_rowsOf 3 = .ok (.invokevirtual 190, 3) := by decide +kernel
theorem dX9_rowsOf_6 : decode cX9_rowsOf 6 = .ok (.istore_n 2, 1) := by decide +kernel
theorem dX9_rowsOf_7 : decode cX9_rowsOf 7 = .ok (.aload_n 0, 1) := by decide +kernel
theorem dX9_rowsOf_8 : decode cX9_rowsOf 8 = .ok (.iconst 0, 1) := by decide +kernel
theorem dX9_rowsOf_9 : decode cX9_rowsOf 9 = .ok (.putfield 206, 3) := by decide +kernel
theorem dX9_rowsOf_12 : decode cX9_rowsOf 12 = .ok (.iconst 0, 1) := by decide +kernel
theorem dX9_rowsOf_13 : decode cX9_rowsOf 13 = .ok (.istore_n 3, 1) := by decide +kernel
theorem dX9_rowsOf_14 : decode cX9_rowsOf 14 = .ok (.iload_n 3, 1) := by decide +kernel
theorem dX9_rowsOf_15 : decode cX9_rowsOf 15 = .ok (.aload_n 0, 1) := by decide +kernel
theorem dX9_rowsOf_16 : decode cX9_rowsOf 16 = .ok (.getfield 180, 3) := by decide +kernel
theorem dX9_rowsOf_19 : decode cX9_rowsOf 19 = .ok (.if_icmp .ge 16, 3) := by decide +kernel
theorem dX9_rowsOf_22 : decode cX9_rowsOf 22 = .ok (.aload_n 0, 1) := by decide +kernel
theorem dX9_rowsOf_23 : decode cX9_rowsOf 23 = .ok (.getfield 75, 3) := by decide +kernel
theorem dX9_rowsOf_26 : decode cX9_rowsOf 26 = .ok (.iload_n 3, 1) := by decide +kernel
theorem dX9_rowsOf_27 : decode cX9_rowsOf 27 = .ok (.iconst (-1), 1) := by decide +kernel
theorem dX9_rowsOf_28 : decode cX9_rowsOf 28 = .ok (.iastore, 1) := by decide +kernel
theorem dX9_rowsOf_29 : decode cX9_rowsOf 29 = .ok (.iinc 3 1, 3) := by decide +kernel
theorem dX9_rowsOf_32 : decode cX9_rowsOf 32 = .ok (.goto (-18), 3) := by decide +kernel
theorem dX9_rowsOf_35 : decode cX9_rowsOf 35 = .ok (.iconst 0, 1) := by decide +kernel
theorem dX9_rowsOf_36 : decode cX9_rowsOf 36 = .ok (.istore_n 3, 1) := by decide +kernel
theorem dX9_rowsOf_37 : decode cX9_rowsOf 37 = .ok (.aload_n 0, 1) := by decide +kernel
theorem dX9_rowsOf_38 : decode cX9_rowsOf 38 = .ok (.getfield 78, 3) := by decide +kernel
theorem dX9_rowsOf_41 : decode cX9_rowsOf 41 = .ok (.iconst 0, 1) := by decide +kernel
theorem dX9_rowsOf_42 : decode cX9_rowsOf 42 = .ok (.iload_n 2, 1) := by decide +kernel
theorem dX9_rowsOf_43 : decode cX9_rowsOf 43 = .ok (.iastore, 1) := by decide +kernel
theorem dX9_rowsOf_44 : decode cX9_rowsOf 44 = .ok (.aload_n 0, 1) := by decide +kernel
theorem dX9_rowsOf_45 : decode cX9_rowsOf 45 = .ok (.getfield 81, 3) := by decide +kernel
theorem dX9_rowsOf_48 : decode cX9_rowsOf 48 = .ok (.iconst 0, 1) := by decide +kernel
theorem dX9_rowsOf_49 : decode cX9_rowsOf 49 = .ok (.iconst 0, 1) := by decide +kernel
theorem dX9_rowsOf_50 : decode cX9_rowsOf 50 = .ok (.iastore, 1) := by decide +kernel
theorem dX9_rowsOf_51 : decode cX9_rowsOf 51 = .ok (.iload_n 2, 1) := by decide +kernel
theorem dX9_rowsOf_52 : decode cX9_rowsOf 52 = .ok (.ifCond .ge 7, 3) := by decide +kernel
theorem dX9_rowsOf_55 : decode cX9_rowsOf 55 = .ok (.iconst 0, 1) := by decide +kernel
theorem dX9_rowsOf_56 : decode cX9_rowsOf 56 = .ok (.goto 4, 3) := by decide +kernel
theorem dX9_rowsOf_59 : decode cX9_rowsOf 59 = .ok (.iconst 1, 1) := by decide +kernel
theorem dX9_rowsOf_60 : decode cX9_rowsOf 60 = .ok (.istore_n 3, 1) := by decide +kernel
theorem dX9_rowsOf_61 : decode cX9_rowsOf 61 = .ok (.iload_n 3, 1) := by decide +kernel
theorem dX9_rowsOf_62 : decode cX9_rowsOf 62 = .ok (.ifCond .le 116, 3) := by decide +kernel
theorem dX9_rowsOf_65 : decode cX9_rowsOf 65 = .ok (.aload_n 0, 1) := by decide +kernel
theorem dX9_rowsOf_66 : decode cX9_rowsOf 66 = .ok (.getfield 78, 3) := by decide +kernel
theorem dX9_rowsOf_69 : decode cX9_rowsOf 69 = .ok (.iload_n 3, 1) := by decide +kernel
theorem dX9_rowsOf_70 : decode cX9_rowsOf 70 = .ok (.iconst 1, 1) := by decide +kernel
theorem dX9_rowsOf_71 : decode cX9_rowsOf 71 = .ok (.isub, 1) := by decide +kernel
theorem dX9_rowsOf_72 : decode cX9_rowsOf 72 = .ok (.iaload, 1) := by decide +kernel
theorem dX9_rowsOf_73 : decode cX9_rowsOf 73 = .ok (.istore 4, 2) := by decide +kernel
theorem dX9_rowsOf_75 : decode cX9_rowsOf 75 = .ok (.aload_n 0, 1) := by decide +kernel
theorem dX9_rowsOf_76 : decode cX9_rowsOf 76 = .ok (.getfield 81, 3) := by decide +kernel
theorem dX9_rowsOf_79 : decode cX9_rowsOf 79 = .ok (.iload_n 3, 1) := by decide +kernel
theorem dX9_rowsOf_80 : decode cX9_rowsOf 80 = .ok (.iconst 1, 1) := by decide +kernel
theorem dX9_rowsOf_81 : decode cX9_rowsOf 81 = .ok (.isub, 1) := by decide +kernel
theorem dX9_rowsOf_82 : decode cX9_rowsOf 82 = .ok (.iaload, 1) := by decide +kernel
theorem dX9_rowsOf_83 : decode cX9_rowsOf 83 = .ok (.ifCond .ne 13, 3) := by decide +kernel
theorem dX9_rowsOf_86 : decode cX9_rowsOf 86 = .ok (.aload_n 0, 1) := by decide +kernel
theorem dX9_rowsOf_87 : decode cX9_rowsOf 87 = .ok (.getfield 66, 3) := by decide +kernel
theorem dX9_rowsOf_90 : decode cX9_rowsOf 90 = .ok (.iload 4, 2) := by decide +kernel
theorem dX9_rowsOf_92 : decode cX9_rowsOf 92 = .ok (.iaload, 1) := by decide +kernel
theorem dX9_rowsOf_93 : decode cX9_rowsOf 93 = .ok (.goto 10, 3) := by decide +kernel
theorem dX9_rowsOf_96 : decode cX9_rowsOf 96 = .ok (.aload_n 0, 1) := by decide +kernel
theorem dX9_rowsOf_97 : decode cX9_rowsOf 97 = .ok (.getfield 69, 3) := by decide +kernel
theorem dX9_rowsOf_100 : decode cX9_rowsOf 100 = .ok (.iload 4, 2) := by decide +kernel
theorem dX9_rowsOf_102 : decode cX9_rowsOf 102 = .ok (.iaload, 1) := by decide +kernel
theorem dX9_rowsOf_103 : decode cX9_rowsOf 103 = .ok (.istore 5, 2) := by decide +kernel
theorem dX9_rowsOf_105 : decode cX9_rowsOf 105 = .ok (.aload_n 0, 1) := by decide +kernel
theorem dX9_rowsOf_106 : decode cX9_rowsOf 106 = .ok (.getfield 81, 3) := by decide +kernel
theorem dX9_rowsOf_109 : decode cX9_rowsOf 109 = .ok (.iload_n 3, 1) := by decide +kernel
theorem dX9_rowsOf_110 : decode cX9_rowsOf 110 = .ok (.iconst 1, 1) := by decide +kernel
theorem dX9_rowsOf_111 : decode cX9_rowsOf 111 = .ok (.isub, 1) := by decide +kernel
theorem dX9_rowsOf_112 : decode cX9_rowsOf 112 = .ok (.iaload, 1) := by decide +kernel
theorem dX9_rowsOf_113 : decode cX9_rowsOf 113 = .ok (.iconst 2, 1) := by decide +kernel
theorem dX9_rowsOf_114 : decode cX9_rowsOf 114 = .ok (.if_icmp .ne 15, 3) := by decide +kernel
theorem dX9_rowsOf_117 : decode cX9_rowsOf 117 = .ok (.aload_n 0, 1) := by decide +kernel
theorem dX9_rowsOf_118 : decode cX9_rowsOf 118 = .ok (.iload 4, 2) := by decide +kernel
theorem dX9_rowsOf_120 : decode cX9_rowsOf 120 = .ok (.invokevirtual 215, 3) := by decide +kernel
theorem dX9_rowsOf_123 : decode cX9_rowsOf 123 = .ok (.iinc 3 (-1), 3) := by decide +kernel
theorem dX9_rowsOf_126 : decode cX9_rowsOf 126 = .ok (.goto 49, 3) := by decide +kernel
theorem dX9_rowsOf_129 : decode cX9_rowsOf 129 = .ok (.aload_n 0, 1) := by decide +kernel
theorem dX9_rowsOf_130 : decode cX9_rowsOf 130 = .ok (.getfield 81, 3) := by decide +kernel
theorem dX9_rowsOf_133 : decode cX9_rowsOf 133 = .ok (.iload_n 3, 1) := by decide +kernel
theorem dX9_rowsOf_134 : decode cX9_rowsOf 134 = .ok (.iconst 1, 1) := by decide +kernel
theorem dX9_rowsOf_135 : decode cX9_rowsOf 135 = .ok (.isub, 1) := by decide +kernel
theorem dX9_rowsOf_136 : decode cX9_rowsOf 136 = .ok (.dup2, 1) := by decide +kernel
theorem dX9_rowsOf_137 : decode cX9_rowsOf 137 = .ok (.iaload, 1) := by decide +kernel
theorem dX9_rowsOf_138 : decode cX9_rowsOf 138 = .ok (.iconst 1, 1) := by decide +kernel
theorem dX9_rowsOf_139 : decode cX9_rowsOf 139 = .ok (.iadd, 1) := by decide +kernel
theorem dX9_rowsOf_140 : decode cX9_rowsOf 140 = .ok (.iastore, 1) := by decide +kernel
theorem dX9_rowsOf_141 : decode cX9_rowsOf 141 = .ok (.iload 5, 2) := by decide +kernel
theorem dX9_rowsOf_143 : decode cX9_rowsOf 143 = .ok (.ifCond .lt 32, 3) := by decide +kernel
theorem dX9_rowsOf_146 : decode cX9_rowsOf 146 = .ok (.aload_n 0, 1) := by decide +kernel
theorem dX9_rowsOf_147 : decode cX9_rowsOf 147 = .ok (.getfield 75, 3) := by decide +kernel
theorem dX9_rowsOf_150 : decode cX9_rowsOf 150 = .ok (.iload 5, 2) := by decide +kernel
theorem dX9_rowsOf_152 : decode cX9_rowsOf 152 = .ok (.iaload, 1) := by decide +kernel
theorem dX9_rowsOf_153 : decode cX9_rowsOf 153 = .ok (.iconst (-1), 1) := by decide +kernel
theorem dX9_rowsOf_154 : decode cX9_rowsOf 154 = .ok (.if_icmp .ne 21, 3) := by decide +kernel
theorem dX9_rowsOf_157 : decode cX9_rowsOf 157 = .ok (.aload_n 0, 1) := by decide +kernel
theorem dX9_rowsOf_158 : decode cX9_rowsOf 158 = .ok (.getfield 78, 3) := by decide +kernel
theorem dX9_rowsOf_161 : decode cX9_rowsOf 161 = .ok (.iload_n 3, 1) := by decide +kernel
theorem dX9_rowsOf_162 : decode cX9_rowsOf 162 = .ok (.iload 5, 2) := by decide +kernel
theorem dX9_rowsOf_164 : decode cX9_rowsOf 164 = .ok (.iastore, 1) := by decide +kernel
theorem dX9_rowsOf_165 : decode cX9_rowsOf 165 = .ok (.aload_n 0, 1) := by decide +kernel
theorem dX9_rowsOf_166 : decode cX9_rowsOf 166 = .ok (.getfield 81, 3) := by decide +kernel
theorem dX9_rowsOf_169 : decode cX9_rowsOf 169 = .ok (.iload_n 3, 1) := by decide +kernel
theorem dX9_rowsOf_170 : decode cX9_rowsOf 170 = .ok (.iconst 0, 1) := by decide +kernel
theorem dX9_rowsOf_171 : decode cX9_rowsOf 171 = .ok (.iastore, 1) := by decide +kernel
theorem dX9_rowsOf_172 : decode cX9_rowsOf 172 = .ok (.iinc 3 1, 3) := by decide +kernel
theorem dX9_rowsOf_175 : decode cX9_rowsOf 175 = .ok (.goto (-114), 3) := by decide +kernel
theorem dX9_rowsOf_178 : decode cX9_rowsOf 178 = .ok (.return_, 1) := by decide +kernel
theorem dX9_write_0 : decode cX9_write 0 = .ok (.aload_n 0, 1) := by decide +kernel
theorem dX9_write_1 : decode cX9_write 1 = .ok (.iload_n 1, 1) := by decide +kernel
theorem dX9_write_2 : decode cX9_write 2 = .ok (.invokevirtual 142, 3) := by decide +kernel
theorem dX9_write_5 : decode cX9_write 5 = .ok (.ifCond .ne 6, 3) := by decide +kernel
theorem dX9_write_8 : decode cX9_write 8 = .ok (.bipush (-2), 2) := by decide +kernel
theorem dX9_write_10 : decode cX9_write 10 = .ok (.ireturn, 1) := by decide +kernel
theorem dX9_write_11 : decode cX9_write 11 = .ok (.aload_n 0, 1) := by decide +kernel
theorem dX9_write_12 : decode cX9_write 12 = .ok (.iload_n 1, 1) := by decide +kernel
theorem dX9_write_13 : decode cX9_write 13 = .ok (.invokevirtual 219, 3) := by decide +kernel
theorem dX9_write_16 : decode cX9_write 16 = .ok (.aload_n 0, 1) := by decide +kernel
theorem dX9_write_17 : decode cX9_write 17 = .ok (.aload_n 0, 1) := by decide +kernel
theorem dX9_write_18 : decode cX9_write 18 = .ok (.getfield 206, 3) := by decide +kernel
theorem dX9_write_21 : decode cX9_write 21 = .ok (.putfield 222, 3) := by decide +kernel
theorem dX9_write_24 : decode cX9_write 24 = .ok (.iconst 0, 1) := by decide +kernel
theorem dX9_write_25 : decode cX9_write 25 = .ok (.istore_n 2, 1) := by decide +kernel
theorem dX9_write_26 : decode cX9_write 26 = .ok (.iload_n 2, 1) := by decide +kernel
theorem dX9_write_27 : decode cX9_write 27 = .ok (.iconst 4, 1) := by decide +kernel
theorem dX9_write_28 : decode cX9_write 28 = .ok (.aload_n 0, 1) := by decide +kernel
theorem dX9_write_29 : decode cX9_write 29 = .ok (.getfield 222, 3) := by decide +kernel
theorem dX9_write_32 : decode cX9_write 32 = .ok (.imul, 1) := by decide +kernel
theorem dX9_write_33 : decode cX9_write 33 = .ok (.if_icmp .ge 21, 3) := by decide +kernel
theorem dX9_write_36 : decode cX9_write 36 = .ok (.aload_n 0, 1) := by decide +kernel
theorem dX9_write_37 : decode cX9_write 37 = .ok (.getfield 30, 3) := by decide +kernel
theorem dX9_write_40 : decode cX9_write 40 = .ok (.iload_n 2, 1) := by decide +kernel
theorem dX9_write_41 : decode cX9_write 41 = .ok (.aload_n 0, 1) := by decide +kernel
theorem dX9_write_42 : decode cX9_write 42 = .ok (.getfield 84, 3) := by decide +kernel
theorem dX9_write_45 : decode cX9_write 45 = .ok (.iload_n 2, 1) := by decide +kernel
theorem dX9_write_46 : decode cX9_write 46 = .ok (.iaload, 1) := by decide +kernel
theorem dX9_write_47 : decode cX9_write 47 = .ok (.iastore, 1) := by decide +kernel
theorem dX9_write_48 : decode cX9_write 48 = .ok (.iinc 2 1, 3) := by decide +kernel
theorem dX9_write_51 : decode cX9_write 51 = .ok (.goto (-25), 3) := by decide +kernel
theorem dX9_write_54 : decode cX9_write 54 = .ok (.aload_n 0, 1) := by decide +kernel
theorem dX9_write_55 : decode cX9_write 55 = .ok (.getfield 222, 3) := by decide +kernel
theorem dX9_write_58 : decode cX9_write 58 = .ok (.ireturn, 1) := by decide +kernel
theorem dX9_row_0 : decode cX9_row 0 = .ok (.iload_n 1, 1) := by decide +kernel
theorem dX9_row_1 : decode cX9_row 1 = .ok (.iconst 0, 1) := by decide +kernel
theorem dX9_row_2 : decode cX9_row 2 = .ok (.aload_n 0, 1) := by decide +kernel
theorem dX9_row_3 : decode cX9_row 3 = .ok (.getfield 222, 3) := by decide +kernel
theorem dX9_row_6 : decode cX9_row 6 = .ok (.iconst 1, 1) := by decide +kernel
theorem dX9_row_7 : decode cX9_row 7 = .ok (.isub, 1) := by decide +kernel
theorem dX9_row_8 : decode cX9_row 8 = .ok (.invokestatic 91, 3) := by decide +kernel
theorem dX9_row_11 : decode cX9_row 11 = .ok (.ifCond .eq 25, 3) := by decide +kernel
theorem dX9_row_14 : decode cX9_row 14 = .ok (.iload_n 2, 1) := by decide +kernel
theorem dX9_row_15 : decode cX9_row 15 = .ok (.iconst 0, 1) := by decide +kernel
theorem dX9_row_16 : decode cX9_row 16 = .ok (.iconst 3, 1) := by decide +kernel
theorem dX9_row_17 : decode cX9_row 17 = .ok (.invokestatic 91, 3) := by decide +kernel
theorem dX9_row_20 : decode cX9_row 20 = .ok (.ifCond .eq 16, 3) := by decide +kernel
theorem dX9_row_23 : decode cX9_row 23 = .ok (.aload_n 0, 1) := by decide +kernel
theorem dX9_row_24 : decode cX9_row 24 = .ok (.getfield 30, 3) := by decide +kernel
theorem dX9_row_27 : decode cX9_row 27 = .ok (.iconst 4, 1) := by decide +kernel
theorem dX9_row_28 : decode cX9_row 28 = .ok (.iload_n 1, 1) := by decide +kernel
theorem dX9_row_29 : decode cX9_row 29 = .ok (.imul, 1) := by decide +kernel
theorem dX9_row_30 : decode cX9_row 30 = .ok (.iload_n 2, 1) := by decide +kernel
theorem dX9_row_31 : decode cX9_row 31 = .ok (.iadd, 1) := by decide +kernel
theorem dX9_row_32 : decode cX9_row 32 = .ok (.iaload, 1) := by decide +kernel
theorem dX9_row_33 : decode cX9_row 33 = .ok (.goto 5, 3) := by decide +kernel
theorem dX9_row_36 : decode cX9_row 36 = .ok (.bipush (-2), 2) := by decide +kernel
theorem dX9_row_38 : decode cX9_row 38 = .ok (.ireturn, 1) := by decide +kernel
theorem dX9_forge_0 : decode cX9_forge 0 = .ok (.iload_n 1, 1) := by decide +kernel
theorem dX9_forge_1 : decode cX9_forge 1 = .ok (.iconst 0, 1) := by decide +kernel
theorem dX9_forge_2 : decode cX9_forge 2 = .ok (.aload_n 0, 1) := by decide +kernel
theorem dX9_forge_3 : decode cX9_forge 3 = .ok (.getfield 222, 3) := by decide +kernel
theorem dX9_forge_6 : decode cX9_forge 6 = .ok (.iconst 1, 1) := by decide +kernel
theorem dX9_forge_7 : decode cX9_forge 7 = .ok (.isub, 1) := by decide +kernel
theorem dX9_forge_8 : decode cX9_forge 8 = .ok (.invokestatic 91, 3) := by decide +kernel
theorem dX9_forge_11 : decode cX9_forge 11 = .ok (.ifCond .eq 12, 3) := by decide +kernel
theorem dX9_forge_14 : decode cX9_forge 14 = .ok (.iload_n 2, 1) := by decide +kernel
theorem dX9_forge_15 : decode cX9_forge 15 = .ok (.iconst 0, 1) := by decide +kernel
theorem dX9_forge_16 : decode cX9_forge 16 = .ok (.iconst 3, 1) := by decide +kernel
theorem dX9_forge_17 : decode cX9_forge 17 = .ok (.invokestatic 91, 3) := by decide +kernel
theorem dX9_forge_20 : decode cX9_forge 20 = .ok (.ifCond .ne 6, 3) := by decide +kernel
theorem dX9_forge_23 : decode cX9_forge 23 = .ok (.bipush (-2), 2) := by decide +kernel
theorem dX9_forge_25 : decode cX9_forge 25 = .ok (.ireturn, 1) := by decide +kernel
theorem dX9_forge_26 : decode cX9_forge 26 = .ok (.aload_n 0, 1) := by decide +kernel
theorem dX9_forge_27 : decode cX9_forge 27 = .ok (.getfield 30, 3) := by decide +kernel
theorem dX9_forge_30 : decode cX9_forge 30 = .ok (.iconst 4, 1) := by decide +kernel
theorem dX9_forge_31 : decode cX9_forge 31 = .ok (.iload_n 1, 1) := by decide +kernel
theorem dX9_forge_32 : decode cX9_forge 32 = .ok (.imul, 1) := by decide +kernel
theorem dX9_forge_33 : decode cX9_forge 33 = .ok (.iload_n 2, 1) := by decide +kernel
theorem dX9_forge_34 : decode cX9_forge 34 = .ok (.iadd, 1) := by decide +kernel
theorem dX9_forge_35 : decode cX9_forge 35 = .ok (.iload_n 3, 1) := by decide +kernel
theorem dX9_forge_36 : decode cX9_forge 36 = .ok (.iastore, 1) := by decide +kernel
theorem dX9_forge_37 : decode cX9_forge 37 = .ok (.iconst 1, 1) := by decide +kernel
theorem dX9_forge_38 : decode cX9_forge 38 = .ok (.ireturn, 1) := by decide +kernel
theorem dX9_isAbove_0 : decode cX9_isAbove 0 = .ok (.iload_n 2, 1) := by decide +kernel
theorem dX9_isAbove_1 : decode cX9_isAbove 1 = .ok (.ifCond .lt 22, 3) := by decide +kernel
theorem dX9_isAbove_4 : decode cX9_isAbove 4 = .ok (.aload_n 0, 1) := by decide +kernel
theorem dX9_isAbove_5 : decode cX9_isAbove 5 = .ok (.getfield 30, 3) := by decide +kernel
theorem dX9_isAbove_8 : decode cX9_isAbove 8 = .ok (.iconst 4, 1) := by decide +kernel
theorem dX9_isAbove_9 : decode cX9_isAbove 9 = .ok (.iload_n 2, 1) := by decide +kernel
theorem dX9_isAbove_10 : decode cX9_isAbove 10 = .ok (.imul, 1) := by decide +kernel
theorem dX9_isAbove_11 : decode cX9_isAbove 11 = .ok (.iaload, 1) := by decide +kernel
theorem dX9_isAbove_12 : decode cX9_isAbove 12 = .ok (.aload_n 0, 1) := by decide +kernel
theorem dX9_isAbove_13 : decode cX9_isAbove 13 = .ok (.getfield 30, 3) := by decide +kernel
theorem dX9_isAbove_16 : decode cX9_isAbove 16 = .ok (.iconst 4, 1) := by decide +kernel
theorem dX9_isAbove_17 : decode cX9_isAbove 17 = .ok (.iload_n 1, 1) := by decide +kernel
theorem dX9_isAbove_18 : decode cX9_isAbove 18 = .ok (.imul, 1) := by decide +kernel
theorem dX9_isAbove_19 : decode cX9_isAbove 19 = .ok (.iaload, 1) := by decide +kernel
theorem dX9_isAbove_20 : decode cX9_isAbove 20 = .ok (.if_icmp .le 7, 3) := by decide +kernel
theorem dX9_isAbove_23 : decode cX9_isAbove 23 = .ok (.iconst 1, 1) := by decide +kernel
theorem dX9_isAbove_24 : decode cX9_isAbove 24 = .ok (.goto 4, 3) := by decide +kernel
theorem dX9_isAbove_27 : decode cX9_isAbove 27 = .ok (.iconst 0, 1) := by decide +kernel
theorem dX9_isAbove_28 : decode cX9_isAbove 28 = .ok (.ireturn, 1) := by decide +kernel
theorem dX9_rowCount_0 : decode cX9_rowCount 0 = .ok (.iload_n 1, 1) := by decide +kernel
theorem dX9_rowCount_1 : decode cX9_rowCount 1 = .ok (.iconst (-1), 1) := by decide +kernel
theorem dX9_rowCount_2 : decode cX9_rowCount 2 = .ok (.if_icmp .ne 7, 3) := by decide +kernel
theorem dX9_rowCount_5 : decode cX9_rowCount 5 = .ok (.iconst 0, 1) := by decide +kernel
theorem dX9_rowCount_6 : decode cX9_rowCount 6 = .ok (.goto 23, 3) := by decide +kernel
theorem dX9_rowCount_9 : decode cX9_rowCount 9 = .ok (.iload_n 1, 1) := by decide +kernel
theorem dX9_rowCount_10 : decode cX9_rowCount 10 = .ok (.bipush (-2), 2) := by decide +kernel
theorem dX9_rowCount_12 : decode cX9_rowCount 12 = .ok (.if_icmp .ne 7, 3) := by decide +kernel
theorem dX9_rowCount_15 : decode cX9_rowCount 15 = .ok (.iconst 1, 1) := by decide +kernel
theorem dX9_rowCount_16 : decode cX9_rowCount 16 = .ok (.goto 13, 3) := by decide +kernel
theorem dX9_rowCount_19 : decode cX9_rowCount 19 = .ok (.aload_n 0, 1) := by decide +kernel
theorem dX9_rowCount_20 : decode cX9_rowCount 20 = .ok (.getfield 30, 3) := by decide +kernel
theorem dX9_rowCount_23 : decode cX9_rowCount 23 = .ok (.iconst 4, 1) := by decide +kernel
theorem dX9_rowCount_24 : decode cX9_rowCount 24 = .ok (.iload_n 1, 1) := by decide +kernel
theorem dX9_rowCount_25 : decode cX9_rowCount 25 = .ok (.imul, 1) := by decide +kernel
theorem dX9_rowCount_26 : decode cX9_rowCount 26 = .ok (.iconst 3, 1) := by decide +kernel
theorem dX9_rowCount_27 : decode cX9_rowCount 27 = .ok (.iadd, 1) := by decide +kernel
theorem dX9_rowCount_28 : decode cX9_rowCount 28 = .ok (.iaload, 1) := by decide +kernel
theorem dX9_rowCount_29 : decode cX9_rowCount 29 = .ok (.ireturn, 1) := by decide +kernel
theorem dX9_wrong_0 : decode cX9_wrong 0 = .ok (.aload_n 0, 1) := by decide +kernel
theorem dX9_wrong_1 : decode cX9_wrong 1 = .ok (.getfield 30, 3) := by decide +kernel
theorem dX9_wrong_4 : decode cX9_wrong 4 = .ok (.iconst 4, 1) := by decide +kernel
theorem dX9_wrong_5 : decode cX9_wrong 5 = .ok (.iload_n 1, 1) := by decide +kernel
theorem dX9_wrong_6 : decode cX9_wrong 6 = .ok (.imul, 1) := by decide +kernel
theorem dX9_wrong_7 : decode cX9_wrong 7 = .ok (.iconst 1, 1) := by decide +kernel
theorem dX9_wrong_8 : decode cX9_wrong 8 = .ok (.iadd, 1) := by decide +kernel
theorem dX9_wrong_9 : decode cX9_wrong 9 = .ok (.iaload, 1) := by decide +kernel
theorem dX9_wrong_10 : decode cX9_wrong 10 = .ok (.istore_n 2, 1) := by decide +kernel
theorem dX9_wrong_11 : decode cX9_wrong 11 = .ok (.aload_n 0, 1) := by decide +kernel
theorem dX9_wrong_12 : decode cX9_wrong 12 = .ok (.getfield 30, 3) := by decide +kernel
theorem dX9_wrong_15 : decode cX9_wrong 15 = .ok (.iconst 4, 1) := by decide +kernel
theorem dX9_wrong_16 : decode cX9_wrong 16 = .ok (.iload_n 1, 1) := by decide +kernel
theorem dX9_wrong_17 : decode cX9_wrong 17 = .ok (.imul, 1) := by decide +kernel
theorem dX9_wrong_18 : decode cX9_wrong 18 = .ok (.iconst 2, 1) := by decide +kernel
theorem dX9_wrong_19 : decode cX9_wrong 19 = .ok (.iadd, 1) := by decide +kernel
theorem dX9_wrong_20 : decode cX9_wrong 20 = .ok (.iaload, 1) := by decide +kernel
theorem dX9_wrong_21 : decode cX9_wrong 21 = .ok (.istore_n 3, 1) := by decide +kernel
theorem dX9_wrong_22 : decode cX9_wrong 22 = .ok (.aload_n 0, 1) := by decide +kernel
theorem dX9_wrong_23 : decode cX9_wrong 23 = .ok (.getfield 30, 3) := by decide +kernel
theorem dX9_wrong_26 : decode cX9_wrong 26 = .ok (.iconst 4, 1) := by decide +kernel
theorem dX9_wrong_27 : decode cX9_wrong 27 = .ok (.iload_n 1, 1) := by decide +kernel
theorem dX9_wrong_28 : decode cX9_wrong 28 = .ok (.imul, 1) := by decide +kernel
theorem dX9_wrong_29 : decode cX9_wrong 29 = .ok (.iaload, 1) := by decide +kernel
theorem dX9_wrong_30 : decode cX9_wrong 30 = .ok (.iconst 0, 1) := by decide +kernel
theorem dX9_wrong_31 : decode cX9_wrong 31 = .ok (.bipush 11, 2) := by decide +kernel
theorem dX9_wrong_33 : decode cX9_wrong 33 = .ok (.invokestatic 91, 3) := by decide +kernel
theorem dX9_wrong_36 : decode cX9_wrong 36 = .ok (.ifCond .eq 27, 3) := by decide +kernel
theorem dX9_wrong_39 : decode cX9_wrong 39 = .ok (.iload_n 2, 1) := by decide +kernel
theorem dX9_wrong_40 : decode cX9_wrong 40 = .ok (.bipush (-2), 2) := by decide +kernel
theorem dX9_wrong_42 : decode cX9_wrong 42 = .ok (.iload_n 1, 1) := by decide +kernel
theorem dX9_wrong_43 : decode cX9_wrong 43 = .ok (.iconst 1, 1) := by decide +kernel
theorem dX9_wrong_44 : decode cX9_wrong 44 = .ok (.isub, 1) := by decide +kernel
theorem dX9_wrong_45 : decode cX9_wrong 45 = .ok (.invokestatic 91, 3) := by decide +kernel
theorem dX9_wrong_48 : decode cX9_wrong 48 = .ok (.ifCond .eq 15, 3) := by decide +kernel
theorem dX9_wrong_51 : decode cX9_wrong 51 = .ok (.iload_n 3, 1) := by decide +kernel
theorem dX9_wrong_52 : decode cX9_wrong 52 = .ok (.bipush (-2), 2) := by decide +kernel
theorem dX9_wrong_54 : decode cX9_wrong 54 = .ok (.iload_n 1, 1) := by decide +kernel
theorem dX9_wrong_55 : decode cX9_wrong 55 = .ok (.iconst 1, 1) := by decide +kernel
theorem dX9_wrong_56 : decode cX9_wrong 56 = .ok (.isub, 1) := by decide +kernel
theorem dX9_wrong_57 : decode cX9_wrong 57 = .ok (.invokestatic 91, 3) := by decide +kernel
theorem dX9_wrong_60 : decode cX9_wrong 60 = .ok (.ifCond .ne 5, 3) := by decide +kernel
theorem dX9_wrong_63 : decode cX9_wrong 63 = .ok (.iconst 1, 1) := by decide +kernel
theorem dX9_wrong_64 : decode cX9_wrong 64 = .ok (.ireturn, 1) := by decide +kernel
theorem dX9_wrong_65 : decode cX9_wrong 65 = .ok (.aload_n 0, 1) := by decide +kernel
theorem dX9_wrong_66 : decode cX9_wrong 66 = .ok (.iload_n 1, 1) := by decide +kernel
theorem dX9_wrong_67 : decode cX9_wrong 67 = .ok (.iload_n 2, 1) := by decide +kernel
theorem dX9_wrong_68 : decode cX9_wrong 68 = .ok (.invokevirtual 225, 3) := by decide +kernel
theorem dX9_wrong_71 : decode cX9_wrong 71 = .ok (.ifCond .eq 12, 3) := by decide +kernel
theorem dX9_wrong_74 : decode cX9_wrong 74 = .ok (.aload_n 0, 1) := by decide +kernel
theorem dX9_wrong_75 : decode cX9_wrong 75 = .ok (.iload_n 1, 1) := by decide +kernel
theorem dX9_wrong_76 : decode cX9_wrong 76 = .ok (.iload_n 3, 1) := by decide +kernel
theorem dX9_wrong_77 : decode cX9_wrong 77 = .ok (.invokevirtual 225, 3) := by decide +kernel
theorem dX9_wrong_80 : decode cX9_wrong 80 = .ok (.ifCond .ne 5, 3) := by decide +kernel
theorem dX9_wrong_83 : decode cX9_wrong 83 = .ok (.iconst 2, 1) := by decide +kernel
theorem dX9_wrong_84 : decode cX9_wrong 84 = .ok (.ireturn, 1) := by decide +kernel
theorem dX9_wrong_85 : decode cX9_wrong 85 = .ok (.iload_n 3, 1) := by decide +kernel
theorem dX9_wrong_86 : decode cX9_wrong 86 = .ok (.iconst (-1), 1) := by decide +kernel
theorem dX9_wrong_87 : decode cX9_wrong 87 = .ok (.if_icmp .ne 5, 3) := by decide +kernel
theorem dX9_wrong_90 : decode cX9_wrong 90 = .ok (.iconst 3, 1) := by decide +kernel
theorem dX9_wrong_91 : decode cX9_wrong 91 = .ok (.ireturn, 1) := by decide +kernel
theorem dX9_wrong_92 : decode cX9_wrong 92 = .ok (.iconst 0, 1) := by decide +kernel
theorem dX9_wrong_93 : decode cX9_wrong 93 = .ok (.istore 4, 2) := by decide +kernel
theorem dX9_wrong_95 : decode cX9_wrong 95 = .ok (.iload 4, 2) := by decide +kernel
theorem dX9_wrong_97 : decode cX9_wrong 97 = .ok (.iload_n 1, 1) := by decide +kernel
theorem dX9_wrong_98 : decode cX9_wrong 98 = .ok (.if_icmp .ge 61, 3) := by decide +kernel
theorem dX9_wrong_101 : decode cX9_wrong 101 = .ok (.aload_n 0, 1) := by decide +kernel
theorem dX9_wrong_102 : decode cX9_wrong 102 = .ok (.getfield 30, 3) := by decide +kernel
theorem dX9_wrong_105 : decode cX9_wrong 105 = .ok (.iconst 4, 1) := by decide +kernel
theorem dX9_wrong_106 : decode cX9_wrong 106 = .ok (.iload 4, 2) := by decide +kernel
theorem dX9_wrong_108 : decode cX9_wrong 108 = .ok (.imul, 1) := by decide +kernel
theorem dX9_wrong_109 : decode cX9_wrong 109 = .ok (.iaload, 1) := by decide +kernel
theorem dX9_wrong_110 : decode cX9_wrong 110 = .ok (.aload_n 0, 1) := by decide +kernel
theorem dX9_wrong_111 : decode cX9_wrong 111 = .ok (.getfield 30, 3) := by decide +kernel
theorem dX9_wrong_114 : decode cX9_wrong 114 = .ok (.iconst 4, 1) := by decide +kernel
theorem dX9_wrong_115 : decode cX9_wrong 115 = .ok (.iload_n 1, 1) := by decide +kernel
theorem dX9_wrong_116 : decode cX9_wrong 116 = .ok (.imul, 1) := by decide +kernel
theorem dX9_wrong_117 : decode cX9_wrong 117 = .ok (.iaload, 1) := by decide +kernel
theorem dX9_wrong_118 : decode cX9_wrong 118 = .ok (.if_icmp .ne 35, 3) := by decide +kernel
theorem dX9_wrong_121 : decode cX9_wrong 121 = .ok (.aload_n 0, 1) := by decide +kernel
theorem dX9_wrong_122 : decode cX9_wrong 122 = .ok (.getfield 30, 3) := by decide +kernel
theorem dX9_wrong_125 : decode cX9_wrong 125 = .ok (.iconst 4, 1) := by decide +kernel
theorem dX9_wrong_126 : decode cX9_wrong 126 = .ok (.iload 4, 2) := by decide +kernel
theorem dX9_wrong_128 : decode cX9_wrong 128 = .ok (.imul, 1) := by decide +kernel
theorem dX9_wrong_129 : decode cX9_wrong 129 = .ok (.iconst 1, 1) := by decide +kernel
theorem dX9_wrong_130 : decode cX9_wrong 130 = .ok (.iadd, 1) := by decide +kernel
theorem dX9_wrong_131 : decode cX9_wrong 131 = .ok (.iaload, 1) := by decide +kernel
theorem dX9_wrong_132 : decode cX9_wrong 132 = .ok (.iload_n 2, 1) := by decide +kernel
theorem dX9_wrong_133 : decode cX9_wrong 133 = .ok (.if_icmp .ne 20, 3) := by decide +kernel
theorem dX9_wrong_136 : decode cX9_wrong 136 = .ok (.aload_n 0, 1) := by decide +kernel
theorem dX9_wrong_137 : decode cX9_wrong 137 = .ok (.getfield 30, 3) := by decide +kernel
theorem dX9_wrong_140 : decode cX9_wrong 140 = .ok (.iconst 4, 1) := by decide +kernel
theorem dX9_wrong_141 : decode cX9_wrong 141 = .ok (.iload 4, 2) := by decide +kernel
theorem dX9_wrong_143 : decode cX9_wrong 143 = .ok (.imul, 1) := by decide +kernel
theorem dX9_wrong_144 : decode cX9_wrong 144 = .ok (.iconst 2, 1) := by decide +kernel
theorem dX9_wrong_145 : decode cX9_wrong 145 = .ok (.iadd, 1) := by decide +kernel
theorem dX9_wrong_146 : decode cX9_wrong 146 = .ok (.iaload, 1) := by decide +kernel
theorem dX9_wrong_147 : decode cX9_wrong 147 = .ok (.iload_n 3, 1) := by decide +kernel
theorem dX9_wrong_148 : decode cX9_wrong 148 = .ok (.if_icmp .ne 5, 3) := by decide +kernel
theorem dX9_wrong_151 : decode cX9_wrong 151 = .ok (.iconst 4, 1) := by decide +kernel
theorem dX9_wrong_152 : decode cX9_wrong 152 = .ok (.ireturn, 1) := by decide +kernel
theorem dX9_wrong_153 : decode cX9_wrong 153 = .ok (.iinc 4 1, 3) := by decide +kernel
theorem dX9_wrong_156 : decode cX9_wrong 156 = .ok (.goto (-61), 3) := by decide +kernel
theorem dX9_wrong_159 : decode cX9_wrong 159 = .ok (.aload_n 0, 1) := by decide +kernel
theorem dX9_wrong_160 : decode cX9_wrong 160 = .ok (.getfield 30, 3) := by decide +kernel
theorem dX9_wrong_163 : decode cX9_wrong 163 = .ok (.iconst 4, 1) := by decide +kernel
theorem dX9_wrong_164 : decode cX9_wrong 164 = .ok (.iload_n 1, 1) := by decide +kernel
theorem dX9_wrong_165 : decode cX9_wrong 165 = .ok (.imul, 1) := by decide +kernel
theorem dX9_wrong_166 : decode cX9_wrong 166 = .ok (.iconst 3, 1) := by decide +kernel
theorem dX9_wrong_167 : decode cX9_wrong 167 = .ok (.iadd, 1) := by decide +kernel
theorem dX9_wrong_168 : decode cX9_wrong 168 = .ok (.iaload, 1) := by decide +kernel
theorem dX9_wrong_169 : decode cX9_wrong 169 = .ok (.aload_n 0, 1) := by decide +kernel
theorem dX9_wrong_170 : decode cX9_wrong 170 = .ok (.iload_n 2, 1) := by decide +kernel
theorem dX9_wrong_171 : decode cX9_wrong 171 = .ok (.invokevirtual 228, 3) := by decide +kernel
theorem dX9_wrong_174 : decode cX9_wrong 174 = .ok (.aload_n 0, 1) := by decide +kernel
theorem dX9_wrong_175 : decode cX9_wrong 175 = .ok (.iload_n 3, 1) := by decide +kernel
theorem dX9_wrong_176 : decode cX9_wrong 176 = .ok (.invokevirtual 228, 3) := by decide +kernel
theorem dX9_wrong_179 : decode cX9_wrong 179 = .ok (.iadd, 1) := by decide +kernel
theorem dX9_wrong_180 : decode cX9_wrong 180 = .ok (.if_icmp .eq 7, 3) := by decide +kernel
theorem dX9_wrong_183 : decode cX9_wrong 183 = .ok (.iconst 5, 1) := by decide +kernel
theorem dX9_wrong_184 : decode cX9_wrong 184 = .ok (.goto 4, 3) := by decide +kernel
theorem dX9_wrong_187 : decode cX9_wrong 187 = .ok (.iconst 0, 1) := by decide +kernel
theorem dX9_wrong_188 : decode cX9_wrong 188 = .ok (.ireturn, 1) := by decide +kernel
theorem dX9_check_0 : decode cX9_check 0 = .ok (.aload_n 0, 1) := by decide +kernel
theorem dX9_check_1 : decode cX9_check 1 = .ok (.iload_n 1, 1) := by decide +kernel
theorem dX9_check_2 : decode cX9_check 2 = .ok (.invokevirtual 142, 3) := by decide +kernel
theorem dX9_check_5 : decode cX9_check 5 = .ok (.ifCond .ne 6, 3) := by decide +kernel
theorem dX9_check_8 : decode cX9_check 8 = .ok (.bipush (-2), 2) := by decide +kernel
theorem dX9_check_10 : decode cX9_check 10 = .ok (.ireturn, 1) := by decide +kernel
theorem dX9_check_11 : decode cX9_check 11 = .ok (.iconst 0, 1) := by decide +kernel
theorem dX9_check_12 : decode cX9_check 12 = .ok (.istore_n 2, 1) := by decide +kernel
theorem dX9_check_13 : decode cX9_check 13 = .ok (.iload_n 2, 1) := by decide +kernel
theorem dX9_check_14 : decode cX9_check 14 = .ok (.aload_n 0, 1) := by decide +kernel
theorem dX9_check_15 : decode cX9_check 15 = .ok (.getfield 222, 3) := by decide +kernel
theorem dX9_check_18 : decode cX9_check 18 = .ok (.if_icmp .ge 26, 3) := by decide +kernel
theorem dX9_check_21 : decode cX9_check 21 = .ok (.aload_n 0, 1) := by decide +kernel
theorem dX9_check_22 : decode cX9_check 22 = .ok (.iload_n 2, 1) := by decide +kernel
theorem dX9_check_23 : decode cX9_check 23 = .ok (.invokevirtual 231, 3) := by decide +kernel
theorem dX9_check_26 : decode cX9_check 26 = .ok (.istore_n 3, 1) := by decide +kernel
theorem dX9_check_27 : decode cX9_check 27 = .ok (.iload_n 3, 1) := by decide +kernel
theorem dX9_check_28 : decode cX9_check 28 = .ok (.ifCond .eq 10, 3) := by decide +kernel
theorem dX9_check_31 : decode cX9_check 31 = .ok (.bipush 8, 2) := by decide +kernel
theorem dX9_check_33 : decode cX9_check 33 = .ok (.iload_n 2, 1) := by decide +kernel
theorem dX9_check_34 : decode cX9_check 34 = .ok (.imul, 1) := by decide +kernel
theorem dX9_check_35 : decode cX9_check 35 = .ok (.iload_n 3, 1) := by decide +kernel
theorem dX9_check_36 : decode cX9_check 36 = .ok (.iadd, 1) := by decide +kernel
theorem dX9_check_37 : decode cX9_check 37 = .ok (.ireturn, 1) := by decide +kernel
theorem dX9_check_38 : decode cX9_check 38 = .ok (.iinc 2 1, 3) := by decide +kernel
theorem dX9_check_41 : decode cX9_check 41 = .ok (.goto (-28), 3) := by decide +kernel
theorem dX9_check_44 : decode cX9_check 44 = .ok (.aload_n 0, 1) := by decide +kernel
theorem dX9_check_45 : decode cX9_check 45 = .ok (.iload_n 1, 1) := by decide +kernel
theorem dX9_check_46 : decode cX9_check 46 = .ok (.invokevirtual 219, 3) := by decide +kernel
theorem dX9_check_49 : decode cX9_check 49 = .ok (.aload_n 0, 1) := by decide +kernel
theorem dX9_check_50 : decode cX9_check 50 = .ok (.getfield 206, 3) := by decide +kernel
theorem dX9_check_53 : decode cX9_check 53 = .ok (.aload_n 0, 1) := by decide +kernel
theorem dX9_check_54 : decode cX9_check 54 = .ok (.getfield 222, 3) := by decide +kernel
theorem dX9_check_57 : decode cX9_check 57 = .ok (.if_icmp .ne 7, 3) := by decide +kernel
theorem dX9_check_60 : decode cX9_check 60 = .ok (.iconst 1, 1) := by decide +kernel
theorem dX9_check_61 : decode cX9_check 61 = .ok (.goto 4, 3) := by decide +kernel
theorem dX9_check_64 : decode cX9_check 64 = .ok (.iconst 0, 1) := by decide +kernel
theorem dX9_check_65 : decode cX9_check 65 = .ok (.istore_n 2, 1) := by decide +kernel
theorem dX9_check_66 : decode cX9_check 66 = .ok (.iconst 0, 1) := by decide +kernel
theorem dX9_check_67 : decode cX9_check 67 = .ok (.istore_n 3, 1) := by decide +kernel
theorem dX9_check_68 : decode cX9_check 68 = .ok (.iload_n 2, 1) := by decide +kernel
theorem dX9_check_69 : decode cX9_check 69 = .ok (.ifCond .eq 40, 3) := by decide +kernel
theorem dX9_check_72 : decode cX9_check 72 = .ok (.iload_n 3, 1) := by decide +kernel
theorem dX9_check_73 : decode cX9_check 73 = .ok (.iconst 4, 1) := by decide +kernel
theorem dX9_check_74 : decode cX9_check 74 = .ok (.aload_n 0, 1) := by decide +kernel
theorem dX9_check_75 : decode cX9_check 75 = .ok (.getfield 222, 3) := by decide +kernel
theorem dX9_check_78 : decode cX9_check 78 = .ok (.imul, 1) := by decide +kernel
theorem dX9_check_79 : decode cX9_check 79 = .ok (.if_icmp .ge 30, 3) := by decide +kernel
theorem dX9_check_82 : decode cX9_check 82 = .ok (.aload_n 0, 1) := by decide +kernel
theorem dX9_check_83 : decode cX9_check 83 = .ok (.getfield 30, 3) := by decide +kernel
theorem dX9_check_86 : decode cX9_check 86 = .ok (.iload_n 3, 1) := by decide +kernel
theorem dX9_check_87 : decode cX9_check 87 = .ok (.iaload, 1) := by decide +kernel
theorem dX9_check_88 : decode cX9_check 88 = .ok (.aload_n 0, 1) := by decide +kernel
theorem dX9_check_89 : decode cX9_check 89 = .ok (.getfield 84, 3) := by decide +kernel
theorem dX9_check_92 : decode cX9_check 92 = .ok (.iload_n 3, 1) := by decide +kernel
theorem dX9_check_93 : decode cX9_check 93 = .ok (.iaload, 1) := by decide +kernel
theorem dX9_check_94 : decode cX9_check 94 = .ok (.if_icmp .ne 7, 3) := by decide +kernel
theorem dX9_check_97 : decode cX9_check 97 = .ok (.iconst 1, 1) := by decide +kernel
theorem dX9_check_98 : decode cX9_check 98 = .ok (.goto 4, 3) := by decide +kernel
theorem dX9_check_101 : decode cX9_check 101 = .ok (.iconst 0, 1) := by decide +kernel
theorem dX9_check_102 : decode cX9_check 102 = .ok (.istore_n 2, 1) := by decide +kernel
theorem dX9_check_103 : decode cX9_check 103 = .ok (.iinc 3 1, 3) := by decide +kernel
theorem dX9_check_106 : decode cX9_check 106 = .ok (.goto (-38), 3) := by decide +kernel
theorem dX9_check_109 : decode cX9_check 109 = .ok (.iload_n 2, 1) := by decide +kernel
theorem dX9_check_110 : decode cX9_check 110 = .ok (.ifCond .eq 7, 3) := by decide +kernel
theorem dX9_check_113 : decode cX9_check 113 = .ok (.iconst (-1), 1) := by decide +kernel
theorem dX9_check_114 : decode cX9_check 114 = .ok (.goto 5, 3) := by decide +kernel
theorem dX9_check_117 : decode cX9_check 117 = .ok (.bipush (-3), 2) := by decide +kernel
theorem dX9_check_119 : decode cX9_check 119 = .ok (.ireturn, 1) := by decide +kernel
theorem dX9_sheet_0 : decode cX9_sheet 0 = .ok (.iload_n 1, 1) := by decide +kernel
theorem dX9_sheet_1 : decode cX9_sheet 1 = .ok (.iconst 0, 1) := by decide +kernel
theorem dX9_sheet_2 : decode cX9_sheet 2 = .ok (.iconst 5, 1) := by decide +kernel
theorem dX9_sheet_3 : decode cX9_sheet 3 = .ok (.invokestatic 91, 3) := by decide +kernel
theorem dX9_sheet_6 : decode cX9_sheet 6 = .ok (.ifCond .eq 23, 3) := by decide +kernel
theorem dX9_sheet_9 : decode cX9_sheet 9 = .ok (.iload_n 2, 1) := by decide +kernel
theorem dX9_sheet_10 : decode cX9_sheet 10 = .ok (.iconst (-1), 1) := by decide +kernel
theorem dX9_sheet_11 : decode cX9_sheet 11 = .ok (.iconst 2, 1) := by decide +kernel
theorem dX9_sheet_12 : decode cX9_sheet 12 = .ok (.invokestatic 91, 3) := by decide +kernel
theorem dX9_sheet_15 : decode cX9_sheet 15 = .ok (.ifCond .eq 14, 3) := by decide +kernel
theorem dX9_sheet_18 : decode cX9_sheet 18 = .ok (.iload_n 2, 1) := by decide +kernel
theorem dX9_sheet_19 : decode cX9_sheet 19 = .ok (.iconst (-1), 1) := by decide +kernel
theorem dX9_sheet_20 : decode cX9_sheet 20 = .ok (.if_icmp .eq 12, 3) := by decide +kernel
theorem dX9_sheet_23 : decode cX9_sheet 23 = .ok (.iload_n 3, 1) := by decide +kernel
theorem dX9_sheet_24 : decode cX9_sheet 24 = .ok (.bipush 40, 2) := by decide +kernel
theorem dX9_sheet_26 : decode cX9_sheet 26 = .ok (.if_icmp .le 6, 3) := by decide +kernel
theorem dX9_sheet_29 : decode cX9_sheet 29 = .ok (.bipush (-2), 2) := by decide +kernel
theorem dX9_sheet_31 : decode cX9_sheet 31 = .ok (.ireturn, 1) := by decide +kernel
theorem dX9_sheet_32 : decode cX9_sheet 32 = .ok (.iload_n 2, 1) := by decide +kernel
theorem dX9_sheet_33 : decode cX9_sheet 33 = .ok (.iconst (-1), 1) := by decide +kernel
theorem dX9_sheet_34 : decode cX9_sheet 34 = .ok (.if_icmp .eq 10, 3) := by decide +kernel
theorem dX9_sheet_37 : decode cX9_sheet 37 = .ok (.iload_n 3, 1) := by decide +kernel
theorem dX9_sheet_38 : decode cX9_sheet 38 = .ok (.ifCond .ge 6, 3) := by decide +kernel
theorem dX9_sheet_41 : decode cX9_sheet 41 = .ok (.bipush (-14), 2) := by decide +kernel
theorem dX9_sheet_43 : decode cX9_sheet 43 = .ok (.ireturn, 1) := by decide +kernel
theorem dX9_sheet_44 : decode cX9_sheet 44 = .ok (.aload_n 0, 1) := by decide +kernel
theorem dX9_sheet_45 : decode cX9_sheet 45 = .ok (.getfield 33, 3) := by decide +kernel
theorem dX9_sheet_48 : decode cX9_sheet 48 = .ok (.iload_n 1, 1) := by decide +kernel
theorem dX9_sheet_49 : decode cX9_sheet 49 = .ok (.iload_n 2, 1) := by decide +kernel
theorem dX9_sheet_50 : decode cX9_sheet 50 = .ok (.iastore, 1) := by decide +kernel
theorem dX9_sheet_51 : decode cX9_sheet 51 = .ok (.aload_n 0, 1) := by decide +kernel
theorem dX9_sheet_52 : decode cX9_sheet 52 = .ok (.getfield 36, 3) := by decide +kernel
theorem dX9_sheet_55 : decode cX9_sheet 55 = .ok (.iload_n 1, 1) := by decide +kernel
theorem dX9_sheet_56 : decode cX9_sheet 56 = .ok (.iload_n 2, 1) := by decide +kernel
theorem dX9_sheet_57 : decode cX9_sheet 57 = .ok (.iconst (-1), 1) := by decide +kernel
theorem dX9_sheet_58 : decode cX9_sheet 58 = .ok (.if_icmp .ne 7, 3) := by decide +kernel
theorem dX9_sheet_61 : decode cX9_sheet 61 = .ok (.iconst 0, 1) := by decide +kernel
theorem dX9_sheet_62 : decode cX9_sheet 62 = .ok (.goto 4, 3) := by decide +kernel
theorem dX9_sheet_65 : decode cX9_sheet 65 = .ok (.iload_n 3, 1) := by decide +kernel
theorem dX9_sheet_66 : decode cX9_sheet 66 = .ok (.iastore, 1) := by decide +kernel
theorem dX9_sheet_67 : decode cX9_sheet 67 = .ok (.iconst 0, 1) := by decide +kernel
theorem dX9_sheet_68 : decode cX9_sheet 68 = .ok (.istore 4, 2) := by decide +kernel
theorem dX9_sheet_70 : decode cX9_sheet 70 = .ok (.iload 4, 2) := by decide +kernel
theorem dX9_sheet_72 : decode cX9_sheet 72 = .ok (.bipush 40, 2) := by decide +kernel
theorem dX9_sheet_74 : decode cX9_sheet 74 = .ok (.if_icmp .ge 22, 3) := by decide +kernel
theorem dX9_sheet_77 : decode cX9_sheet 77 = .ok (.aload_n 0, 1) := by decide +kernel
theorem dX9_sheet_78 : decode cX9_sheet 78 = .ok (.getfield 39, 3) := by decide +kernel
theorem dX9_sheet_81 : decode cX9_sheet 81 = .ok (.bipush 40, 2) := by decide +kernel
theorem dX9_sheet_83 : decode cX9_sheet 83 = .ok (.iload_n 1, 1) := by decide +kernel
theorem dX9_sheet_84 : decode cX9_sheet 84 = .ok (.imul, 1) := by decide +kernel
theorem dX9_sheet_85 : decode cX9_sheet 85 = .ok (.iload 4, 2) := by decide +kernel
theorem dX9_sheet_87 : decode cX9_sheet 87 = .ok (.iadd, 1) := by decide +kernel
theorem dX9_sheet_88 : decode cX9_sheet 88 = .ok (.iconst 0, 1) := by decide +kernel
theorem dX9_sheet_89 : decode cX9_sheet 89 = .ok (.iastore, 1) := by decide +kernel
theorem dX9_sheet_90 : decode cX9_sheet 90 = .ok (.iinc 4 1, 3) := by decide +kernel
theorem dX9_sheet_93 : decode cX9_sheet 93 = .ok (.goto (-23), 3) := by decide +kernel
theorem dX9_sheet_96 : decode cX9_sheet 96 = .ok (.iconst 1, 1) := by decide +kernel
theorem dX9_sheet_97 : decode cX9_sheet 97 = .ok (.ireturn, 1) := by decide +kernel
theorem dX9_cell_0 : decode cX9_cell 0 = .ok (.iload_n 1, 1) := by decide +kernel
theorem dX9_cell_1 : decode cX9_cell 1 = .ok (.iconst 0, 1) := by decide +kernel
theorem dX9_cell_2 : decode cX9_cell 2 = .ok (.iconst 5, 1) := by decide +kernel
theorem dX9_cell_3 : decode cX9_cell 3 = .ok (.invokestatic 91, 3) := by decide +kernel
theorem dX9_cell_6 : decode cX9_cell 6 = .ok (.ifCond .ne 6, 3) := by decide +kernel
theorem dX9_cell_9 : decode cX9_cell 9 = .ok (.bipush (-2), 2) := by decide +kernel
theorem dX9_cell_11 : decode cX9_cell 11 = .ok (.ireturn, 1) := by decide +kernel
theorem dX9_cell_12 : decode cX9_cell 12 = .ok (.aload_n 0, 1) := by decide +kernel
theorem dX9_cell_13 : decode cX9_cell 13 = .ok (.getfield 33, 3) := by decide +kernel
theorem dX9_cell_16 : decode cX9_cell 16 = .ok (.iload_n 1, 1) := by decide +kernel
theorem dX9_cell_17 : decode cX9_cell 17 = .ok (.iaload, 1) := by decide +kernel
theorem dX9_cell_18 : decode cX9_cell 18 = .ok (.iconst (-1), 1) := by decide +kernel
theorem dX9_cell_19 : decode cX9_cell 19 = .ok (.if_icmp .ne 6, 3) := by decide +kernel
theorem dX9_cell_22 : decode cX9_cell 22 = .ok (.bipush (-11), 2) := by decide +kernel
theorem dX9_cell_24 : decode cX9_cell 24 = .ok (.ireturn, 1) := by decide +kernel
theorem dX9_cell_25 : decode cX9_cell 25 = .ok (.iload_n 2, 1) := by decide +kernel
theorem dX9_cell_26 : decode cX9_cell 26 = .ok (.iconst 0, 1) := by decide +kernel
theorem dX9_cell_27 : decode cX9_cell 27 = .ok (.aload_n 0, 1) := by decide +kernel
theorem dX9_cell_28 : decode cX9_cell 28 = .ok (.getfield 36, 3) := by decide +kernel
theorem dX9_cell_31 : decode cX9_cell 31 = .ok (.iload_n 1, 1) := by decide +kernel
theorem dX9_cell_32 : decode cX9_cell 32 = .ok (.iaload, 1) := by decide +kernel
theorem dX9_cell_33 : decode cX9_cell 33 = .ok (.iconst 1, 1) := by decide +kernel
theorem dX9_cell_34 : decode cX9_cell 34 = .ok (.isub, 1) := by decide +kernel
theorem dX9_cell_35 : decode cX9_cell 35 = .ok (.invokestatic 91, 3) := by decide +kernel
theorem dX9_cell_38 : decode cX9_cell 38 = .ok (.ifCond .ne 6, 3) := by decide +kernel
theorem dX9_cell_41 : decode cX9_cell 41 = .ok (.bipush (-12), 2) := by decide +kernel
theorem dX9_cell_43 : decode cX9_cell 43 = .ok (.ireturn, 1) := by decide +kernel
theorem dX9_cell_44 : decode cX9_cell 44 = .ok (.aload_n 0, 1) := by decide +kernel
theorem dX9_cell_45 : decode cX9_cell 45 = .ok (.getfield 39, 3) := by decide +kernel
theorem dX9_cell_48 : decode cX9_cell 48 = .ok (.bipush 40, 2) := by decide +kernel
theorem dX9_cell_50 : decode cX9_cell 50 = .ok (.iload_n 1, 1) := by decide +kernel
theorem dX9_cell_51 : decode cX9_cell 51 = .ok (.imul, 1) := by decide +kernel
theorem dX9_cell_52 : decode cX9_cell 52 = .ok (.iload_n 2, 1) := by decide +kernel
theorem dX9_cell_53 : decode cX9_cell 53 = .ok (.iadd, 1) := by decide +kernel
theorem dX9_cell_54 : decode cX9_cell 54 = .ok (.aload_n 0, 1) := by decide +kernel
theorem dX9_cell_55 : decode cX9_cell 55 = .ok (.getfield 33, 3) := by decide +kernel
theorem dX9_cell_58 : decode cX9_cell 58 = .ok (.iload_n 1, 1) := by decide +kernel
theorem dX9_cell_59 : decode cX9_cell 59 = .ok (.iaload, 1) := by decide +kernel
theorem dX9_cell_60 : decode cX9_cell 60 = .ok (.ifCond .ne 8, 3) := by decide +kernel
theorem dX9_cell_63 : decode cX9_cell 63 = .ok (.iload_n 3, 1) := by decide +kernel
theorem dX9_cell_64 : decode cX9_cell 64 = .ok (.i2b, 1) := by decide +kernel
theorem dX9_cell_65 : decode cX9_cell 65 = .ok (.goto 19, 3) := by decide +kernel
theorem dX9_cell_68 : decode cX9_cell 68 = .ok (.aload_n 0, 1) := by decide +kernel
theorem dX9_cell_69 : decode cX9_cell 69 = .ok (.getfield 33, 3) := by decide +kernel
theorem dX9_cell_72 : decode cX9_cell 72 = .ok (.iload_n 1, 1) := by decide +kernel
theorem dX9_cell_73 : decode cX9_cell 73 = .ok (.iaload, 1) := by decide +kernel
theorem dX9_cell_74 : decode cX9_cell 74 = .ok (.iconst 1, 1) := by decide +kernel
theorem dX9_cell_75 : decode cX9_cell 75 = .ok (.if_icmp .ne 8, 3) := by decide +kernel
theorem dX9_cell_78 : decode cX9_cell 78 = .ok (.iload_n 3, 1) := by decide +kernel
theorem dX9_cell_79 : decode cX9_cell 79 = .ok (.i2s, 1) := by decide +kernel
theorem dX9_cell_80 : decode cX9_cell 80 = .ok (.goto 4, 3) := by decide +kernel
theorem dX9_cell_83 : decode cX9_cell 83 = .ok (.iload_n 3, 1) := by decide +kernel
theorem dX9_cell_84 : decode cX9_cell 84 = .ok (.iastore, 1) := by decide +kernel
theorem dX9_cell_85 : decode cX9_cell 85 = .ok (.iconst 1, 1) := by decide +kernel
theorem dX9_cell_86 : decode cX9_cell 86 = .ok (.ireturn, 1) := by decide +kernel
theorem dX9_lay_0 : decode cX9_lay 0 = .ok (.iload_n 1, 1) := by decide +kernel
theorem dX9_lay_1 : decode cX9_lay 1 = .ok (.iconst 0, 1) := by decide +kernel
theorem dX9_lay_2 : decode cX9_lay 2 = .ok (.iconst 5, 1) := by decide +kernel
theorem dX9_lay_3 : decode cX9_lay 3 = .ok (.invokestatic 91, 3) := by decide +kernel
theorem dX9_lay_6 : decode cX9_lay 6 = .ok (.ifCond .eq 12, 3) := by decide +kernel
theorem dX9_lay_9 : decode cX9_lay 9 = .ok (.iload_n 2, 1) := by decide +kernel
theorem dX9_lay_10 : decode cX9_lay 10 = .ok (.iconst 0, 1) := by decide +kernel
theorem dX9_lay_11 : decode cX9_lay 11 = .ok (.iconst 2, 1) := by decide +kernel
theorem dX9_lay_12 : decode cX9_lay 12 = .ok (.invokestatic 91, 3) := by decide +kernel
theorem dX9_lay_15 : decode cX9_lay 15 = .ok (.ifCond .ne 6, 3) := by decide +kernel
theorem dX9_lay_18 : decode cX9_lay 18 = .ok (.bipush (-2), 2) := by decide +kernel
theorem dX9_lay_20 : decode cX9_lay 20 = .ok (.ireturn, 1) := by decide +kernel
theorem dX9_lay_21 : decode cX9_lay 21 = .ok (.aload_n 0, 1) := by decide +kernel
theorem dX9_lay_22 : decode cX9_lay 22 = .ok (.getfield 33, 3) := by decide +kernel
theorem dX9_lay_25 : decode cX9_lay 25 = .ok (.iload_n 1, 1) := by decide +kernel
theorem dX9_lay_26 : decode cX9_lay 26 = .ok (.iaload, 1) := by decide +kernel
theorem dX9_lay_27 : decode cX9_lay 27 = .ok (.iconst (-1), 1) := by decide +kernel
theorem dX9_lay_28 : decode cX9_lay 28 = .ok (.if_icmp .eq 16, 3) := by decide +kernel
theorem dX9_lay_31 : decode cX9_lay 31 = .ok (.aload_n 0, 1) := by decide +kernel
theorem dX9_lay_32 : decode cX9_lay 32 = .ok (.getfield 33, 3) := by decide +kernel
theorem dX9_lay_35 : decode cX9_lay 35 = .ok (.iload_n 1, 1) := by decide +kernel
theorem dX9_lay_36 : decode cX9_lay 36 = .ok (.iaload, 1) := by decide +kernel
theorem dX9_lay_37 : decode cX9_lay 37 = .ok (.iload_n 2, 1) := by decide +kernel
theorem dX9_lay_38 : decode cX9_lay 38 = .ok (.if_icmp .eq 6, 3) := by decide +kernel
theorem dX9_lay_41 : decode cX9_lay 41 = .ok (.bipush (-13), 2) := by decide +kernel
theorem dX9_lay_43 : decode cX9_lay 43 = .ok (.ireturn, 1) := by decide +kernel
theorem dX9_lay_44 : decode cX9_lay 44 = .ok (.aload_n 0, 1) := by decide +kernel
theorem dX9_lay_45 : decode cX9_lay 45 = .ok (.getfield 33, 3) := by decide +kernel
theorem dX9_lay_48 : decode cX9_lay 48 = .ok (.iload_n 1, 1) := by decide +kernel
theorem dX9_lay_49 : decode cX9_lay 49 = .ok (.iaload, 1) := by decide +kernel
theorem dX9_lay_50 : decode cX9_lay 50 = .ok (.iconst (-1), 1) := by decide +kernel
theorem dX9_lay_51 : decode cX9_lay 51 = .ok (.if_icmp .ne 6, 3) := by decide +kernel
theorem dX9_lay_54 : decode cX9_lay 54 = .ok (.bipush (-11), 2) := by decide +kernel
theorem dX9_lay_56 : decode cX9_lay 56 = .ok (.ireturn, 1) := by decide +kernel
theorem dX9_lay_57 : decode cX9_lay 57 = .ok (.iload_n 3, 1) := by decide +kernel
theorem dX9_lay_58 : decode cX9_lay 58 = .ok (.ifCond .lt 15, 3) := by decide +kernel
theorem dX9_lay_61 : decode cX9_lay 61 = .ok (.iload_n 3, 1) := by decide +kernel
theorem dX9_lay_62 : decode cX9_lay 62 = .ok (.aload_n 0, 1) := by decide +kernel
theorem dX9_lay_63 : decode cX9_lay 63 = .ok (.getfield 36, 3) := by decide +kernel
theorem dX9_lay_66 : decode cX9_lay 66 = .ok (.iload_n 1, 1) := by decide +kernel
theorem dX9_lay_67 : decode cX9_lay 67 = .ok (.iaload, 1) := by decide +kernel
theorem dX9_lay_68 : decode cX9_lay 68 = .ok (.iconst 3, 1) := by decide +kernel
theorem dX9_lay_69 : decode cX9_lay 69 = .ok (.isub, 1) := by decide +kernel
theorem dX9_lay_70 : decode cX9_lay 70 = .ok (.if_icmp .le 6, 3) := by decide +kernel
theorem dX9_lay_73 : decode cX9_lay 73 = .ok (.bipush (-12), 2) := by decide +kernel
theorem dX9_lay_75 : decode cX9_lay 75 = .ok (.ireturn, 1) := by decide +kernel
theorem dX9_lay_76 : decode cX9_lay 76 = .ok (.bipush 40, 2) := by decide +kernel
theorem dX9_lay_78 : decode cX9_lay 78 = .ok (.iload_n 1, 1) := by decide +kernel
theorem dX9_lay_79 : decode cX9_lay 79 = .ok (.imul, 1) := by decide +kernel
theorem dX9_lay_80 : decode cX9_lay 80 = .ok (.iload_n 3, 1) := by decide +kernel
theorem dX9_lay_81 : decode cX9_lay 81 = .ok (.iadd, 1) := by decide +kernel
theorem dX9_lay_82 : decode cX9_lay 82 = .ok (.istore 4, 2) := by decide +kernel
theorem dX9_lay_84 : decode cX9_lay 84 = .ok (.aload_n 0, 1) := by decide +kernel
theorem dX9_lay_85 : decode cX9_lay 85 = .ok (.aload_n 0, 1) := by decide +kernel
theorem dX9_lay_86 : decode cX9_lay 86 = .ok (.getfield 39, 3) := by decide +kernel
theorem dX9_lay_89 : decode cX9_lay 89 = .ok (.iload 4, 2) := by decide +kernel
theorem dX9_lay_91 : decode cX9_lay 91 = .ok (.iaload, 1) := by decide +kernel
theorem dX9_lay_92 : decode cX9_lay 92 = .ok (.aload_n 0, 1) := by decide +kernel
theorem dX9_lay_93 : decode cX9_lay 93 = .ok (.getfield 39, 3) := by decide +kernel
theorem dX9_lay_96 : decode cX9_lay 96 = .ok (.iload 4, 2) := by decide +kernel
theorem dX9_lay_98 : decode cX9_lay 98 = .ok (.iconst 1, 1) := by decide +kernel
theorem dX9_lay_99 : decode cX9_lay 99 = .ok (.iadd, 1) := by decide +kernel
theorem dX9_lay_100 : decode cX9_lay 100 = .ok (.iaload, 1) := by decide +kernel
theorem dX9_lay_101 : decode cX9_lay 101 = .ok (.aload_n 0, 1) := by decide +kernel
theorem dX9_lay_102 : decode cX9_lay 102 = .ok (.getfield 39, 3) := by decide +kernel
theorem dX9_lay_105 : decode cX9_lay 105 = .ok (.iload 4, 2) := by decide +kernel
theorem dX9_lay_107 : decode cX9_lay 107 = .ok (.iconst 2, 1) := by decide +kernel
theorem dX9_lay_108 : decode cX9_lay 108 = .ok (.iadd, 1) := by decide +kernel
theorem dX9_lay_109 : decode cX9_lay 109 = .ok (.iaload, 1) := by decide +kernel
theorem dX9_lay_110 : decode cX9_lay 110 = .ok (.invokevirtual 234, 3) := by decide +kernel
theorem dX9_lay_113 : decode cX9_lay 113 = .ok (.ireturn, 1) := by decide +kernel
theorem dX9_shelf_0 : decode cX9_shelf 0 = .ok (.iload_n 2, 1) := by decide +kernel
theorem dX9_shelf_1 : decode cX9_shelf 1 = .ok (.iconst 2, 1) := by decide +kernel
theorem dX9_shelf_2 : decode cX9_shelf 2 = .ok (.if_icmp .eq 29, 3) := by decide +kernel
theorem dX9_shelf_5 : decode cX9_shelf 5 = .ok (.iload_n 2, 1) := by decide +kernel
theorem dX9_shelf_6 : decode cX9_shelf 6 = .ok (.ifCond .ne 11, 3) := by decide +kernel
theorem dX9_shelf_9 : decode cX9_shelf 9 = .ok (.aload_n 0, 1) := by decide +kernel
theorem dX9_shelf_10 : decode cX9_shelf 10 = .ok (.iload_n 3, 1) := by decide +kernel
theorem dX9_shelf_11 : decode cX9_shelf 11 = .ok (.invokevirtual 142, 3) := by decide +kernel
theorem dX9_shelf_14 : decode cX9_shelf 14 = .ok (.ifCond .ne 17, 3) := by decide +kernel
theorem dX9_shelf_17 : decode cX9_shelf 17 = .ok (.iload_n 2, 1) := by decide +kernel
theorem dX9_shelf_18 : decode cX9_shelf 18 = .ok (.iconst 1, 1) := by decide +kernel
theorem dX9_shelf_19 : decode cX9_shelf 19 = .ok (.if_icmp .ne 16, 3) := by decide +kernel
theorem dX9_shelf_22 : decode cX9_shelf 22 = .ok (.iload_n 3, 1) := by decide +kernel
theorem dX9_shelf_23 : decode cX9_shelf 23 = .ok (.iconst 0, 1) := by decide +kernel
theorem dX9_shelf_24 : decode cX9_shelf 24 = .ok (.iconst 5, 1) := by decide +kernel
theorem dX9_shelf_25 : decode cX9_shelf 25 = .ok (.invokestatic 91, 3) := by decide +kernel
theorem dX9_shelf_28 : decode cX9_shelf 28 = .ok (.ifCond .eq 7, 3) := by decide +kernel
theorem dX9_shelf_31 : decode cX9_shelf 31 = .ok (.iconst 1, 1) := by decide +kernel
theorem dX9_shelf_32 : decode cX9_shelf 32 = .ok (.goto 4, 3) := by decide +kernel
theorem dX9_shelf_35 : decode cX9_shelf 35 = .ok (.iconst 0, 1) := by decide +kernel
theorem dX9_shelf_36 : decode cX9_shelf 36 = .ok (.istore 4, 2) := by decide +kernel
theorem dX9_shelf_38 : decode cX9_shelf 38 = .ok (.iload_n 1, 1) := by decide +kernel
theorem dX9_shelf_39 : decode cX9_shelf 39 = .ok (.iconst 0, 1) := by decide +kernel
theorem dX9_shelf_40 : decode cX9_shelf 40 = .ok (.iconst 5, 1) := by decide +kernel
theorem dX9_shelf_41 : decode cX9_shelf 41 = .ok (.invokestatic 91, 3) := by decide +kernel
theorem dX9_shelf_44 : decode cX9_shelf 44 = .ok (.ifCond .eq 8, 3) := by decide +kernel
theorem dX9_shelf_47 : decode cX9_shelf 47 = .ok (.iload 4, 2) := by decide +kernel
theorem dX9_shelf_49 : decode cX9_shelf 49 = .ok (.ifCond .ne 6, 3) := by decide +kernel
theorem dX9_shelf_52 : decode cX9_shelf 52 = .ok (.bipush (-2), 2) := by decide +kernel
theorem dX9_shelf_54 : decode cX9_shelf 54 = .ok (.ireturn, 1) := by decide +kernel
theorem dX9_shelf_55 : decode cX9_shelf 55 = .ok (.iload_n 2, 1) := by decide +kernel
theorem dX9_shelf_56 : decode cX9_shelf 56 = .ok (.iconst 2, 1) := by decide +kernel
theorem dX9_shelf_57 : decode cX9_shelf 57 = .ok (.if_icmp .eq 18, 3) := by decide +kernel
theorem dX9_shelf_60 : decode cX9_shelf 60 = .ok (.iload_n 2, 1) := by decide +kernel
theorem dX9_shelf_61 : decode cX9_shelf 61 = .ok (.iconst 1, 1) := by decide +kernel
theorem dX9_shelf_62 : decode cX9_shelf 62 = .ok (.if_icmp .ne 17, 3) := by decide +kernel
theorem dX9_shelf_65 : decode cX9_shelf 65 = .ok (.aload_n 0, 1) := by decide +kernel
theorem dX9_shelf_66 : decode cX9_shelf 66 = .ok (.getfield 33, 3) := by decide +kernel
theorem dX9_shelf_69 : decode cX9_shelf 69 = .ok (.iload_n 3, 1) := by decide +kernel
theorem dX9_shelf_70 : decode cX9_shelf 70 = .ok (.iaload, 1) := by decide +kernel
theorem dX9_shelf_71 : decode cX9_shelf 71 = .ok (.iconst (-1), 1) := by decide +kernel
theorem dX9_shelf_72 : decode cX9_shelf 72 = .ok (.if_icmp .ne 7, 3) := by decide +kernel
theorem dX9_shelf_75 : decode cX9_shelf 75 = .ok (.iconst 1, 1) := by decide +kernel
theorem dX9_shelf_76 : decode cX9_shelf 76 = .ok (.goto 4, 3) := by decide +kernel
theorem dX9_shelf_79 : decode cX9_shelf 79 = .ok (.iconst 0, 1) := by decide +kernel
theorem dX9_shelf_80 : decode cX9_shelf 80 = .ok (.istore 5, 2) := by decide +kernel
theorem dX9_shelf_82 : decode cX9_shelf 82 = .ok (.aload_n 0, 1) := by decide +kernel
theorem dX9_shelf_83 : decode cX9_shelf 83 = .ok (.getfield 42, 3) := by decide +kernel
theorem dX9_shelf_86 : decode cX9_shelf 86 = .ok (.iload_n 1, 1) := by decide +kernel
theorem dX9_shelf_87 : decode cX9_shelf 87 = .ok (.iload 5, 2) := by decide +kernel
theorem dX9_shelf_89 : decode cX9_shelf 89 = .ok (.ifCond .eq 7, 3) := by decide +kernel
theorem dX9_shelf_92 : decode cX9_shelf 92 = .ok (.iconst 0, 1) := by decide +kernel
theorem dX9_shelf_93 : decode cX9_shelf 93 = .ok (.goto 19, 3) := by decide +kernel
theorem dX9_shelf_96 : decode cX9_shelf 96 = .ok (.iload_n 2, 1) := by decide +kernel
theorem dX9_shelf_97 : decode cX9_shelf 97 = .ok (.ifCond .ne 7, 3) := by decide +kernel
theorem dX9_shelf_100 : decode cX9_shelf 100 = .ok (.iconst 1, 1) := by decide +kernel
theorem dX9_shelf_101 : decode cX9_shelf 101 = .ok (.goto 11, 3) := by decide +kernel
theorem dX9_shelf_104 : decode cX9_shelf 104 = .ok (.iconst 2, 1) := by decide +kernel
theorem dX9_shelf_105 : decode cX9_shelf 105 = .ok (.aload_n 0, 1) := by decide +kernel
theorem dX9_shelf_106 : decode cX9_shelf 106 = .ok (.getfield 33, 3) := by decide +kernel
theorem dX9_shelf_109 : decode cX9_shelf 109 = .ok (.iload_n 3, 1) := by decide +kernel
theorem dX9_shelf_110 : decode cX9_shelf 110 = .ok (.iaload, 1) := by decide +kernel
theorem dX9_shelf_111 : decode cX9_shelf 111 = .ok (.iadd, 1) := by decide +kernel
theorem dX9_shelf_112 : decode cX9_shelf 112 = .ok (.iastore, 1) := by decide +kernel
theorem dX9_shelf_113 : decode cX9_shelf 113 = .ok (.aload_n 0, 1) := by decide +kernel
theorem dX9_shelf_114 : decode cX9_shelf 114 = .ok (.getfield 45, 3) := by decide +kernel
theorem dX9_shelf_117 : decode cX9_shelf 117 = .ok (.iload_n 1, 1) := by decide +kernel
theorem dX9_shelf_118 : decode cX9_shelf 118 = .ok (.iload_n 2, 1) := by decide +kernel
theorem dX9_shelf_119 : decode cX9_shelf 119 = .ok (.ifCond .ne 12, 3) := by decide +kernel
theorem dX9_shelf_122 : decode cX9_shelf 122 = .ok (.aload_n 0, 1) := by decide +kernel
theorem dX9_shelf_123 : decode cX9_shelf 123 = .ok (.getfield 22, 3) := by decide +kernel
theorem dX9_shelf_126 : decode cX9_shelf 126 = .ok (.iload_n 3, 1) := by decide +kernel
theorem dX9_shelf_127 : decode cX9_shelf 127 = .ok (.iaload, 1) := by decide +kernel
theorem dX9_shelf_128 : decode cX9_shelf 128 = .ok (.goto 4, 3) := by decide +kernel
theorem dX9_shelf_131 : decode cX9_shelf 131 = .ok (.iconst 0, 1) := by decide +kernel
theorem dX9_shelf_132 : decode cX9_shelf 132 = .ok (.iastore, 1) := by decide +kernel
theorem dX9_shelf_133 : decode cX9_shelf 133 = .ok (.aload_n 0, 1) := by decide +kernel
theorem dX9_shelf_134 : decode cX9_shelf 134 = .ok (.getfield 48, 3) := by decide +kernel
theorem dX9_shelf_137 : decode cX9_shelf 137 = .ok (.iload_n 1, 1) := by decide +kernel
theorem dX9_shelf_138 : decode cX9_shelf 138 = .ok (.iload 5, 2) := by decide +kernel
theorem dX9_shelf_140 : decode cX9_shelf 140 = .ok (.ifCond .eq 7, 3) := by decide +kernel
theorem dX9_shelf_143 : decode cX9_shelf 143 = .ok (.iconst 0, 1) := by decide +kernel
theorem dX9_shelf_144 : decode cX9_shelf 144 = .ok (.goto 21, 3) := by decide +kernel
theorem dX9_shelf_147 : decode cX9_shelf 147 = .ok (.iload_n 2, 1) := by decide +kernel
theorem dX9_shelf_148 : decode cX9_shelf 148 = .ok (.ifCond .ne 11, 3) := by decide +kernel
theorem dX9_shelf_151 : decode cX9_shelf 151 = .ok (.aload_n 0, 1) := by decide +kernel
theorem dX9_shelf_152 : decode cX9_shelf 152 = .ok (.iload_n 3, 1) := by decide +kernel
theorem dX9_shelf_153 : decode cX9_shelf 153 = .ok (.invokevirtual 151, 3) := by decide +kernel
theorem dX9_shelf_156 : decode cX9_shelf 156 = .ok (.goto 9, 3) := by decide +kernel
theorem dX9_shelf_159 : decode cX9_shelf 159 = .ok (.aload_n 0, 1) := by decide +kernel
theorem dX9_shelf_160 : decode cX9_shelf 160 = .ok (.getfield 36, 3) := by decide +kernel
theorem dX9_shelf_163 : decode cX9_shelf 163 = .ok (.iload_n 3, 1) := by decide +kernel
theorem dX9_shelf_164 : decode cX9_shelf 164 = .ok (.iaload, 1) := by decide +kernel
theorem dX9_shelf_165 : decode cX9_shelf 165 = .ok (.iastore, 1) := by decide +kernel
theorem dX9_shelf_166 : decode cX9_shelf 166 = .ok (.iconst 1, 1) := by decide +kernel
theorem dX9_shelf_167 : decode cX9_shelf 167 = .ok (.ireturn, 1) := by decide +kernel
theorem dX9_isOf_0 : decode cX9_isOf 0 = .ok (.iload_n 1, 1) := by decide +kernel
theorem dX9_isOf_1 : decode cX9_isOf 1 = .ok (.ifCond .eq 28, 3) := by decide +kernel
theorem dX9_isOf_4 : decode cX9_isOf 4 = .ok (.iload_n 0, 1) := by decide +kernel
theorem dX9_isOf_5 : decode cX9_isOf 5 = .ok (.iload_n 1, 1) := by decide +kernel
theorem dX9_isOf_6 : decode cX9_isOf 6 = .ok (.if_icmp .eq 23, 3) := by decide +kernel
theorem dX9_isOf_9 : decode cX9_isOf 9 = .ok (.iload_n 0, 1) := by decide +kernel
theorem dX9_isOf_10 : decode cX9_isOf 10 = .ok (.iconst 2, 1) := by decide +kernel
theorem dX9_isOf_11 : decode cX9_isOf 11 = .ok (.if_icmp .ne 8, 3) := by decide +kernel
theorem dX9_isOf_14 : decode cX9_isOf 14 = .ok (.iload_n 1, 1) := by decide +kernel
theorem dX9_isOf_15 : decode cX9_isOf 15 = .ok (.iconst 1, 1) := by decide +kernel
theorem dX9_isOf_16 : decode cX9_isOf 16 = .ok (.if_icmp .eq 13, 3) := by decide +kernel
theorem dX9_isOf_19 : decode cX9_isOf 19 = .ok (.iload_n 0, 1) := by decide +kernel
theorem dX9_isOf_20 : decode cX9_isOf 20 = .ok (.iconst 5, 1) := by decide +kernel
theorem dX9_isOf_21 : decode cX9_isOf 21 = .ok (.if_icmp .ne 12, 3) := by decide +kernel
theorem dX9_isOf_24 : decode cX9_isOf 24 = .ok (.iload_n 1, 1) := by decide +kernel
theorem dX9_isOf_25 : decode cX9_isOf 25 = .ok (.iconst 3, 1) := by decide +kernel
theorem dX9_isOf_26 : decode cX9_isOf 26 = .ok (.if_icmp .ne 7, 3) := by decide +kernel
theorem dX9_isOf_29 : decode cX9_isOf 29 = .ok (.iconst 1, 1) := by decide +kernel
theorem dX9_isOf_30 : decode cX9_isOf 30 = .ok (.goto 4, 3) := by decide +kernel
theorem dX9_isOf_33 : decode cX9_isOf 33 = .ok (.iconst 0, 1) := by decide +kernel
theorem dX9_isOf_34 : decode cX9_isOf 34 = .ok (.ireturn, 1) := by decide +kernel
theorem dX9_taken_0 : decode cX9_taken 0 = .ok (.iload_n 1, 1) := by decide +kernel
theorem dX9_taken_1 : decode cX9_taken 1 = .ok (.iconst 0, 1) := by decide +kernel
theorem dX9_taken_2 : decode cX9_taken 2 = .ok (.iconst 5, 1) := by decide +kernel
theorem dX9_taken_3 : decode cX9_taken 3 = .ok (.invokestatic 91, 3) := by decide +kernel
theorem dX9_taken_6 : decode cX9_taken 6 = .ok (.ifCond .eq 13, 3) := by decide +kernel
theorem dX9_taken_9 : decode cX9_taken 9 = .ok (.iload_n 2, 1) := by decide +kernel
theorem dX9_taken_10 : decode cX9_taken 10 = .ok (.iconst 0, 1) := by decide +kernel
theorem dX9_taken_11 : decode cX9_taken 11 = .ok (.bipush 8, 2) := by decide +kernel
theorem dX9_taken_13 : decode cX9_taken 13 = .ok (.invokestatic 91, 3) := by decide +kernel
theorem dX9_taken_16 : decode cX9_taken 16 = .ok (.ifCond .ne 6, 3) := by decide +kernel
theorem dX9_taken_19 : decode cX9_taken 19 = .ok (.bipush (-2), 2) := by decide +kernel
theorem dX9_taken_21 : decode cX9_taken 21 = .ok (.ireturn, 1) := by decide +kernel
theorem dX9_taken_22 : decode cX9_taken 22 = .ok (.aload_n 0, 1) := by decide +kernel
theorem dX9_taken_23 : decode cX9_taken 23 = .ok (.getfield 42, 3) := by decide +kernel
theorem dX9_taken_26 : decode cX9_taken 26 = .ok (.iload_n 1, 1) := by decide +kernel
theorem dX9_taken_27 : decode cX9_taken 27 = .ok (.iaload, 1) := by decide +kernel
theorem dX9_taken_28 : decode cX9_taken 28 = .ok (.istore_n 3, 1) := by decide +kernel
theorem dX9_taken_29 : decode cX9_taken 29 = .ok (.iload_n 3, 1) := by decide +kernel
theorem dX9_taken_30 : decode cX9_taken 30 = .ok (.ifCond .ne 6, 3) := by decide +kernel
theorem dX9_taken_33 : decode cX9_taken 33 = .ok (.bipush (-11), 2) := by decide +kernel
theorem dX9_taken_35 : decode cX9_taken 35 = .ok (.ireturn, 1) := by decide +kernel
theorem dX9_taken_36 : decode cX9_taken 36 = .ok (.iload_n 2, 1) := by decide +kernel
theorem dX9_taken_37 : decode cX9_taken 37 = .ok (.bipush 6, 2) := by decide +kernel
theorem dX9_taken_39 : decode cX9_taken 39 = .ok (.if_icmp .ge 29, 3) := by decide +kernel
theorem dX9_taken_42 : decode cX9_taken 42 = .ok (.iload_n 3, 1) := by decide +kernel
theorem dX9_taken_43 : decode cX9_taken 43 = .ok (.iconst 1, 1) := by decide +kernel
theorem dX9_taken_44 : decode cX9_taken 44 = .ok (.if_icmp .ne 20, 3) := by decide +kernel
theorem dX9_taken_47 : decode cX9_taken 47 = .ok (.aload_n 0, 1) := by decide +kernel
theorem dX9_taken_48 : decode cX9_taken 48 = .ok (.getfield 45, 3) := by decide +kernel
theorem dX9_taken_51 : decode cX9_taken 51 = .ok (.iload_n 1, 1) := by decide +kernel
theorem dX9_taken_52 : decode cX9_taken 52 = .ok (.iaload, 1) := by decide +kernel
theorem dX9_taken_53 : decode cX9_taken 53 = .ok (.iload_n 2, 1) := by decide +kernel
theorem dX9_taken_54 : decode cX9_taken 54 = .ok (.invokestatic 237, 3) := by decide +kernel
theorem dX9_taken_57 : decode cX9_taken 57 = .ok (.ifCond .eq 7, 3) := by decide +kernel
theorem dX9_taken_60 : decode cX9_taken 60 = .ok (.iconst 1, 1) := by decide +kernel
theorem dX9_taken_61 : decode cX9_taken 61 = .ok (.goto 19, 3) := by decide +kernel
theorem dX9_taken_64 : decode cX9_taken 64 = .ok (.iconst 0, 1) := by decide +kernel
theorem dX9_taken_65 : decode cX9_taken 65 = .ok (.goto 15, 3) := by decide +kernel
theorem dX9_taken_68 : decode cX9_taken 68 = .ok (.iload_n 3, 1) := by decide +kernel
theorem dX9_taken_69 : decode cX9_taken 69 = .ok (.iload_n 2, 1) := by decide +kernel
theorem dX9_taken_70 : decode cX9_taken 70 = .ok (.iconst 4, 1) := by decide +kernel
theorem dX9_taken_71 : decode cX9_taken 71 = .ok (.isub, 1) := by decide +kernel
theorem dX9_taken_72 : decode cX9_taken 72 = .ok (.if_icmp .ne 7, 3) := by decide +kernel
theorem dX9_taken_75 : decode cX9_taken 75 = .ok (.iconst 1, 1) := by decide +kernel
theorem dX9_taken_76 : decode cX9_taken 76 = .ok (.goto 4, 3) := by decide +kernel
theorem dX9_taken_79 : decode cX9_taken 79 = .ok (.iconst 0, 1) := by decide +kernel
theorem dX9_taken_80 : decode cX9_taken 80 = .ok (.istore 4, 2) := by decide +kernel
theorem dX9_taken_82 : decode cX9_taken 82 = .ok (.iload 4, 2) := by decide +kernel
theorem dX9_taken_84 : decode cX9_taken 84 = .ok (.ifCond .eq 12, 3) := by decide +kernel
theorem dX9_taken_87 : decode cX9_taken 87 = .ok (.aload_n 0, 1) := by decide +kernel
theorem dX9_taken_88 : decode cX9_taken 88 = .ok (.getfield 48, 3) := by decide +kernel
theorem dX9_taken_91 : decode cX9_taken 91 = .ok (.iload_n 1, 1) := by decide +kernel
theorem dX9_taken_92 : decode cX9_taken 92 = .ok (.iaload, 1) := by decide +kernel
theorem dX9_taken_93 : decode cX9_taken 93 = .ok (.goto 5, 3) := by decide +kernel
theorem dX9_taken_96 : decode cX9_taken 96 = .ok (.bipush (-13), 2) := by decide +kernel
theorem dX9_taken_98 : decode cX9_taken 98 = .ok (.ireturn, 1) := by decide +kernel
theorem dX9_ran_0 : decode cX9_ran 0 = .ok (.aload_n 0, 1) := by decide +kernel
theorem dX9_ran_1 : decode cX9_ran 1 = .ok (.getfield 240, 3) := by decide +kernel
theorem dX9_ran_4 : decode cX9_ran 4 = .ok (.bipush 40, 2) := by decide +kernel
theorem dX9_ran_6 : decode cX9_ran 6 = .ok (.if_icmp .ge 13, 3) := by decide +kernel
theorem dX9_ran_9 : decode cX9_ran 9 = .ok (.aload_n 0, 1) := by decide +kernel
theorem dX9_ran_10 : decode cX9_ran 10 = .ok (.getfield 51, 3) := by decide +kernel
theorem dX9_ran_13 : decode cX9_ran 13 = .ok (.aload_n 0, 1) := by decide +kernel
theorem dX9_ran_14 : decode cX9_ran 14 = .ok (.getfield 240, 3) := by decide +kernel
theorem dX9_ran_17 : decode cX9_ran 17 = .ok (.iload_n 1, 1) := by decide +kernel
theorem dX9_ran_18 : decode cX9_ran 18 = .ok (.iastore, 1) := by decide +kernel
theorem dX9_ran_19 : decode cX9_ran 19 = .ok (.aload_n 0, 1) := by decide +kernel
theorem dX9_ran_20 : decode cX9_ran 20 = .ok (.dup, 1) := by decide +kernel
theorem dX9_ran_21 : decode cX9_ran 21 = .ok (.getfield 240, 3) := by decide +kernel
theorem dX9_ran_24 : decode cX9_ran 24 = .ok (.iconst 1, 1) := by decide +kernel
theorem dX9_ran_25 : decode cX9_ran 25 = .ok (.iadd, 1) := by decide +kernel
theorem dX9_ran_26 : decode cX9_ran 26 = .ok (.putfield 240, 3) := by decide +kernel
theorem dX9_ran_29 : decode cX9_ran 29 = .ok (.return_, 1) := by decide +kernel
theorem dX9_fits_0 : decode cX9_fits 0 = .ok (.iload_n 1, 1) := by decide +kernel
theorem dX9_fits_1 : decode cX9_fits 1 = .ok (.iconst 1, 1) := by decide +kernel
theorem dX9_fits_2 : decode cX9_fits 2 = .ok (.if_icmp .eq 8, 3) := by decide +kernel
theorem dX9_fits_5 : decode cX9_fits 5 = .ok (.iload_n 1, 1) := by decide +kernel
theorem dX9_fits_6 : decode cX9_fits 6 = .ok (.iconst 2, 1) := by decide +kernel
theorem dX9_fits_7 : decode cX9_fits 7 = .ok (.if_icmp .ne 7, 3) := by decide +kernel
theorem dX9_fits_10 : decode cX9_fits 10 = .ok (.iconst 1, 1) := by decide +kernel
theorem dX9_fits_11 : decode cX9_fits 11 = .ok (.goto 4, 3) := by decide +kernel
theorem dX9_fits_14 : decode cX9_fits 14 = .ok (.iconst 0, 1) := by decide +kernel
theorem dX9_fits_15 : decode cX9_fits 15 = .ok (.istore_n 3, 1) := by decide +kernel
theorem dX9_fits_16 : decode cX9_fits 16 = .ok (.iload_n 3, 1) := by decide +kernel
theorem dX9_fits_17 : decode cX9_fits 17 = .ok (.ifCond .eq 9, 3) := by decide +kernel
theorem dX9_fits_20 : decode cX9_fits 20 = .ok (.aload_n 0, 1) := by decide +kernel
theorem dX9_fits_21 : decode cX9_fits 21 = .ok (.bipush 20, 2) := by decide +kernel
theorem dX9_fits_23 : decode cX9_fits 23 = .ok (.invokevirtual 243, 3) := by decide +kernel
theorem dX9_fits_26 : decode cX9_fits 26 = .ok (.iload_n 1, 1) := by decide +kernel
theorem dX9_fits_27 : decode cX9_fits 27 = .ok (.iconst 5, 1) := by decide +kernel
theorem dX9_fits_28 : decode cX9_fits 28 = .ok (.if_icmp .ne 9, 3) := by decide +kernel
theorem dX9_fits_31 : decode cX9_fits 31 = .ok (.aload_n 0, 1) := by decide +kernel
theorem dX9_fits_32 : decode cX9_fits 32 = .ok (.bipush 60, 2) := by decide +kernel
theorem dX9_fits_34 : decode cX9_fits 34 = .ok (.invokevirtual 243, 3) := by decide +kernel
theorem dX9_fits_37 : decode cX9_fits 37 = .ok (.aload_n 0, 1) := by decide +kernel
theorem dX9_fits_38 : decode cX9_fits 38 = .ok (.bipush 10, 2) := by decide +kernel
theorem dX9_fits_40 : decode cX9_fits 40 = .ok (.invokevirtual 243, 3) := by decide +kernel
theorem dX9_fits_43 : decode cX9_fits 43 = .ok (.iload_n 2, 1) := by decide +kernel
theorem dX9_fits_44 : decode cX9_fits 44 = .ok (.aload_n 0, 1) := by decide +kernel
theorem dX9_fits_45 : decode cX9_fits 45 = .ok (.getfield 246, 3) := by decide +kernel
theorem dX9_fits_48 : decode cX9_fits 48 = .ok (.iadd, 1) := by decide +kernel
theorem dX9_fits_49 : decode cX9_fits 49 = .ok (.istore 4, 2) := by decide +kernel
theorem dX9_fits_51 : decode cX9_fits 51 = .ok (.iload_n 3, 1) := by decide +kernel
theorem dX9_fits_52 : decode cX9_fits 52 = .ok (.ifCond .eq 10, 3) := by decide +kernel
theorem dX9_fits_55 : decode cX9_fits 55 = .ok (.iload 4, 2) := by decide +kernel
theorem dX9_fits_57 : decode cX9_fits 57 = .ok (.iconst 2, 1) := by decide +kernel
theorem dX9_fits_58 : decode cX9_fits 58 = .ok (.imul, 1) := by decide +kernel
theorem dX9_fits_59 : decode cX9_fits 59 = .ok (.goto 18, 3) := by decide +kernel
theorem dX9_fits_62 : decode cX9_fits 62 = .ok (.iload_n 1, 1) := by decide +kernel
theorem dX9_fits_63 : decode cX9_fits 63 = .ok (.iconst 5, 1) := by decide +kernel
theorem dX9_fits_64 : decode cX9_fits 64 = .ok (.if_icmp .ne 11, 3) := by decide +kernel
theorem dX9_fits_67 : decode cX9_fits 67 = .ok (.iload 4, 2) := by decide +kernel
theorem dX9_fits_69 : decode cX9_fits 69 = .ok (.bipush 7, 2) := by decide +kernel
theorem dX9_fits_71 : decode cX9_fits 71 = .ok (.iadd, 1) := by decide +kernel
theorem dX9_fits_72 : decode cX9_fits 72 = .ok (.goto 5, 3) := by decide +kernel
theorem dX9_fits_75 : decode cX9_fits 75 = .ok (.iload 4, 2) := by decide +kernel
theorem dX9_fits_77 : decode cX9_fits 77 = .ok (.ireturn, 1) := by decide +kernel
theorem dX9_familyJoins_0 : decode cX9_familyJoins 0 = .ok (.aload_n 0, 1) := by decide +kernel
theorem dX9_familyJoins_1 : decode cX9_familyJoins 1 = .ok (.bipush 11, 2) := by decide +kernel
theorem dX9_familyJoins_3 : decode cX9_familyJoins 3 = .ok (.invokevirtual 243, 3) := by decide +kernel
theorem dX9_familyJoins_6 : decode cX9_familyJoins 6 = .ok (.aload_n 0, 1) := by decide +kernel
theorem dX9_familyJoins_7 : decode cX9_familyJoins 7 = .ok (.iload_n 1, 1) := by decide +kernel
theorem dX9_familyJoins_8 : decode cX9_familyJoins 8 = .ok (.iload_n 2, 1) := by decide +kernel
theorem dX9_familyJoins_9 : decode cX9_familyJoins 9 = .ok (.invokevirtual 249, 3) := by decide +kernel
theorem dX9_familyJoins_12 : decode cX9_familyJoins 12 = .ok (.iconst 3, 1) := by decide +kernel
theorem dX9_familyJoins_13 : decode cX9_familyJoins 13 = .ok (.imul, 1) := by decide +kernel
theorem dX9_familyJoins_14 : decode cX9_familyJoins 14 = .ok (.ireturn, 1) := by decide +kernel
theorem dX9_joins_0 : decode cX9_joins 0 = .ok (.iload_n 1, 1) := by decide +kernel
theorem dX9_joins_1 : decode cX9_joins 1 = .ok (.tableswitch 97 2 5 #[31, 53, 97, 71], 31) := by decide +kernel
theorem dX9_joins_32 : decode cX9_joins 32 = .ok (.aload_n 0, 1) := by decide +kernel
theorem dX9_joins_33 : decode cX9_joins 33 = .ok (.bipush 30, 2) := by decide +kernel
theorem dX9_joins_35 : decode cX9_joins 35 = .ok (.invokevirtual 243, 3) := by decide +kernel
theorem dX9_joins_38 : decode cX9_joins 38 = .ok (.aload_n 0, 1) := by decide +kernel
theorem dX9_joins_39 : decode cX9_joins 39 = .ok (.iload_n 1, 1) := by decide +kernel
theorem dX9_joins_40 : decode cX9_joins 40 = .ok (.iload_n 2, 1) := by decide +kernel
theorem dX9_joins_41 : decode cX9_joins 41 = .ok (.invokevirtual 252, 3) := by decide +kernel
theorem dX9_joins_44 : decode cX9_joins 44 = .ok (.istore_n 3, 1) := by decide +kernel
theorem dX9_joins_45 : decode cX9_joins 45 = .ok (.iload_n 3, 1) := by decide +kernel
theorem dX9_joins_46 : decode cX9_joins 46 = .ok (.aload_n 0, 1) := by decide +kernel
theorem dX9_joins_47 : decode cX9_joins 47 = .ok (.iload_n 1, 1) := by decide +kernel
theorem dX9_joins_48 : decode cX9_joins 48 = .ok (.iload_n 2, 1) := by decide +kernel
theorem dX9_joins_49 : decode cX9_joins 49 = .ok (.invokevirtual 249, 3) := by decide +kernel
theorem dX9_joins_52 : decode cX9_joins 52 = .ok (.iadd, 1) := by decide +kernel
theorem dX9_joins_53 : decode cX9_joins 53 = .ok (.ireturn, 1) := by decide +kernel
theorem dX9_joins_54 : decode cX9_joins 54 = .ok (.aload_n 0, 1) := by decide +kernel
theorem dX9_joins_55 : decode cX9_joins 55 = .ok (.bipush 40, 2) := by decide +kernel
theorem dX9_joins_57 : decode cX9_joins 57 = .ok (.invokevirtual 243, 3) := by decide +kernel
theorem dX9_joins_60 : decode cX9_joins 60 = .ok (.aload_n 0, 1) := by decide +kernel
theorem dX9_joins_61 : decode cX9_joins 61 = .ok (.iload_n 1, 1) := by decide +kernel
theorem dX9_joins_62 : decode cX9_joins 62 = .ok (.iload_n 2, 1) := by decide +kernel
theorem dX9_joins_63 : decode cX9_joins 63 = .ok (.aload_n 0, 1) := by decide +kernel
theorem dX9_joins_64 : decode cX9_joins 64 = .ok (.getfield 246, 3) := by decide +kernel
theorem dX9_joins_67 : decode cX9_joins 67 = .ok (.iadd, 1) := by decide +kernel
theorem dX9_joins_68 : decode cX9_joins 68 = .ok (.invokevirtual 252, 3) := by decide +kernel
theorem dX9_joins_71 : decode cX9_joins 71 = .ok (.ireturn, 1) := by decide +kernel
theorem dX9_joins_72 : decode cX9_joins 72 = .ok (.aload_n 0, 1) := by decide +kernel
theorem dX9_joins_73 : decode cX9_joins 73 = .ok (.bipush 61, 2) := by decide +kernel
theorem dX9_joins_75 : decode cX9_joins 75 = .ok (.invokevirtual 243, 3) := by decide +kernel
theorem dX9_joins_78 : decode cX9_joins 78 = .ok (.aload_n 0, 1) := by decide +kernel
theorem dX9_joins_79 : decode cX9_joins 79 = .ok (.bipush 40, 2) := by decide +kernel
theorem dX9_joins_81 : decode cX9_joins 81 = .ok (.invokevirtual 243, 3) := by decide +kernel
theorem dX9_joins_84 : decode cX9_joins 84 = .ok (.aload_n 0, 1) := by decide +kernel
theorem dX9_joins_85 : decode cX9_joins 85 = .ok (.iload_n 1, 1) := by decide +kernel
theorem dX9_joins_86 : decode cX9_joins 86 = .ok (.iload_n 2, 1) := by decide +kernel
theorem dX9_joins_87 : decode cX9_joins 87 = .ok (.aload_n 0, 1) := by decide +kernel
theorem dX9_joins_88 : decode cX9_joins 88 = .ok (.getfield 246, 3) := by decide +kernel
theorem dX9_joins_91 : decode cX9_joins 91 = .ok (.iadd, 1) := by decide +kernel
theorem dX9_joins_92 : decode cX9_joins 92 = .ok (.invokevirtual 252, 3) := by decide +kernel
theorem dX9_joins_95 : decode cX9_joins 95 = .ok (.iconst 2, 1) := by decide +kernel
theorem dX9_joins_96 : decode cX9_joins 96 = .ok (.imul, 1) := by decide +kernel
theorem dX9_joins_97 : decode cX9_joins 97 = .ok (.ireturn, 1) := by decide +kernel
theorem dX9_joins_98 : decode cX9_joins 98 = .ok (.aload_n 0, 1) := by decide +kernel
theorem dX9_joins_99 : decode cX9_joins 99 = .ok (.iload_n 1, 1) := by decide +kernel
theorem dX9_joins_100 : decode cX9_joins 100 = .ok (.iload_n 2, 1) := by decide +kernel
theorem dX9_joins_101 : decode cX9_joins 101 = .ok (.invokevirtual 252, 3) := by decide +kernel
theorem dX9_joins_104 : decode cX9_joins 104 = .ok (.ireturn, 1) := by decide +kernel
theorem dX9_familyWeighs_0 : decode cX9_familyWeighs 0 = .ok (.aload_n 0, 1) := by decide +kernel
theorem dX9_familyWeighs_1 : decode cX9_familyWeighs 1 = .ok (.bipush 12, 2) := by decide +kernel
theorem dX9_familyWeighs_3 : decode cX9_familyWeighs 3 = .ok (.invokevirtual 243, 3) := by decide +kernel
theorem dX9_familyWeighs_6 : decode cX9_familyWeighs 6 = .ok (.aload_n 0, 1) := by decide +kernel
theorem dX9_familyWeighs_7 : decode cX9_familyWeighs 7 = .ok (.iload_n 1, 1) := by decide +kernel
theorem dX9_familyWeighs_8 : decode cX9_familyWeighs 8 = .ok (.iload_n 2, 1) := by decide +kernel
theorem dX9_familyWeighs_9 : decode cX9_familyWeighs 9 = .ok (.invokevirtual 255, 3) := by decide +kernel
theorem dX9_familyWeighs_12 : decode cX9_familyWeighs 12 = .ok (.istore_n 3, 1) := by decide +kernel
theorem dX9_familyWeighs_13 : decode cX9_familyWeighs 13 = .ok (.iload_n 3, 1) := by decide +kernel
theorem dX9_familyWeighs_14 : decode cX9_familyWeighs 14 = .ok (.aload_n 0, 1) := by decide +kernel
theorem dX9_familyWeighs_15 : decode cX9_familyWeighs 15 = .ok (.iload_n 1, 1) := by decide +kernel
theorem dX9_familyWeighs_16 : decode cX9_familyWeighs 16 = .ok (.iload_n 2, 1) := by decide +kernel
theorem dX9_familyWeighs_17 : decode cX9_familyWeighs 17 = .ok (.iconst 1, 1) := by decide +kernel
theorem dX9_familyWeighs_18 : decode cX9_familyWeighs 18 = .ok (.iadd, 1) := by decide +kernel
theorem dX9_familyWeighs_19 : decode cX9_familyWeighs 19 = .ok (.invokevirtual 249, 3) := by decide +kernel
theorem dX9_familyWeighs_22 : decode cX9_familyWeighs 22 = .ok (.isub, 1) := by decide +kernel
theorem dX9_familyWeighs_23 : decode cX9_familyWeighs 23 = .ok (.ireturn, 1) := by decide +kernel
theorem dX9_weighs_0 : decode cX9_weighs 0 = .ok (.iload_n 1, 1) := by decide +kernel
theorem dX9_weighs_1 : decode cX9_weighs 1 = .ok (.iconst 1, 1) := by decide +kernel
theorem dX9_weighs_2 : decode cX9_weighs 2 = .ok (.if_icmp .eq 8, 3) := by decide +kernel
theorem dX9_weighs_5 : decode cX9_weighs 5 = .ok (.iload_n 1, 1) := by decide +kernel
theorem dX9_weighs_6 : decode cX9_weighs 6 = .ok (.iconst 2, 1) := by decide +kernel
theorem dX9_weighs_7 : decode cX9_weighs 7 = .ok (.if_icmp .ne 18, 3) := by decide +kernel
theorem dX9_weighs_10 : decode cX9_weighs 10 = .ok (.aload_n 0, 1) := by decide +kernel
theorem dX9_weighs_11 : decode cX9_weighs 11 = .ok (.bipush 21, 2) := by decide +kernel
theorem dX9_weighs_13 : decode cX9_weighs 13 = .ok (.invokevirtual 243, 3) := by decide +kernel
theorem dX9_weighs_16 : decode cX9_weighs 16 = .ok (.aload_n 0, 1) := by decide +kernel
theorem dX9_weighs_17 : decode cX9_weighs 17 = .ok (.iload_n 1, 1) := by decide +kernel
theorem dX9_weighs_18 : decode cX9_weighs 18 = .ok (.iload_n 2, 1) := by decide +kernel
theorem dX9_weighs_19 : decode cX9_weighs 19 = .ok (.invokevirtual 258, 3) := by decide +kernel
theorem dX9_weighs_22 : decode cX9_weighs 22 = .ok (.iconst 5, 1) := by decide +kernel
theorem dX9_weighs_23 : decode cX9_weighs 23 = .ok (.ixor, 1) := by decide +kernel
theorem dX9_weighs_24 : decode cX9_weighs 24 = .ok (.ireturn, 1) := by decide +kernel
theorem dX9_weighs_25 : decode cX9_weighs 25 = .ok (.iload_n 1, 1) := by decide +kernel
theorem dX9_weighs_26 : decode cX9_weighs 26 = .ok (.iconst 4, 1) := by decide +kernel
theorem dX9_weighs_27 : decode cX9_weighs 27 = .ok (.if_icmp .ne 25, 3) := by decide +kernel
theorem dX9_weighs_30 : decode cX9_weighs 30 = .ok (.aload_n 0, 1) := by decide +kernel
theorem dX9_weighs_31 : decode cX9_weighs 31 = .ok (.bipush 50, 2) := by decide +kernel
theorem dX9_weighs_33 : decode cX9_weighs 33 = .ok (.invokevirtual 243, 3) := by decide +kernel
theorem dX9_weighs_36 : decode cX9_weighs 36 = .ok (.aload_n 0, 1) := by decide +kernel
theorem dX9_weighs_37 : decode cX9_weighs 37 = .ok (.iload_n 1, 1) := by decide +kernel
theorem dX9_weighs_38 : decode cX9_weighs 38 = .ok (.iload_n 2, 1) := by decide +kernel
theorem dX9_weighs_39 : decode cX9_weighs 39 = .ok (.invokevirtual 249, 3) := by decide +kernel
theorem dX9_weighs_42 : decode cX9_weighs 42 = .ok (.istore_n 3, 1) := by decide +kernel
theorem dX9_weighs_43 : decode cX9_weighs 43 = .ok (.iload_n 3, 1) := by decide +kernel
theorem dX9_weighs_44 : decode cX9_weighs 44 = .ok (.aload_n 0, 1) := by decide +kernel
theorem dX9_weighs_45 : decode cX9_weighs 45 = .ok (.iload_n 1, 1) := by decide +kernel
theorem dX9_weighs_46 : decode cX9_weighs 46 = .ok (.iload_n 2, 1) := by decide +kernel
theorem dX9_weighs_47 : decode cX9_weighs 47 = .ok (.invokevirtual 258, 3) := by decide +kernel
theorem dX9_weighs_50 : decode cX9_weighs 50 = .ok (.isub, 1) := by decide +kernel
theorem dX9_weighs_51 : decode cX9_weighs 51 = .ok (.ireturn, 1) := by decide +kernel
theorem dX9_weighs_52 : decode cX9_weighs 52 = .ok (.aload_n 0, 1) := by decide +kernel
theorem dX9_weighs_53 : decode cX9_weighs 53 = .ok (.iload_n 1, 1) := by decide +kernel
theorem dX9_weighs_54 : decode cX9_weighs 54 = .ok (.iload_n 2, 1) := by decide +kernel
theorem dX9_weighs_55 : decode cX9_weighs 55 = .ok (.invokevirtual 258, 3) := by decide +kernel
theorem dX9_weighs_58 : decode cX9_weighs 58 = .ok (.ireturn, 1) := by decide +kernel
theorem dX9_act_0 : decode cX9_act 0 = .ok (.aload_n 0, 1) := by decide +kernel
theorem dX9_act_1 : decode cX9_act 1 = .ok (.iconst 0, 1) := by decide +kernel
theorem dX9_act_2 : decode cX9_act 2 = .ok (.putfield 240, 3) := by decide +kernel
theorem dX9_act_5 : decode cX9_act 5 = .ok (.aload_n 0, 1) := by decide +kernel
theorem dX9_act_6 : decode cX9_act 6 = .ok (.iload_n 1, 1) := by decide +kernel
theorem dX9_act_7 : decode cX9_act 7 = .ok (.invokevirtual 142, 3) := by decide +kernel
theorem dX9_act_10 : decode cX9_act 10 = .ok (.ifCond .eq 12, 3) := by decide +kernel
theorem dX9_act_13 : decode cX9_act 13 = .ok (.iload_n 2, 1) := by decide +kernel
theorem dX9_act_14 : decode cX9_act 14 = .ok (.iconst 0, 1) := by decide +kernel
theorem dX9_act_15 : decode cX9_act 15 = .ok (.iconst 2, 1) := by decide +kernel
theorem dX9_act_16 : decode cX9_act 16 = .ok (.invokestatic 91, 3) := by decide +kernel
theorem dX9_act_19 : decode cX9_act 19 = .ok (.ifCond .ne 5, 3) := by decide +kernel
theorem dX9_act_22 : decode cX9_act 22 = .ok (.iconst 0, 1) := by decide +kernel
theorem dX9_act_23 : decode cX9_act 23 = .ok (.ireturn, 1) := by decide +kernel
theorem dX9_act_24 : decode cX9_act 24 = .ok (.aload_n 0, 1) := by decide +kernel
theorem dX9_act_25 : decode cX9_act 25 = .ok (.aload_n 0, 1) := by decide +kernel
theorem dX9_act_26 : decode cX9_act 26 = .ok (.iload_n 1, 1) := by decide +kernel
theorem dX9_act_27 : decode cX9_act 27 = .ok (.invokevirtual 151, 3) := by decide +kernel
theorem dX9_act_30 : decode cX9_act 30 = .ok (.putfield 246, 3) := by decide +kernel
theorem dX9_act_33 : decode cX9_act 33 = .ok (.iload_n 2, 1) := by decide +kernel
theorem dX9_act_34 : decode cX9_act 34 = .ok (.ifCond .ne 17, 3) := by decide +kernel
theorem dX9_act_37 : decode cX9_act 37 = .ok (.aload_n 0, 1) := by decide +kernel
theorem dX9_act_38 : decode cX9_act 38 = .ok (.aload_n 0, 1) := by decide +kernel
theorem dX9_act_39 : decode cX9_act 39 = .ok (.getfield 22, 3) := by decide +kernel
theorem dX9_act_42 : decode cX9_act 42 = .ok (.iload_n 1, 1) := by decide +kernel
theorem dX9_act_43 : decode cX9_act 43 = .ok (.iaload, 1) := by decide +kernel
theorem dX9_act_44 : decode cX9_act 44 = .ok (.iload_n 3, 1) := by decide +kernel
theorem dX9_act_45 : decode cX9_act 45 = .ok (.invokevirtual 249, 3) := by decide +kernel
theorem dX9_act_48 : decode cX9_act 48 = .ok (.goto 33, 3) := by decide +kernel
theorem dX9_act_51 : decode cX9_act 51 = .ok (.iload_n 2, 1) := by decide +kernel
theorem dX9_act_52 : decode cX9_act 52 = .ok (.iconst 1, 1) := by decide +kernel
theorem dX9_act_53 : decode cX9_act 53 = .ok (.if_icmp .ne 17, 3) := by decide +kernel
theorem dX9_act_56 : decode cX9_act 56 = .ok (.aload_n 0, 1) := by decide +kernel
theorem dX9_act_57 : decode cX9_act 57 = .ok (.aload_n 0, 1) := by decide +kernel
theorem dX9_act_58 : decode cX9_act 58 = .ok (.getfield 22, 3) := by decide +kernel
theorem dX9_act_61 : decode cX9_act 61 = .ok (.iload_n 1, 1) := by decide +kernel
theorem dX9_act_62 : decode cX9_act 62 = .ok (.iaload, 1) := by decide +kernel
theorem dX9_act_63 : decode cX9_act 63 = .ok (.iload_n 3, 1) := by decide +kernel
theorem dX9_act_64 : decode cX9_act 64 = .ok (.invokevirtual 255, 3) := by decide +kernel
theorem dX9_act_67 : decode cX9_act 67 = .ok (.goto 14, 3) := by decide +kernel
theorem dX9_act_70 : decode cX9_act 70 = .ok (.aload_n 0, 1) := by decide +kernel
theorem dX9_act_71 : decode cX9_act 71 = .ok (.aload_n 0, 1) := by decide +kernel
theorem dX9_act_72 : decode cX9_act 72 = .ok (.getfield 22, 3) := by decide +kernel
theorem dX9_act_75 : decode cX9_act 75 = .ok (.iload_n 1, 1) := by decide +kernel
theorem dX9_act_76 : decode cX9_act 76 = .ok (.iaload, 1) := by decide +kernel
theorem dX9_act_77 : decode cX9_act 77 = .ok (.iload_n 3, 1) := by decide +kernel
theorem dX9_act_78 : decode cX9_act 78 = .ok (.invokevirtual 261, 3) := by decide +kernel
theorem dX9_act_81 : decode cX9_act 81 = .ok (.ireturn, 1) := by decide +kernel
theorem dX9_trace_0 : decode cX9_trace 0 = .ok (.iload_n 1, 1) := by decide +kernel
theorem dX9_trace_1 : decode cX9_trace 1 = .ok (.iconst 0, 1) := by decide +kernel
theorem dX9_trace_2 : decode cX9_trace 2 = .ok (.aload_n 0, 1) := by decide +kernel
theorem dX9_trace_3 : decode cX9_trace 3 = .ok (.getfield 240, 3) := by decide +kernel
theorem dX9_trace_6 : decode cX9_trace 6 = .ok (.bipush 40, 2) := by decide +kernel
theorem dX9_trace_8 : decode cX9_trace 8 = .ok (.if_icmp .ge 10, 3) := by decide +kernel
theorem dX9_trace_11 : decode cX9_trace 11 = .ok (.aload_n 0, 1) := by decide +kernel
theorem dX9_trace_12 : decode cX9_trace 12 = .ok (.getfield 240, 3) := by decide +kernel
theorem dX9_trace_15 : decode cX9_trace 15 = .ok (.goto 5, 3) := by decide +kernel
theorem dX9_trace_18 : decode cX9_trace 18 = .ok (.bipush 40, 2) := by decide +kernel
theorem dX9_trace_20 : decode cX9_trace 20 = .ok (.iconst 1, 1) := by decide +kernel
theorem dX9_trace_21 : decode cX9_trace 21 = .ok (.isub, 1) := by decide +kernel
theorem dX9_trace_22 : decode cX9_trace 22 = .ok (.invokestatic 91, 3) := by decide +kernel
theorem dX9_trace_25 : decode cX9_trace 25 = .ok (.ifCond .eq 12, 3) := by decide +kernel
theorem dX9_trace_28 : decode cX9_trace 28 = .ok (.aload_n 0, 1) := by decide +kernel
theorem dX9_trace_29 : decode cX9_trace 29 = .ok (.getfield 51, 3) := by decide +kernel
theorem dX9_trace_32 : decode cX9_trace 32 = .ok (.iload_n 1, 1) := by decide +kernel
theorem dX9_trace_33 : decode cX9_trace 33 = .ok (.iaload, 1) := by decide +kernel
theorem dX9_trace_34 : decode cX9_trace 34 = .ok (.goto 4, 3) := by decide +kernel
theorem dX9_trace_37 : decode cX9_trace 37 = .ok (.iconst (-1), 1) := by decide +kernel
theorem dX9_trace_38 : decode cX9_trace 38 = .ok (.ireturn, 1) := by decide +kernel
theorem dX9_there_0 : decode cX9_there 0 = .ok (.iload_n 1, 1) := by decide +kernel
theorem dX9_there_1 : decode cX9_there 1 = .ok (.ifCond .ne 10, 3) := by decide +kernel
theorem dX9_there_4 : decode cX9_there 4 = .ok (.aload_n 0, 1) := by decide +kernel
theorem dX9_there_5 : decode cX9_there 5 = .ok (.getfield 95, 3) := by decide +kernel
theorem dX9_there_8 : decode cX9_there 8 = .ok (.goto 53, 3) := by decide +kernel
theorem dX9_there_11 : decode cX9_there 11 = .ok (.iload_n 1, 1) := by decide +kernel
theorem dX9_there_12 : decode cX9_there 12 = .ok (.iconst 1, 1) := by decide +kernel
theorem dX9_there_13 : decode cX9_there 13 = .ok (.if_icmp .ne 10, 3) := by decide +kernel
theorem dX9_there_16 : decode cX9_there 16 = .ok (.aload_n 0, 1) := by decide +kernel
theorem dX9_there_17 : decode cX9_there 17 = .ok (.getfield 98, 3) := by decide +kernel
theorem dX9_there_20 : decode cX9_there 20 = .ok (.goto 41, 3) := by decide +kernel
theorem dX9_there_23 : decode cX9_there 23 = .ok (.iload_n 1, 1) := by decide +kernel
theorem dX9_there_24 : decode cX9_there 24 = .ok (.iconst 2, 1) := by decide +kernel
theorem dX9_there_25 : decode cX9_there 25 = .ok (.if_icmp .ne 10, 3) := by decide +kernel
theorem dX9_there_28 : decode cX9_there 28 = .ok (.aload_n 0, 1) := by decide +kernel
theorem dX9_there_29 : decode cX9_there 29 = .ok (.getfield 87, 3) := by decide +kernel
theorem dX9_there_32 : decode cX9_there 32 = .ok (.goto 29, 3) := by decide +kernel
theorem dX9_there_35 : decode cX9_there 35 = .ok (.iload_n 1, 1) := by decide +kernel
theorem dX9_there_36 : decode cX9_there 36 = .ok (.iconst 3, 1) := by decide +kernel
theorem dX9_there_37 : decode cX9_there 37 = .ok (.if_icmp .ne 10, 3) := by decide +kernel
theorem dX9_there_40 : decode cX9_there 40 = .ok (.aload_n 0, 1) := by decide +kernel
theorem dX9_there_41 : decode cX9_there 41 = .ok (.getfield 222, 3) := by decide +kernel
theorem dX9_there_44 : decode cX9_there 44 = .ok (.goto 17, 3) := by decide +kernel
theorem dX9_there_47 : decode cX9_there 47 = .ok (.iload_n 1, 1) := by decide +kernel
theorem dX9_there_48 : decode cX9_there 48 = .ok (.iconst 4, 1) := by decide +kernel
theorem dX9_there_49 : decode cX9_there 49 = .ok (.if_icmp .ne 10, 3) := by decide +kernel
theorem dX9_there_52 : decode cX9_there 52 = .ok (.aload_n 0, 1) := by decide +kernel
theorem dX9_there_53 : decode cX9_there 53 = .ok (.getfield 240, 3) := by decide +kernel
theorem dX9_there_56 : decode cX9_there 56 = .ok (.goto 5, 3) := by decide +kernel
theorem dX9_there_59 : decode cX9_there 59 = .ok (.bipush (-2), 2) := by decide +kernel
theorem dX9_there_61 : decode cX9_there 61 = .ok (.ireturn, 1) := by decide +kernel
