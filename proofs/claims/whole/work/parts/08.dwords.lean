theorem k_2 : Cond.initialized RX8 ∈ wsL_law := kc_1 _ (List.mem_of_getElem? (i := 2) rfl)
theorem k_14 : Cond.initialized RX2 ∈ wsL_law := kc_1 _ (List.mem_of_getElem? (i := 14) rfl)
theorem k_15 : Cond.fieldLink RX8 10 "WayBook" "net" "LWayBook$Net;" ∈ wsL_law := kc_1 _ (List.mem_of_getElem? (i := 15) rfl)
theorem k_17 : Cond.fieldLink RX8 18 "WayBook" "made" "[LWayBook$Ways;" ∈ wsL_law := kc_1 _ (List.mem_of_getElem? (i := 17) rfl)
theorem k_19 : Cond.initialized RX7 ∈ wsL_law := kc_1 _ (List.mem_of_getElem? (i := 19) rfl)
theorem k_20 : Cond.fieldLink RX8 23 "WayBook" "spare" "LWayBook$Ways;" ∈ wsL_law := kc_1 _ (List.mem_of_getElem? (i := 20) rfl)
theorem k_21 : Cond.fieldLink RX8 27 "WayBook" "other" "LWayBook$Ways;" ∈ wsL_law := kc_1 _ (List.mem_of_getElem? (i := 21) rfl)
theorem k_23 : Cond.fieldLink RX8 30 "WayBook" "places" "[I" ∈ wsL_law := kc_1 _ (List.mem_of_getElem? (i := 23) rfl)
theorem k_26 : Cond.initialized RX5 ∈ wsL_law := kc_2 _ (List.mem_of_getElem? (i := 2) rfl)
theorem k_27 : Cond.fieldLink RX8 37 "WayBook" "sums" "LWayBook$Sums;" ∈ wsL_law := kc_2 _ (List.mem_of_getElem? (i := 3) rfl)
theorem k_30 : Cond.initialized RX6 ∈ wsL_law := kc_2 _ (List.mem_of_getElem? (i := 6) rfl)
theorem k_31 : Cond.fieldLink RX8 44 "WayBook" "tally" "LWayBook$Tally;" ∈ wsL_law := kc_2 _ (List.mem_of_getElem? (i := 7) rfl)
theorem k_34 : Cond.initialized RX3 ∈ wsL_law := kc_2 _ (List.mem_of_getElem? (i := 10) rfl)
theorem k_35 : Cond.fieldLink RX8 51 "WayBook" "written" "LWayBook$Rows;" ∈ wsL_law := kc_2 _ (List.mem_of_getElem? (i := 11) rfl)
theorem k_36 : Cond.fieldLink RX8 55 "WayBook" "trial" "LWayBook$Rows;" ∈ wsL_law := kc_2 _ (List.mem_of_getElem? (i := 12) rfl)
theorem k_39 : Cond.initialized RX1 ∈ wsL_law := kc_2 _ (List.mem_of_getElem? (i := 15) rfl)
theorem k_40 : Cond.fieldLink RX8 61 "WayBook" "host" "LWayBook$Host;" ∈ wsL_law := kc_2 _ (List.mem_of_getElem? (i := 16) rfl)
theorem k_43 : Cond.initialized RX0 ∈ wsL_law := kc_2 _ (List.mem_of_getElem? (i := 19) rfl)
theorem k_44 : Cond.fieldLink RX8 68 "WayBook" "acts" "LWayBook$Acts;" ∈ wsL_law := kc_2 _ (List.mem_of_getElem? (i := 20) rfl)
theorem k_48 : Cond.fieldLink RX2 9 "WayBook$Net" "loads" "[I" ∈ wsL_law := kc_3 _ (List.mem_of_getElem? (i := 0) rfl)
theorem k_49 : Cond.fieldLink RX2 15 "WayBook$Net" "lesser" "[I" ∈ wsL_law := kc_3 _ (List.mem_of_getElem? (i := 1) rfl)
theorem k_50 : Cond.fieldLink RX2 18 "WayBook$Net" "greater" "[I" ∈ wsL_law := kc_3 _ (List.mem_of_getElem? (i := 2) rfl)
theorem k_51 : Cond.fieldLink RX2 21 "WayBook$Net" "weights" "[I" ∈ wsL_law := kc_3 _ (List.mem_of_getElem? (i := 3) rfl)
theorem k_52 : Cond.fieldLink RX2 24 "WayBook$Net" "eighths" "[I" ∈ wsL_law := kc_3 _ (List.mem_of_getElem? (i := 4) rfl)
theorem k_57 : Cond.fieldLink RX7 9 "WayBook$Ways" "words" "[J" ∈ wsL_law := kc_3 _ (List.mem_of_getElem? (i := 9) rfl)
theorem k_61 : Cond.fieldLink RX5 9 "WayBook$Sums" "adds" "[I" ∈ wsL_law := kc_3 _ (List.mem_of_getElem? (i := 13) rfl)
theorem k_62 : Cond.fieldLink RX5 15 "WayBook$Sums" "lowSums" "[I" ∈ wsL_law := kc_3 _ (List.mem_of_getElem? (i := 14) rfl)
theorem k_63 : Cond.fieldLink RX5 18 "WayBook$Sums" "highSums" "[I" ∈ wsL_law := kc_3 _ (List.mem_of_getElem? (i := 15) rfl)
theorem k_64 : Cond.fieldLink RX5 21 "WayBook$Sums" "sizes" "[I" ∈ wsL_law := kc_3 _ (List.mem_of_getElem? (i := 16) rfl)
theorem k_68 : Cond.fieldLink RX6 9 "WayBook$Tally" "mine" "[J" ∈ wsL_law := kc_3 _ (List.mem_of_getElem? (i := 20) rfl)
theorem k_69 : Cond.fieldLink RX6 15 "WayBook$Tally" "yours" "[J" ∈ wsL_law := kc_3 _ (List.mem_of_getElem? (i := 21) rfl)
theorem k_74 : Cond.fieldLink RX3 13 "WayBook$Rows" "cells" "[[I" ∈ wsL_law := kc_4 _ (List.mem_of_getElem? (i := 2) rfl)
theorem k_75 : Cond.fieldLink RX3 16 "WayBook$Rows" "latest" "[I" ∈ wsL_law := kc_4 _ (List.mem_of_getElem? (i := 3) rfl)
theorem k_76 : Cond.fieldLink RX3 20 "WayBook$Rows" "before" "[I" ∈ wsL_law := kc_4 _ (List.mem_of_getElem? (i := 4) rfl)
theorem k_81 : Cond.fieldLink RX1 11 "WayBook$Host" "sorts" "[I" ∈ wsL_law := kc_4 _ (List.mem_of_getElem? (i := 9) rfl)
theorem k_82 : Cond.fieldLink RX1 15 "WayBook$Host" "lengths" "[I" ∈ wsL_law := kc_4 _ (List.mem_of_getElem? (i := 10) rfl)
theorem k_84 : Cond.fieldLink RX1 20 "WayBook$Host" "items" "[[I" ∈ wsL_law := kc_4 _ (List.mem_of_getElem? (i := 12) rfl)
theorem k_85 : Cond.fieldLink RX1 23 "WayBook$Host" "heldSorts" "[I" ∈ wsL_law := kc_4 _ (List.mem_of_getElem? (i := 13) rfl)
theorem k_86 : Cond.fieldLink RX1 26 "WayBook$Host" "heldSizes" "[I" ∈ wsL_law := kc_4 _ (List.mem_of_getElem? (i := 14) rfl)
theorem k_87 : Cond.methodLink RX1 29 yJ7_fill_53178 ∈ wsL_law := kc_4 _ (List.mem_of_getElem? (i := 15) rfl)
theorem k_88 : Cond.static yJ7_fill_53178 ∈ wsL_law := kc_4 _ (List.mem_of_getElem? (i := 16) rfl)
theorem k_89 : Cond.initialized RJ7 ∈ wsL_law := kc_4 _ (List.mem_of_getElem? (i := 17) rfl)
theorem k_90 : Cond.code yJ7_fill_53178 cJ7_fill_53178 4 none ∈ wsL_law := kc_4 _ (List.mem_of_getElem? (i := 18) rfl)
theorem k_94 : Cond.fieldLink RX0 11 "WayBook$Acts" "bodies" "[I" ∈ wsL_law := kc_4 _ (List.mem_of_getElem? (i := 22) rfl)
theorem k_127 : Cond.instanceMethod yX8_post ∈ wsL_law := kc_6 _ (List.mem_of_getElem? (i := 7) rfl)
theorem k_128 : Cond.selects RX8 yX8_post yX8_post ∈ wsL_law := kc_6 _ (List.mem_of_getElem? (i := 8) rfl)
theorem k_129 : Cond.code yX8_post cX8_post 2 (some .int) ∈ wsL_law := kc_6 _ (List.mem_of_getElem? (i := 9) rfl)
theorem k_130 : Cond.methodLink RX8 72 yX2_addPost ∈ wsL_law := kc_6 _ (List.mem_of_getElem? (i := 10) rfl)
theorem k_131 : Cond.instanceMethod yX2_addPost ∈ wsL_law := kc_6 _ (List.mem_of_getElem? (i := 11) rfl)
theorem k_132 : Cond.selects RX2 yX2_addPost yX2_addPost ∈ wsL_law := kc_6 _ (List.mem_of_getElem? (i := 12) rfl)
theorem k_133 : Cond.code yX2_addPost cX2_addPost 2 (some .int) ∈ wsL_law := kc_6 _ (List.mem_of_getElem? (i := 13) rfl)
theorem k_134 : Cond.fieldLink RX2 27 "WayBook$Net" "posts" "I" ∈ wsL_law := kc_6 _ (List.mem_of_getElem? (i := 14) rfl)
theorem k_144 : Cond.instanceMethod yX8_road ∈ wsL_law := kc_7 _ (List.mem_of_getElem? (i := 0) rfl)
theorem k_145 : Cond.selects RX8 yX8_road yX8_road ∈ wsL_law := kc_7 _ (List.mem_of_getElem? (i := 1) rfl)
theorem k_146 : Cond.code yX8_road cX8_road 4 (some .int) ∈ wsL_law := kc_7 _ (List.mem_of_getElem? (i := 2) rfl)
theorem k_147 : Cond.methodLink RX8 76 yX2_isPost ∈ wsL_law := kc_7 _ (List.mem_of_getElem? (i := 3) rfl)
theorem k_148 : Cond.instanceMethod yX2_isPost ∈ wsL_law := kc_7 _ (List.mem_of_getElem? (i := 4) rfl)
theorem k_149 : Cond.selects RX2 yX2_isPost yX2_isPost ∈ wsL_law := kc_7 _ (List.mem_of_getElem? (i := 5) rfl)
theorem k_150 : Cond.code yX2_isPost cX2_isPost 2 (some .boolean) ∈ wsL_law := kc_7 _ (List.mem_of_getElem? (i := 6) rfl)
theorem k_151 : Cond.methodLink RX8 80 yX2_areJoined ∈ wsL_law := kc_7 _ (List.mem_of_getElem? (i := 7) rfl)
theorem k_152 : Cond.instanceMethod yX2_areJoined ∈ wsL_law := kc_7 _ (List.mem_of_getElem? (i := 8) rfl)
theorem k_153 : Cond.selects RX2 yX2_areJoined yX2_areJoined ∈ wsL_law := kc_7 _ (List.mem_of_getElem? (i := 9) rfl)
theorem k_154 : Cond.code yX2_areJoined cX2_areJoined 4 (some .boolean) ∈ wsL_law := kc_7 _ (List.mem_of_getElem? (i := 10) rfl)
theorem k_155 : Cond.fieldLink RX2 31 "WayBook$Net" "roads" "I" ∈ wsL_law := kc_7 _ (List.mem_of_getElem? (i := 11) rfl)
theorem k_156 : Cond.methodLink RX2 34 Lib.Math.min.name ∈ wsL_law := kc_7 _ (List.mem_of_getElem? (i := 12) rfl)
theorem k_157 : Cond.static Lib.Math.min.name ∈ wsL_law := kc_7 _ (List.mem_of_getElem? (i := 13) rfl)
theorem k_158 : Cond.initialized "java/lang/Math" ∈ wsL_law := kc_7 _ (List.mem_of_getElem? (i := 14) rfl)
theorem k_159 : Cond.code Lib.Math.min.name Lib.Math.min.code 2 (some .int) ∈ wsL_law := kc_7 _ (List.mem_of_getElem? (i := 15) rfl)
theorem k_160 : Cond.methodLink RX2 40 Lib.Math.max.name ∈ wsL_law := kc_7 _ (List.mem_of_getElem? (i := 16) rfl)
theorem k_161 : Cond.static Lib.Math.max.name ∈ wsL_law := kc_7 _ (List.mem_of_getElem? (i := 17) rfl)
theorem k_162 : Cond.code Lib.Math.max.name Lib.Math.max.code 2 (some .int) ∈ wsL_law := kc_7 _ (List.mem_of_getElem? (i := 18) rfl)
theorem k_163 : Cond.methodLink RX8 84 yX2_addRoad ∈ wsL_law := kc_7 _ (List.mem_of_getElem? (i := 19) rfl)
theorem k_164 : Cond.instanceMethod yX2_addRoad ∈ wsL_law := kc_7 _ (List.mem_of_getElem? (i := 20) rfl)
theorem k_165 : Cond.selects RX2 yX2_addRoad yX2_addRoad ∈ wsL_law := kc_7 _ (List.mem_of_getElem? (i := 21) rfl)
theorem k_166 : Cond.code yX2_addRoad cX2_addRoad 4 (some .int) ∈ wsL_law := kc_7 _ (List.mem_of_getElem? (i := 22) rfl)
theorem k_173 : Cond.instanceMethod yX8_odds ∈ wsL_law := kc_8 _ (List.mem_of_getElem? (i := 5) rfl)
theorem k_174 : Cond.selects RX8 yX8_odds yX8_odds ∈ wsL_law := kc_8 _ (List.mem_of_getElem? (i := 6) rfl)
theorem k_175 : Cond.code yX8_odds cX8_odds 4 (some .int) ∈ wsL_law := kc_8 _ (List.mem_of_getElem? (i := 7) rfl)
theorem k_176 : Cond.fieldLink RX8 91 "WayBook$Net" "eighths" "[I" ∈ wsL_law := kc_8 _ (List.mem_of_getElem? (i := 8) rfl)
theorem k_177 : Cond.methodLink RX8 88 yX2_isRoad ∈ wsL_law := kc_8 _ (List.mem_of_getElem? (i := 9) rfl)
theorem k_178 : Cond.instanceMethod yX2_isRoad ∈ wsL_law := kc_8 _ (List.mem_of_getElem? (i := 10) rfl)
theorem k_179 : Cond.selects RX2 yX2_isRoad yX2_isRoad ∈ wsL_law := kc_8 _ (List.mem_of_getElem? (i := 11) rfl)
theorem k_180 : Cond.code yX2_isRoad cX2_isRoad 2 (some .boolean) ∈ wsL_law := kc_8 _ (List.mem_of_getElem? (i := 12) rfl)
theorem k_186 : Cond.instanceMethod yX8_roadOf ∈ wsL_law := kc_8 _ (List.mem_of_getElem? (i := 18) rfl)
theorem k_187 : Cond.selects RX8 yX8_roadOf yX8_roadOf ∈ wsL_law := kc_8 _ (List.mem_of_getElem? (i := 19) rfl)
theorem k_188 : Cond.code yX8_roadOf cX8_roadOf 3 (some .int) ∈ wsL_law := kc_8 _ (List.mem_of_getElem? (i := 20) rfl)
theorem k_189 : Cond.fieldLink RX8 94 "WayBook$Net" "lesser" "[I" ∈ wsL_law := kc_8 _ (List.mem_of_getElem? (i := 21) rfl)
theorem k_190 : Cond.fieldLink RX8 97 "WayBook$Net" "greater" "[I" ∈ wsL_law := kc_8 _ (List.mem_of_getElem? (i := 22) rfl)
theorem k_191 : Cond.fieldLink RX8 100 "WayBook$Net" "weights" "[I" ∈ wsL_law := kc_8 _ (List.mem_of_getElem? (i := 23) rfl)
theorem k_197 : Cond.instanceMethod yX8_tell ∈ wsL_law := kc_9 _ (List.mem_of_getElem? (i := 5) rfl)
theorem k_198 : Cond.selects RX8 yX8_tell yX8_tell ∈ wsL_law := kc_9 _ (List.mem_of_getElem? (i := 6) rfl)
theorem k_199 : Cond.code yX8_tell cX8_tell 3 (some .int) ∈ wsL_law := kc_9 _ (List.mem_of_getElem? (i := 7) rfl)
theorem k_200 : Cond.methodLink RX8 103 yX2_hasRoads ∈ wsL_law := kc_9 _ (List.mem_of_getElem? (i := 8) rfl)
theorem k_201 : Cond.instanceMethod yX2_hasRoads ∈ wsL_law := kc_9 _ (List.mem_of_getElem? (i := 9) rfl)
theorem k_202 : Cond.selects RX2 yX2_hasRoads yX2_hasRoads ∈ wsL_law := kc_9 _ (List.mem_of_getElem? (i := 10) rfl)
theorem k_203 : Cond.code yX2_hasRoads cX2_hasRoads 2 (some .boolean) ∈ wsL_law := kc_9 _ (List.mem_of_getElem? (i := 11) rfl)
theorem k_204 : Cond.methodLink RX8 106 yX8_blank ∈ wsL_law := kc_9 _ (List.mem_of_getElem? (i := 12) rfl)
theorem k_205 : Cond.instanceMethod yX8_blank ∈ wsL_law := kc_9 _ (List.mem_of_getElem? (i := 13) rfl)
theorem k_206 : Cond.selects RX8 yX8_blank yX8_blank ∈ wsL_law := kc_9 _ (List.mem_of_getElem? (i := 14) rfl)
theorem k_207 : Cond.code yX8_blank cX8_blank 3 (some (.object "WayBook$Ways")) ∈ wsL_law := kc_9 _ (List.mem_of_getElem? (i := 15) rfl)
theorem k_208 : Cond.fieldLink RX8 204 "WayBook" "families" "I" ∈ wsL_law := kc_9 _ (List.mem_of_getElem? (i := 16) rfl)
theorem k_209 : Cond.methodLink RX8 258 yX7_clear ∈ wsL_law := kc_9 _ (List.mem_of_getElem? (i := 17) rfl)
theorem k_210 : Cond.instanceMethod yX7_clear ∈ wsL_law := kc_9 _ (List.mem_of_getElem? (i := 18) rfl)
theorem k_211 : Cond.selects RX7 yX7_clear yX7_clear ∈ wsL_law := kc_9 _ (List.mem_of_getElem? (i := 19) rfl)
theorem k_212 : Cond.code yX7_clear cX7_clear 2 none ∈ wsL_law := kc_9 _ (List.mem_of_getElem? (i := 20) rfl)
theorem k_213 : Cond.fieldLink RX7 15 "WayBook$Ways" "kind" "I" ∈ wsL_law := kc_9 _ (List.mem_of_getElem? (i := 21) rfl)
theorem k_214 : Cond.methodLink RX7 19 yJ7_fill_d0a16 ∈ wsL_law := kc_9 _ (List.mem_of_getElem? (i := 22) rfl)
theorem k_215 : Cond.static yJ7_fill_d0a16 ∈ wsL_law := kc_9 _ (List.mem_of_getElem? (i := 23) rfl)
theorem k_216 : Cond.code yJ7_fill_d0a16 cJ7_fill_d0a16 5 none ∈ wsL_law := kc_10 _ (List.mem_of_getElem? (i := 0) rfl)
theorem k_217 : Cond.methodLink RX8 110 yX8_mirrored ∈ wsL_law := kc_10 _ (List.mem_of_getElem? (i := 1) rfl)
theorem k_218 : Cond.static yX8_mirrored ∈ wsL_law := kc_10 _ (List.mem_of_getElem? (i := 2) rfl)
theorem k_219 : Cond.code yX8_mirrored cX8_mirrored 3 (some .int) ∈ wsL_law := kc_10 _ (List.mem_of_getElem? (i := 3) rfl)
theorem k_220 : Cond.methodLink RX8 113 yX7_put ∈ wsL_law := kc_10 _ (List.mem_of_getElem? (i := 4) rfl)
theorem k_221 : Cond.instanceMethod yX7_put ∈ wsL_law := kc_10 _ (List.mem_of_getElem? (i := 5) rfl)
theorem k_222 : Cond.selects RX7 yX7_put yX7_put ∈ wsL_law := kc_10 _ (List.mem_of_getElem? (i := 6) rfl)
theorem k_223 : Cond.code yX7_put cX7_put 2 none ∈ wsL_law := kc_10 _ (List.mem_of_getElem? (i := 7) rfl)
theorem k_224 : Cond.methodLink RX8 117 yX8_keep ∈ wsL_law := kc_10 _ (List.mem_of_getElem? (i := 8) rfl)
theorem k_225 : Cond.instanceMethod yX8_keep ∈ wsL_law := kc_10 _ (List.mem_of_getElem? (i := 9) rfl)
theorem k_226 : Cond.selects RX8 yX8_keep yX8_keep ∈ wsL_law := kc_10 _ (List.mem_of_getElem? (i := 10) rfl)
theorem k_227 : Cond.code yX8_keep cX8_keep 1 (some .int) ∈ wsL_law := kc_10 _ (List.mem_of_getElem? (i := 11) rfl)
theorem k_246 : Cond.instanceMethod yX8_all ∈ wsL_law := kc_11 _ (List.mem_of_getElem? (i := 6) rfl)
theorem k_247 : Cond.selects RX8 yX8_all yX8_all ∈ wsL_law := kc_11 _ (List.mem_of_getElem? (i := 7) rfl)
theorem k_248 : Cond.code yX8_all cX8_all 3 (some .int) ∈ wsL_law := kc_11 _ (List.mem_of_getElem? (i := 8) rfl)
theorem k_249 : Cond.methodLink RX8 121 yX7_spreadDown ∈ wsL_law := kc_11 _ (List.mem_of_getElem? (i := 9) rfl)
theorem k_250 : Cond.instanceMethod yX7_spreadDown ∈ wsL_law := kc_11 _ (List.mem_of_getElem? (i := 10) rfl)
theorem k_251 : Cond.selects RX7 yX7_spreadDown yX7_spreadDown ∈ wsL_law := kc_11 _ (List.mem_of_getElem? (i := 11) rfl)
theorem k_252 : Cond.code yX7_spreadDown cX7_spreadDown 2 none ∈ wsL_law := kc_11 _ (List.mem_of_getElem? (i := 12) rfl)
theorem k_253 : Cond.methodLink RX7 58 yX7_lower ∈ wsL_law := kc_11 _ (List.mem_of_getElem? (i := 13) rfl)
theorem k_254 : Cond.instanceMethod yX7_lower ∈ wsL_law := kc_11 _ (List.mem_of_getElem? (i := 14) rfl)
theorem k_255 : Cond.selects RX7 yX7_lower yX7_lower ∈ wsL_law := kc_11 _ (List.mem_of_getElem? (i := 15) rfl)
theorem k_256 : Cond.code yX7_lower cX7_lower 5 none ∈ wsL_law := kc_11 _ (List.mem_of_getElem? (i := 16) rfl)
theorem k_257 : Cond.methodLink RX7 33 yX7_having ∈ wsL_law := kc_11 _ (List.mem_of_getElem? (i := 17) rfl)
theorem k_258 : Cond.static yX7_having ∈ wsL_law := kc_11 _ (List.mem_of_getElem? (i := 18) rfl)
theorem k_259 : Cond.code yX7_having cX7_having 2 (some .long) ∈ wsL_law := kc_11 _ (List.mem_of_getElem? (i := 19) rfl)
theorem k_260 : Cond.fieldLink RX7 45 "WayBook$Ways" "WITH" "[J" ∈ wsL_law := kc_11 _ (List.mem_of_getElem? (i := 20) rfl)
theorem k_261 : Cond.constantLong RX7 25 (-1) ∈ wsL_law := kc_11 _ (List.mem_of_getElem? (i := 21) rfl)
theorem k_272 : Cond.initialized RX4 ∈ wsL_law := kc_12 _ (List.mem_of_getElem? (i := 8) rfl)
theorem k_277 : Cond.fieldLink RX4 9 "WayBook$Search" "net" "LWayBook$Net;" ∈ wsL_law := kc_12 _ (List.mem_of_getElem? (i := 13) rfl)
theorem k_278 : Cond.fieldLink RX4 15 "WayBook$Search" "found" "LWayBook$Ways;" ∈ wsL_law := kc_12 _ (List.mem_of_getElem? (i := 14) rfl)
theorem k_280 : Cond.instanceMethod yX4_findPaths ∈ wsL_law := kc_12 _ (List.mem_of_getElem? (i := 16) rfl)
theorem k_281 : Cond.selects RX4 yX4_findPaths yX4_findPaths ∈ wsL_law := kc_12 _ (List.mem_of_getElem? (i := 17) rfl)
theorem k_282 : Cond.code yX4_findPaths cX4_findPaths 4 none ∈ wsL_law := kc_12 _ (List.mem_of_getElem? (i := 18) rfl)
theorem k_283 : Cond.fieldLink RX4 19 "WayBook$Search" "goal" "I" ∈ wsL_law := kc_12 _ (List.mem_of_getElem? (i := 19) rfl)
theorem k_284 : Cond.fieldLink RX4 23 "WayBook$Net" "posts" "I" ∈ wsL_law := kc_12 _ (List.mem_of_getElem? (i := 20) rfl)
theorem k_285 : Cond.fieldLink RX4 28 "WayBook$Search" "least" "I" ∈ wsL_law := kc_12 _ (List.mem_of_getElem? (i := 21) rfl)
theorem k_286 : Cond.methodLink RX4 31 yX4_walk ∈ wsL_law := kc_12 _ (List.mem_of_getElem? (i := 22) rfl)
theorem k_287 : Cond.instanceMethod yX4_walk ∈ wsL_law := kc_12 _ (List.mem_of_getElem? (i := 23) rfl)
theorem k_288 : Cond.selects RX4 yX4_walk yX4_walk ∈ wsL_law := kc_13 _ (List.mem_of_getElem? (i := 0) rfl)
theorem k_289 : Cond.code yX4_walk cX4_walk 7 none ∈ wsL_law := kc_13 _ (List.mem_of_getElem? (i := 1) rfl)
theorem k_290 : Cond.fieldLink RX4 53 "WayBook$Net" "roads" "I" ∈ wsL_law := kc_13 _ (List.mem_of_getElem? (i := 2) rfl)
theorem k_291 : Cond.methodLink RX4 41 yJ6_bitCount_0f7a4 ∈ wsL_law := kc_13 _ (List.mem_of_getElem? (i := 3) rfl)
theorem k_292 : Cond.static yJ6_bitCount_0f7a4 ∈ wsL_law := kc_13 _ (List.mem_of_getElem? (i := 4) rfl)
theorem k_293 : Cond.initialized RJ6 ∈ wsL_law := kc_13 _ (List.mem_of_getElem? (i := 5) rfl)
theorem k_294 : Cond.code yJ6_bitCount_0f7a4 cJ6_bitCount_0f7a4 1 (some .int) ∈ wsL_law := kc_13 _ (List.mem_of_getElem? (i := 6) rfl)
theorem k_295 : Cond.constant RJ6 265 (1431655765) ∈ wsL_law := kc_13 _ (List.mem_of_getElem? (i := 7) rfl)
theorem k_296 : Cond.constant RJ6 266 (858993459) ∈ wsL_law := kc_13 _ (List.mem_of_getElem? (i := 8) rfl)
theorem k_297 : Cond.constant RJ6 267 (252645135) ∈ wsL_law := kc_13 _ (List.mem_of_getElem? (i := 9) rfl)
theorem k_298 : Cond.methodLink RX4 47 yX7_put ∈ wsL_law := kc_13 _ (List.mem_of_getElem? (i := 10) rfl)
theorem k_299 : Cond.methodLink RX4 56 yX2_beyond ∈ wsL_law := kc_13 _ (List.mem_of_getElem? (i := 11) rfl)
theorem k_300 : Cond.instanceMethod yX2_beyond ∈ wsL_law := kc_13 _ (List.mem_of_getElem? (i := 12) rfl)
theorem k_301 : Cond.selects RX2 yX2_beyond yX2_beyond ∈ wsL_law := kc_13 _ (List.mem_of_getElem? (i := 13) rfl)
theorem k_302 : Cond.code yX2_beyond cX2_beyond 3 (some .int) ∈ wsL_law := kc_13 _ (List.mem_of_getElem? (i := 14) rfl)
theorem k_303 : Cond.methodLink RX2 43 yX2_isRoad ∈ wsL_law := kc_13 _ (List.mem_of_getElem? (i := 15) rfl)
theorem k_304 : Cond.methodLink RX4 59 yX2_placeOf ∈ wsL_law := kc_13 _ (List.mem_of_getElem? (i := 16) rfl)
theorem k_305 : Cond.static yX2_placeOf ∈ wsL_law := kc_13 _ (List.mem_of_getElem? (i := 17) rfl)
theorem k_306 : Cond.code yX2_placeOf cX2_placeOf 1 (some .int) ∈ wsL_law := kc_13 _ (List.mem_of_getElem? (i := 18) rfl)
theorem k_335 : Cond.instanceMethod yX4_findRounds ∈ wsL_law := kc_14 _ (List.mem_of_getElem? (i := 23) rfl)
theorem k_336 : Cond.selects RX4 yX4_findRounds yX4_findRounds ∈ wsL_law := kc_15 _ (List.mem_of_getElem? (i := 0) rfl)
theorem k_337 : Cond.code yX4_findRounds cX4_findRounds 3 none ∈ wsL_law := kc_15 _ (List.mem_of_getElem? (i := 1) rfl)
theorem k_338 : Cond.methodLink RX4 35 Lib.Math.max.name ∈ wsL_law := kc_15 _ (List.mem_of_getElem? (i := 2) rfl)
theorem k_347 : Cond.fieldLink RX8 137 "WayBook$Net" "posts" "I" ∈ wsL_law := kc_15 _ (List.mem_of_getElem? (i := 11) rfl)
theorem k_349 : Cond.instanceMethod yX4_findTrees ∈ wsL_law := kc_15 _ (List.mem_of_getElem? (i := 13) rfl)
theorem k_350 : Cond.selects RX4 yX4_findTrees yX4_findTrees ∈ wsL_law := kc_15 _ (List.mem_of_getElem? (i := 14) rfl)
theorem k_351 : Cond.code yX4_findTrees cX4_findTrees 2 none ∈ wsL_law := kc_15 _ (List.mem_of_getElem? (i := 15) rfl)
theorem k_352 : Cond.fieldLink RX4 62 "WayBook$Search" "wanted" "I" ∈ wsL_law := kc_15 _ (List.mem_of_getElem? (i := 16) rfl)
theorem k_353 : Cond.fieldLink RX4 65 "WayBook$Search" "whole" "Z" ∈ wsL_law := kc_15 _ (List.mem_of_getElem? (i := 17) rfl)
theorem k_354 : Cond.constant RX4 69 (1985229328) ∈ wsL_law := kc_15 _ (List.mem_of_getElem? (i := 18) rfl)
theorem k_355 : Cond.methodLink RX4 70 yX4_gather ∈ wsL_law := kc_15 _ (List.mem_of_getElem? (i := 19) rfl)
theorem k_356 : Cond.instanceMethod yX4_gather ∈ wsL_law := kc_15 _ (List.mem_of_getElem? (i := 20) rfl)
theorem k_357 : Cond.selects RX4 yX4_gather yX4_gather ∈ wsL_law := kc_15 _ (List.mem_of_getElem? (i := 21) rfl)
theorem k_358 : Cond.code yX4_gather cX4_gather 7 none ∈ wsL_law := kc_15 _ (List.mem_of_getElem? (i := 22) rfl)
theorem k_359 : Cond.fieldLink RX4 87 "WayBook$Net" "lesser" "[I" ∈ wsL_law := kc_15 _ (List.mem_of_getElem? (i := 23) rfl)
theorem k_360 : Cond.fieldLink RX4 94 "WayBook$Net" "greater" "[I" ∈ wsL_law := kc_16 _ (List.mem_of_getElem? (i := 0) rfl)
theorem k_361 : Cond.methodLink RX4 79 yX2_isRoad ∈ wsL_law := kc_16 _ (List.mem_of_getElem? (i := 1) rfl)
theorem k_362 : Cond.methodLink RX4 83 yX4_isParting ∈ wsL_law := kc_16 _ (List.mem_of_getElem? (i := 2) rfl)
theorem k_363 : Cond.instanceMethod yX4_isParting ∈ wsL_law := kc_16 _ (List.mem_of_getElem? (i := 3) rfl)
theorem k_364 : Cond.selects RX4 yX4_isParting yX4_isParting ∈ wsL_law := kc_16 _ (List.mem_of_getElem? (i := 4) rfl)
theorem k_365 : Cond.code yX4_isParting cX4_isParting 5 (some .boolean) ∈ wsL_law := kc_16 _ (List.mem_of_getElem? (i := 5) rfl)
theorem k_366 : Cond.methodLink RX4 91 yX4_label ∈ wsL_law := kc_16 _ (List.mem_of_getElem? (i := 6) rfl)
theorem k_367 : Cond.static yX4_label ∈ wsL_law := kc_16 _ (List.mem_of_getElem? (i := 7) rfl)
theorem k_368 : Cond.code yX4_label cX4_label 2 (some .int) ∈ wsL_law := kc_16 _ (List.mem_of_getElem? (i := 8) rfl)
theorem k_369 : Cond.methodLink RX4 101 yX4_loadOf ∈ wsL_law := kc_16 _ (List.mem_of_getElem? (i := 9) rfl)
theorem k_370 : Cond.instanceMethod yX4_loadOf ∈ wsL_law := kc_16 _ (List.mem_of_getElem? (i := 10) rfl)
theorem k_371 : Cond.selects RX4 yX4_loadOf yX4_loadOf ∈ wsL_law := kc_16 _ (List.mem_of_getElem? (i := 11) rfl)
theorem k_372 : Cond.code yX4_loadOf cX4_loadOf 5 (some .int) ∈ wsL_law := kc_16 _ (List.mem_of_getElem? (i := 12) rfl)
theorem k_373 : Cond.fieldLink RX4 107 "WayBook$Net" "loads" "[I" ∈ wsL_law := kc_16 _ (List.mem_of_getElem? (i := 13) rfl)
theorem k_374 : Cond.methodLink RX4 104 yX4_isFitting ∈ wsL_law := kc_16 _ (List.mem_of_getElem? (i := 14) rfl)
theorem k_375 : Cond.instanceMethod yX4_isFitting ∈ wsL_law := kc_16 _ (List.mem_of_getElem? (i := 15) rfl)
theorem k_376 : Cond.selects RX4 yX4_isFitting yX4_isFitting ∈ wsL_law := kc_16 _ (List.mem_of_getElem? (i := 16) rfl)
theorem k_377 : Cond.code yX4_isFitting cX4_isFitting 2 (some .boolean) ∈ wsL_law := kc_16 _ (List.mem_of_getElem? (i := 17) rfl)
theorem k_378 : Cond.fieldLink RX4 73 "WayBook$Search" "low" "I" ∈ wsL_law := kc_16 _ (List.mem_of_getElem? (i := 18) rfl)
theorem k_379 : Cond.fieldLink RX4 76 "WayBook$Search" "high" "I" ∈ wsL_law := kc_16 _ (List.mem_of_getElem? (i := 19) rfl)
theorem k_380 : Cond.methodLink RX4 97 yX4_relabelled ∈ wsL_law := kc_16 _ (List.mem_of_getElem? (i := 20) rfl)
theorem k_381 : Cond.static yX4_relabelled ∈ wsL_law := kc_16 _ (List.mem_of_getElem? (i := 21) rfl)
theorem k_382 : Cond.code yX4_relabelled cX4_relabelled 5 (some .int) ∈ wsL_law := kc_16 _ (List.mem_of_getElem? (i := 22) rfl)
theorem k_399 : Cond.instanceMethod yX4_findPairs ∈ wsL_law := kc_17 _ (List.mem_of_getElem? (i := 15) rfl)
theorem k_400 : Cond.selects RX4 yX4_findPairs yX4_findPairs ∈ wsL_law := kc_17 _ (List.mem_of_getElem? (i := 16) rfl)
theorem k_401 : Cond.code yX4_findPairs cX4_findPairs 2 none ∈ wsL_law := kc_17 _ (List.mem_of_getElem? (i := 17) rfl)
theorem k_402 : Cond.methodLink RX4 110 yX4_match ∈ wsL_law := kc_17 _ (List.mem_of_getElem? (i := 18) rfl)
theorem k_403 : Cond.instanceMethod yX4_match ∈ wsL_law := kc_17 _ (List.mem_of_getElem? (i := 19) rfl)
theorem k_404 : Cond.selects RX4 yX4_match yX4_match ∈ wsL_law := kc_17 _ (List.mem_of_getElem? (i := 20) rfl)
theorem k_405 : Cond.code yX4_match cX4_match 5 none ∈ wsL_law := kc_17 _ (List.mem_of_getElem? (i := 21) rfl)
theorem k_415 : Cond.instanceMethod yX4_findParts ∈ wsL_law := kc_18 _ (List.mem_of_getElem? (i := 7) rfl)
theorem k_416 : Cond.selects RX4 yX4_findParts yX4_findParts ∈ wsL_law := kc_18 _ (List.mem_of_getElem? (i := 8) rfl)
theorem k_417 : Cond.code yX4_findParts cX4_findParts 4 none ∈ wsL_law := kc_18 _ (List.mem_of_getElem? (i := 9) rfl)
theorem k_427 : Cond.instanceMethod yX8_degrees ∈ wsL_law := kc_18 _ (List.mem_of_getElem? (i := 19) rfl)
theorem k_428 : Cond.selects RX8 yX8_degrees yX8_degrees ∈ wsL_law := kc_18 _ (List.mem_of_getElem? (i := 20) rfl)
theorem k_429 : Cond.code yX8_degrees cX8_degrees 11 (some .int) ∈ wsL_law := kc_18 _ (List.mem_of_getElem? (i := 21) rfl)
theorem k_430 : Cond.methodLink RX8 151 yX8_family ∈ wsL_law := kc_18 _ (List.mem_of_getElem? (i := 22) rfl)
theorem k_431 : Cond.instanceMethod yX8_family ∈ wsL_law := kc_18 _ (List.mem_of_getElem? (i := 23) rfl)
theorem k_432 : Cond.selects RX8 yX8_family yX8_family ∈ wsL_law := kc_19 _ (List.mem_of_getElem? (i := 0) rfl)
theorem k_433 : Cond.code yX8_family cX8_family 2 (some (.object "WayBook$Ways")) ∈ wsL_law := kc_19 _ (List.mem_of_getElem? (i := 1) rfl)
theorem k_434 : Cond.methodLink RX8 154 yX2_roadsAt ∈ wsL_law := kc_19 _ (List.mem_of_getElem? (i := 2) rfl)
theorem k_435 : Cond.instanceMethod yX2_roadsAt ∈ wsL_law := kc_19 _ (List.mem_of_getElem? (i := 3) rfl)
theorem k_436 : Cond.selects RX2 yX2_roadsAt yX2_roadsAt ∈ wsL_law := kc_19 _ (List.mem_of_getElem? (i := 4) rfl)
theorem k_437 : Cond.code yX2_roadsAt cX2_roadsAt 4 (some .int) ∈ wsL_law := kc_19 _ (List.mem_of_getElem? (i := 5) rfl)
theorem k_438 : Cond.methodLink RX2 47 yX2_beyond ∈ wsL_law := kc_19 _ (List.mem_of_getElem? (i := 6) rfl)
theorem k_439 : Cond.methodLink RX2 50 yX2_placeOf ∈ wsL_law := kc_19 _ (List.mem_of_getElem? (i := 7) rfl)
theorem k_440 : Cond.methodLink RX8 157 yX7_list ∈ wsL_law := kc_19 _ (List.mem_of_getElem? (i := 8) rfl)
theorem k_441 : Cond.instanceMethod yX7_list ∈ wsL_law := kc_19 _ (List.mem_of_getElem? (i := 9) rfl)
theorem k_442 : Cond.selects RX7 yX7_list yX7_list ∈ wsL_law := kc_19 _ (List.mem_of_getElem? (i := 10) rfl)
theorem k_443 : Cond.code yX7_list cX7_list 7 (some .int) ∈ wsL_law := kc_19 _ (List.mem_of_getElem? (i := 11) rfl)
theorem k_444 : Cond.methodLink RX8 161 yJ6_bitCount_0f7a4 ∈ wsL_law := kc_19 _ (List.mem_of_getElem? (i := 12) rfl)
theorem k_458 : Cond.instanceMethod yX8_join ∈ wsL_law := kc_20 _ (List.mem_of_getElem? (i := 2) rfl)
theorem k_459 : Cond.selects RX8 yX8_join yX8_join ∈ wsL_law := kc_20 _ (List.mem_of_getElem? (i := 3) rfl)
theorem k_460 : Cond.code yX8_join cX8_join 7 (some .int) ∈ wsL_law := kc_20 _ (List.mem_of_getElem? (i := 4) rfl)
theorem k_461 : Cond.methodLink RX8 166 yX7_size ∈ wsL_law := kc_20 _ (List.mem_of_getElem? (i := 5) rfl)
theorem k_462 : Cond.instanceMethod yX7_size ∈ wsL_law := kc_20 _ (List.mem_of_getElem? (i := 6) rfl)
theorem k_463 : Cond.selects RX7 yX7_size yX7_size ∈ wsL_law := kc_20 _ (List.mem_of_getElem? (i := 7) rfl)
theorem k_464 : Cond.code yX7_size cX7_size 3 (some .int) ∈ wsL_law := kc_20 _ (List.mem_of_getElem? (i := 8) rfl)
theorem k_465 : Cond.methodLink RX7 27 yJ13_bitCount_95d88 ∈ wsL_law := kc_20 _ (List.mem_of_getElem? (i := 9) rfl)
theorem k_466 : Cond.static yJ13_bitCount_95d88 ∈ wsL_law := kc_20 _ (List.mem_of_getElem? (i := 10) rfl)
theorem k_467 : Cond.initialized RJ13 ∈ wsL_law := kc_20 _ (List.mem_of_getElem? (i := 11) rfl)
theorem k_468 : Cond.code yJ13_bitCount_95d88 cJ13_bitCount_95d88 2 (some .int) ∈ wsL_law := kc_20 _ (List.mem_of_getElem? (i := 12) rfl)
theorem k_469 : Cond.constantLong RJ13 314 (6148914691236517205) ∈ wsL_law := kc_20 _ (List.mem_of_getElem? (i := 13) rfl)
theorem k_470 : Cond.constantLong RJ13 316 (3689348814741910323) ∈ wsL_law := kc_20 _ (List.mem_of_getElem? (i := 14) rfl)
theorem k_471 : Cond.constantLong RJ13 318 (1085102592571150095) ∈ wsL_law := kc_20 _ (List.mem_of_getElem? (i := 15) rfl)
theorem k_472 : Cond.methodLink RX8 169 yX8_fillJoined ∈ wsL_law := kc_20 _ (List.mem_of_getElem? (i := 16) rfl)
theorem k_473 : Cond.instanceMethod yX8_fillJoined ∈ wsL_law := kc_20 _ (List.mem_of_getElem? (i := 17) rfl)
theorem k_474 : Cond.selects RX8 yX8_fillJoined yX8_fillJoined ∈ wsL_law := kc_20 _ (List.mem_of_getElem? (i := 18) rfl)
theorem k_475 : Cond.code yX8_fillJoined cX8_fillJoined 5 none ∈ wsL_law := kc_20 _ (List.mem_of_getElem? (i := 19) rfl)
theorem k_476 : Cond.methodLink RX8 317 yX7_takeBoth ∈ wsL_law := kc_20 _ (List.mem_of_getElem? (i := 20) rfl)
theorem k_477 : Cond.instanceMethod yX7_takeBoth ∈ wsL_law := kc_20 _ (List.mem_of_getElem? (i := 21) rfl)
theorem k_478 : Cond.selects RX7 yX7_takeBoth yX7_takeBoth ∈ wsL_law := kc_20 _ (List.mem_of_getElem? (i := 22) rfl)
theorem k_479 : Cond.code yX7_takeBoth cX7_takeBoth 4 none ∈ wsL_law := kc_20 _ (List.mem_of_getElem? (i := 23) rfl)
theorem k_480 : Cond.methodLink RX8 320 yX7_takeEither ∈ wsL_law := kc_21 _ (List.mem_of_getElem? (i := 0) rfl)
theorem k_481 : Cond.instanceMethod yX7_takeEither ∈ wsL_law := kc_21 _ (List.mem_of_getElem? (i := 1) rfl)
theorem k_482 : Cond.selects RX7 yX7_takeEither yX7_takeEither ∈ wsL_law := kc_21 _ (List.mem_of_getElem? (i := 2) rfl)
theorem k_483 : Cond.code yX7_takeEither cX7_takeEither 4 none ∈ wsL_law := kc_21 _ (List.mem_of_getElem? (i := 3) rfl)
theorem k_484 : Cond.methodLink RX8 323 yX7_takeFirstAlone ∈ wsL_law := kc_21 _ (List.mem_of_getElem? (i := 4) rfl)
theorem k_485 : Cond.instanceMethod yX7_takeFirstAlone ∈ wsL_law := kc_21 _ (List.mem_of_getElem? (i := 5) rfl)
theorem k_486 : Cond.selects RX7 yX7_takeFirstAlone yX7_takeFirstAlone ∈ wsL_law := kc_21 _ (List.mem_of_getElem? (i := 6) rfl)
theorem k_487 : Cond.code yX7_takeFirstAlone cX7_takeFirstAlone 4 none ∈ wsL_law := kc_21 _ (List.mem_of_getElem? (i := 7) rfl)
theorem k_488 : Cond.methodLink RX8 326 yX6_unite ∈ wsL_law := kc_21 _ (List.mem_of_getElem? (i := 8) rfl)
theorem k_489 : Cond.instanceMethod yX6_unite ∈ wsL_law := kc_21 _ (List.mem_of_getElem? (i := 9) rfl)
theorem k_490 : Cond.selects RX6 yX6_unite yX6_unite ∈ wsL_law := kc_21 _ (List.mem_of_getElem? (i := 10) rfl)
theorem k_491 : Cond.code yX6_unite cX6_unite 7 none ∈ wsL_law := kc_21 _ (List.mem_of_getElem? (i := 11) rfl)
theorem k_492 : Cond.methodLink RX6 18 yX7_used ∈ wsL_law := kc_21 _ (List.mem_of_getElem? (i := 12) rfl)
theorem k_493 : Cond.instanceMethod yX7_used ∈ wsL_law := kc_21 _ (List.mem_of_getElem? (i := 13) rfl)
theorem k_494 : Cond.selects RX7 yX7_used yX7_used ∈ wsL_law := kc_21 _ (List.mem_of_getElem? (i := 14) rfl)
theorem k_495 : Cond.code yX7_used cX7_used 3 (some .int) ∈ wsL_law := kc_21 _ (List.mem_of_getElem? (i := 15) rfl)
theorem k_496 : Cond.methodLink RX7 41 yX7_sizeWith ∈ wsL_law := kc_21 _ (List.mem_of_getElem? (i := 16) rfl)
theorem k_497 : Cond.instanceMethod yX7_sizeWith ∈ wsL_law := kc_21 _ (List.mem_of_getElem? (i := 17) rfl)
theorem k_498 : Cond.selects RX7 yX7_sizeWith yX7_sizeWith ∈ wsL_law := kc_21 _ (List.mem_of_getElem? (i := 18) rfl)
theorem k_499 : Cond.code yX7_sizeWith cX7_sizeWith 4 (some .int) ∈ wsL_law := kc_21 _ (List.mem_of_getElem? (i := 19) rfl)
theorem k_500 : Cond.methodLink RX6 24 yX7_levelsBelow ∈ wsL_law := kc_21 _ (List.mem_of_getElem? (i := 20) rfl)
theorem k_501 : Cond.static yX7_levelsBelow ∈ wsL_law := kc_21 _ (List.mem_of_getElem? (i := 21) rfl)
theorem k_502 : Cond.code yX7_levelsBelow cX7_levelsBelow 2 (some .int) ∈ wsL_law := kc_21 _ (List.mem_of_getElem? (i := 22) rfl)
theorem k_503 : Cond.methodLink RX6 28 yX7_holds ∈ wsL_law := kc_21 _ (List.mem_of_getElem? (i := 23) rfl)
theorem k_504 : Cond.instanceMethod yX7_holds ∈ wsL_law := kc_22 _ (List.mem_of_getElem? (i := 0) rfl)
theorem k_505 : Cond.selects RX7 yX7_holds yX7_holds ∈ wsL_law := kc_22 _ (List.mem_of_getElem? (i := 1) rfl)
theorem k_506 : Cond.code yX7_holds cX7_holds 2 (some .boolean) ∈ wsL_law := kc_22 _ (List.mem_of_getElem? (i := 2) rfl)
theorem k_507 : Cond.methodLink RX6 32 yX6_addWithin ∈ wsL_law := kc_22 _ (List.mem_of_getElem? (i := 3) rfl)
theorem k_508 : Cond.static yX6_addWithin ∈ wsL_law := kc_22 _ (List.mem_of_getElem? (i := 4) rfl)
theorem k_509 : Cond.code yX6_addWithin cX6_addWithin 5 none ∈ wsL_law := kc_22 _ (List.mem_of_getElem? (i := 5) rfl)
theorem k_510 : Cond.methodLink RX6 36 yX7_clear ∈ wsL_law := kc_22 _ (List.mem_of_getElem? (i := 6) rfl)
theorem k_511 : Cond.methodLink RX6 40 yX7_put ∈ wsL_law := kc_22 _ (List.mem_of_getElem? (i := 7) rfl)
theorem k_512 : Cond.methodLink RX8 330 yX7_takeOver ∈ wsL_law := kc_22 _ (List.mem_of_getElem? (i := 8) rfl)
theorem k_513 : Cond.instanceMethod yX7_takeOver ∈ wsL_law := kc_22 _ (List.mem_of_getElem? (i := 9) rfl)
theorem k_514 : Cond.selects RX7 yX7_takeOver yX7_takeOver ∈ wsL_law := kc_22 _ (List.mem_of_getElem? (i := 10) rfl)
theorem k_515 : Cond.code yX7_takeOver cX7_takeOver 10 none ∈ wsL_law := kc_22 _ (List.mem_of_getElem? (i := 11) rfl)
theorem k_516 : Cond.methodLink RX7 75 yX7_used ∈ wsL_law := kc_22 _ (List.mem_of_getElem? (i := 12) rfl)
theorem k_517 : Cond.methodLink RX7 90 yJ6_bitCount_0f7a4 ∈ wsL_law := kc_22 _ (List.mem_of_getElem? (i := 13) rfl)
theorem k_518 : Cond.methodLink RX7 86 yX7_put ∈ wsL_law := kc_22 _ (List.mem_of_getElem? (i := 14) rfl)
theorem k_519 : Cond.methodLink RX7 94 yX7_nextWithin ∈ wsL_law := kc_22 _ (List.mem_of_getElem? (i := 15) rfl)
theorem k_520 : Cond.static yX7_nextWithin ∈ wsL_law := kc_22 _ (List.mem_of_getElem? (i := 16) rfl)
theorem k_521 : Cond.code yX7_nextWithin cX7_nextWithin 2 (some .int) ∈ wsL_law := kc_22 _ (List.mem_of_getElem? (i := 17) rfl)
theorem k_522 : Cond.methodLink RX7 98 yX7_list ∈ wsL_law := kc_22 _ (List.mem_of_getElem? (i := 18) rfl)
theorem k_523 : Cond.methodLink RX7 82 yX7_holds ∈ wsL_law := kc_22 _ (List.mem_of_getElem? (i := 19) rfl)
theorem k_524 : Cond.methodLink RX7 102 yX7_take ∈ wsL_law := kc_22 _ (List.mem_of_getElem? (i := 20) rfl)
theorem k_525 : Cond.instanceMethod yX7_take ∈ wsL_law := kc_22 _ (List.mem_of_getElem? (i := 21) rfl)
theorem k_526 : Cond.selects RX7 yX7_take yX7_take ∈ wsL_law := kc_22 _ (List.mem_of_getElem? (i := 22) rfl)
theorem k_527 : Cond.code yX7_take cX7_take 2 none ∈ wsL_law := kc_22 _ (List.mem_of_getElem? (i := 23) rfl)
theorem k_528 : Cond.methodLink RX8 334 yX7_copy ∈ wsL_law := kc_23 _ (List.mem_of_getElem? (i := 0) rfl)
theorem k_529 : Cond.instanceMethod yX7_copy ∈ wsL_law := kc_23 _ (List.mem_of_getElem? (i := 1) rfl)
theorem k_530 : Cond.selects RX7 yX7_copy yX7_copy ∈ wsL_law := kc_23 _ (List.mem_of_getElem? (i := 2) rfl)
theorem k_531 : Cond.code yX7_copy cX7_copy 2 none ∈ wsL_law := kc_23 _ (List.mem_of_getElem? (i := 3) rfl)
theorem k_532 : Cond.methodLink RX7 48 arraycopyName ∈ wsL_law := kc_23 _ (List.mem_of_getElem? (i := 4) rfl)
theorem k_533 : Cond.native arraycopyName ∈ wsL_law := kc_23 _ (List.mem_of_getElem? (i := 5) rfl)
theorem k_534 : Cond.static arraycopyName ∈ wsL_law := kc_23 _ (List.mem_of_getElem? (i := 6) rfl)
theorem k_535 : Cond.initialized "java/lang/System" ∈ wsL_law := kc_23 _ (List.mem_of_getElem? (i := 7) rfl)
theorem k_536 : Cond.methodLink RX8 338 yX7_spreadUp ∈ wsL_law := kc_23 _ (List.mem_of_getElem? (i := 8) rfl)
theorem k_537 : Cond.instanceMethod yX7_spreadUp ∈ wsL_law := kc_23 _ (List.mem_of_getElem? (i := 9) rfl)
theorem k_538 : Cond.selects RX7 yX7_spreadUp yX7_spreadUp ∈ wsL_law := kc_23 _ (List.mem_of_getElem? (i := 10) rfl)
theorem k_539 : Cond.code yX7_spreadUp cX7_spreadUp 2 none ∈ wsL_law := kc_23 _ (List.mem_of_getElem? (i := 11) rfl)
theorem k_540 : Cond.methodLink RX7 54 yX7_raise ∈ wsL_law := kc_23 _ (List.mem_of_getElem? (i := 12) rfl)
theorem k_541 : Cond.instanceMethod yX7_raise ∈ wsL_law := kc_23 _ (List.mem_of_getElem? (i := 13) rfl)
theorem k_542 : Cond.selects RX7 yX7_raise yX7_raise ∈ wsL_law := kc_23 _ (List.mem_of_getElem? (i := 14) rfl)
theorem k_543 : Cond.code yX7_raise cX7_raise 5 none ∈ wsL_law := kc_23 _ (List.mem_of_getElem? (i := 15) rfl)
theorem k_573 : Cond.instanceMethod yX8_thin ∈ wsL_law := kc_24 _ (List.mem_of_getElem? (i := 21) rfl)
theorem k_574 : Cond.selects RX8 yX8_thin yX8_thin ∈ wsL_law := kc_24 _ (List.mem_of_getElem? (i := 22) rfl)
theorem k_575 : Cond.code yX8_thin cX8_thin 5 (some .int) ∈ wsL_law := kc_24 _ (List.mem_of_getElem? (i := 23) rfl)
theorem k_576 : Cond.methodLink RX8 173 yX7_used ∈ wsL_law := kc_25 _ (List.mem_of_getElem? (i := 0) rfl)
theorem k_577 : Cond.methodLink RX8 176 yX7_takeLeast ∈ wsL_law := kc_25 _ (List.mem_of_getElem? (i := 1) rfl)
theorem k_578 : Cond.instanceMethod yX7_takeLeast ∈ wsL_law := kc_25 _ (List.mem_of_getElem? (i := 2) rfl)
theorem k_579 : Cond.selects RX7 yX7_takeLeast yX7_takeLeast ∈ wsL_law := kc_25 _ (List.mem_of_getElem? (i := 3) rfl)
theorem k_580 : Cond.code yX7_takeLeast cX7_takeLeast 4 none ∈ wsL_law := kc_25 _ (List.mem_of_getElem? (i := 4) rfl)
theorem k_581 : Cond.methodLink RX7 61 yX7_copy ∈ wsL_law := kc_25 _ (List.mem_of_getElem? (i := 5) rfl)
theorem k_582 : Cond.methodLink RX7 65 yX7_spreadUp ∈ wsL_law := kc_25 _ (List.mem_of_getElem? (i := 6) rfl)
theorem k_583 : Cond.methodLink RX7 68 yX7_takeFirstAlone ∈ wsL_law := kc_25 _ (List.mem_of_getElem? (i := 7) rfl)
theorem k_584 : Cond.methodLink RX8 180 yX7_takeGreatest ∈ wsL_law := kc_25 _ (List.mem_of_getElem? (i := 8) rfl)
theorem k_585 : Cond.instanceMethod yX7_takeGreatest ∈ wsL_law := kc_25 _ (List.mem_of_getElem? (i := 9) rfl)
theorem k_586 : Cond.selects RX7 yX7_takeGreatest yX7_takeGreatest ∈ wsL_law := kc_25 _ (List.mem_of_getElem? (i := 10) rfl)
theorem k_587 : Cond.code yX7_takeGreatest cX7_takeGreatest 4 none ∈ wsL_law := kc_25 _ (List.mem_of_getElem? (i := 11) rfl)
theorem k_588 : Cond.methodLink RX7 72 yX7_spreadDown ∈ wsL_law := kc_25 _ (List.mem_of_getElem? (i := 12) rfl)
theorem k_589 : Cond.methodLink RX8 183 yX7_takeHitting ∈ wsL_law := kc_25 _ (List.mem_of_getElem? (i := 13) rfl)
theorem k_590 : Cond.instanceMethod yX7_takeHitting ∈ wsL_law := kc_25 _ (List.mem_of_getElem? (i := 14) rfl)
theorem k_591 : Cond.selects RX7 yX7_takeHitting yX7_takeHitting ∈ wsL_law := kc_25 _ (List.mem_of_getElem? (i := 15) rfl)
theorem k_592 : Cond.code yX7_takeHitting cX7_takeHitting 6 none ∈ wsL_law := kc_25 _ (List.mem_of_getElem? (i := 16) rfl)
theorem k_593 : Cond.methodLink RX7 79 yX7_levelsBelow ∈ wsL_law := kc_25 _ (List.mem_of_getElem? (i := 17) rfl)
theorem k_611 : Cond.instanceMethod yX8_by ∈ wsL_law := kc_26 _ (List.mem_of_getElem? (i := 11) rfl)
theorem k_612 : Cond.selects RX8 yX8_by yX8_by ∈ wsL_law := kc_26 _ (List.mem_of_getElem? (i := 12) rfl)
theorem k_613 : Cond.code yX8_by cX8_by 7 (some .int) ∈ wsL_law := kc_26 _ (List.mem_of_getElem? (i := 13) rfl)
theorem k_614 : Cond.methodLink RX8 186 yX7_raise ∈ wsL_law := kc_26 _ (List.mem_of_getElem? (i := 14) rfl)
theorem k_615 : Cond.methodLink RX8 190 yX7_lower ∈ wsL_law := kc_26 _ (List.mem_of_getElem? (i := 15) rfl)
theorem k_616 : Cond.methodLink RX8 193 yX7_takeBy ∈ wsL_law := kc_26 _ (List.mem_of_getElem? (i := 16) rfl)
theorem k_617 : Cond.instanceMethod yX7_takeBy ∈ wsL_law := kc_26 _ (List.mem_of_getElem? (i := 17) rfl)
theorem k_618 : Cond.selects RX7 yX7_takeBy yX7_takeBy ∈ wsL_law := kc_26 _ (List.mem_of_getElem? (i := 18) rfl)
theorem k_619 : Cond.code yX7_takeBy cX7_takeBy 7 none ∈ wsL_law := kc_26 _ (List.mem_of_getElem? (i := 19) rfl)
theorem k_625 : Cond.instanceMethod yX8_within ∈ wsL_law := kc_27 _ (List.mem_of_getElem? (i := 1) rfl)
theorem k_626 : Cond.selects RX8 yX8_within yX8_within ∈ wsL_law := kc_27 _ (List.mem_of_getElem? (i := 2) rfl)
theorem k_627 : Cond.code yX8_within cX8_within 9 (some .int) ∈ wsL_law := kc_27 _ (List.mem_of_getElem? (i := 3) rfl)
theorem k_628 : Cond.methodLink RX8 197 yX5_learnWeights ∈ wsL_law := kc_27 _ (List.mem_of_getElem? (i := 4) rfl)
theorem k_629 : Cond.instanceMethod yX5_learnWeights ∈ wsL_law := kc_27 _ (List.mem_of_getElem? (i := 5) rfl)
theorem k_630 : Cond.selects RX5 yX5_learnWeights yX5_learnWeights ∈ wsL_law := kc_27 _ (List.mem_of_getElem? (i := 6) rfl)
theorem k_631 : Cond.code yX5_learnWeights cX5_learnWeights 3 none ∈ wsL_law := kc_27 _ (List.mem_of_getElem? (i := 7) rfl)
theorem k_632 : Cond.methodLink RX5 24 yX2_weightOf ∈ wsL_law := kc_27 _ (List.mem_of_getElem? (i := 8) rfl)
theorem k_633 : Cond.instanceMethod yX2_weightOf ∈ wsL_law := kc_27 _ (List.mem_of_getElem? (i := 9) rfl)
theorem k_634 : Cond.selects RX2 yX2_weightOf yX2_weightOf ∈ wsL_law := kc_27 _ (List.mem_of_getElem? (i := 10) rfl)
theorem k_635 : Cond.code yX2_weightOf cX2_weightOf 2 (some .int) ∈ wsL_law := kc_27 _ (List.mem_of_getElem? (i := 11) rfl)
theorem k_636 : Cond.methodLink RX5 30 yX5_learn ∈ wsL_law := kc_27 _ (List.mem_of_getElem? (i := 12) rfl)
theorem k_637 : Cond.instanceMethod yX5_learn ∈ wsL_law := kc_27 _ (List.mem_of_getElem? (i := 13) rfl)
theorem k_638 : Cond.selects RX5 yX5_learn yX5_learn ∈ wsL_law := kc_27 _ (List.mem_of_getElem? (i := 14) rfl)
theorem k_639 : Cond.code yX5_learn cX5_learn 3 none ∈ wsL_law := kc_27 _ (List.mem_of_getElem? (i := 15) rfl)
theorem k_640 : Cond.methodLink RX8 201 yX5_of ∈ wsL_law := kc_27 _ (List.mem_of_getElem? (i := 16) rfl)
theorem k_641 : Cond.instanceMethod yX5_of ∈ wsL_law := kc_27 _ (List.mem_of_getElem? (i := 17) rfl)
theorem k_642 : Cond.selects RX5 yX5_of yX5_of ∈ wsL_law := kc_27 _ (List.mem_of_getElem? (i := 18) rfl)
theorem k_643 : Cond.code yX5_of cX5_of 2 (some .int) ∈ wsL_law := kc_27 _ (List.mem_of_getElem? (i := 19) rfl)
theorem k_653 : Cond.instanceMethod yX8_drop ∈ wsL_law := kc_28 _ (List.mem_of_getElem? (i := 5) rfl)
theorem k_654 : Cond.selects RX8 yX8_drop yX8_drop ∈ wsL_law := kc_28 _ (List.mem_of_getElem? (i := 6) rfl)
theorem k_655 : Cond.code yX8_drop cX8_drop 1 (some .int) ∈ wsL_law := kc_28 _ (List.mem_of_getElem? (i := 7) rfl)
theorem k_661 : Cond.instanceMethod yX8_close ∈ wsL_law := kc_28 _ (List.mem_of_getElem? (i := 13) rfl)
theorem k_662 : Cond.selects RX8 yX8_close yX8_close ∈ wsL_law := kc_28 _ (List.mem_of_getElem? (i := 14) rfl)
theorem k_663 : Cond.code yX8_close cX8_close 1 (some .int) ∈ wsL_law := kc_28 _ (List.mem_of_getElem? (i := 15) rfl)
theorem k_664 : Cond.fieldLink RX8 207 "WayBook$Net" "roads" "I" ∈ wsL_law := kc_28 _ (List.mem_of_getElem? (i := 16) rfl)
theorem k_665 : Cond.methodLink RX8 210 yX2_loseRoad ∈ wsL_law := kc_28 _ (List.mem_of_getElem? (i := 17) rfl)
theorem k_666 : Cond.instanceMethod yX2_loseRoad ∈ wsL_law := kc_28 _ (List.mem_of_getElem? (i := 18) rfl)
theorem k_667 : Cond.selects RX2 yX2_loseRoad yX2_loseRoad ∈ wsL_law := kc_28 _ (List.mem_of_getElem? (i := 19) rfl)
theorem k_668 : Cond.code yX2_loseRoad cX2_loseRoad 1 (some .int) ∈ wsL_law := kc_28 _ (List.mem_of_getElem? (i := 20) rfl)
theorem k_674 : Cond.instanceMethod yX8_count ∈ wsL_law := kc_29 _ (List.mem_of_getElem? (i := 2) rfl)
theorem k_675 : Cond.selects RX8 yX8_count yX8_count ∈ wsL_law := kc_29 _ (List.mem_of_getElem? (i := 3) rfl)
theorem k_676 : Cond.code yX8_count cX8_count 3 (some .int) ∈ wsL_law := kc_29 _ (List.mem_of_getElem? (i := 4) rfl)
theorem k_682 : Cond.instanceMethod yX8_told ∈ wsL_law := kc_29 _ (List.mem_of_getElem? (i := 10) rfl)
theorem k_683 : Cond.selects RX8 yX8_told yX8_told ∈ wsL_law := kc_29 _ (List.mem_of_getElem? (i := 11) rfl)
theorem k_684 : Cond.code yX8_told cX8_told 4 (some .int) ∈ wsL_law := kc_29 _ (List.mem_of_getElem? (i := 12) rfl)
theorem k_685 : Cond.fieldLink RX8 213 "WayBook$Ways" "kind" "I" ∈ wsL_law := kc_29 _ (List.mem_of_getElem? (i := 13) rfl)
theorem k_686 : Cond.methodLink RX8 216 yX3_list ∈ wsL_law := kc_29 _ (List.mem_of_getElem? (i := 14) rfl)
theorem k_687 : Cond.instanceMethod yX3_list ∈ wsL_law := kc_29 _ (List.mem_of_getElem? (i := 15) rfl)
theorem k_688 : Cond.selects RX3 yX3_list yX3_list ∈ wsL_law := kc_29 _ (List.mem_of_getElem? (i := 16) rfl)
theorem k_689 : Cond.code yX3_list cX3_list 2 (some .int) ∈ wsL_law := kc_29 _ (List.mem_of_getElem? (i := 17) rfl)
theorem k_690 : Cond.fieldLink RX3 23 "WayBook$Rows" "size" "I" ∈ wsL_law := kc_29 _ (List.mem_of_getElem? (i := 18) rfl)
theorem k_691 : Cond.methodLink RX3 27 yX3_clear ∈ wsL_law := kc_29 _ (List.mem_of_getElem? (i := 19) rfl)
theorem k_692 : Cond.instanceMethod yX3_clear ∈ wsL_law := kc_29 _ (List.mem_of_getElem? (i := 20) rfl)
theorem k_693 : Cond.selects RX3 yX3_clear yX3_clear ∈ wsL_law := kc_29 _ (List.mem_of_getElem? (i := 21) rfl)
theorem k_694 : Cond.code yX3_clear cX3_clear 1 none ∈ wsL_law := kc_29 _ (List.mem_of_getElem? (i := 22) rfl)
theorem k_695 : Cond.methodLink RX3 34 yJ7_fill_53178 ∈ wsL_law := kc_29 _ (List.mem_of_getElem? (i := 23) rfl)
theorem k_696 : Cond.methodLink RX3 30 yX3_over ∈ wsL_law := kc_30 _ (List.mem_of_getElem? (i := 0) rfl)
theorem k_697 : Cond.instanceMethod yX3_over ∈ wsL_law := kc_30 _ (List.mem_of_getElem? (i := 1) rfl)
theorem k_698 : Cond.selects RX3 yX3_over yX3_over ∈ wsL_law := kc_30 _ (List.mem_of_getElem? (i := 2) rfl)
theorem k_699 : Cond.code yX3_over cX3_over 6 (some .int) ∈ wsL_law := kc_30 _ (List.mem_of_getElem? (i := 3) rfl)
theorem k_700 : Cond.fieldLink RX3 40 "WayBook$Ways" "words" "[J" ∈ wsL_law := kc_30 _ (List.mem_of_getElem? (i := 4) rfl)
theorem k_701 : Cond.methodLink RX3 46 yX3_under ∈ wsL_law := kc_30 _ (List.mem_of_getElem? (i := 5) rfl)
theorem k_702 : Cond.instanceMethod yX3_under ∈ wsL_law := kc_30 _ (List.mem_of_getElem? (i := 6) rfl)
theorem k_703 : Cond.selects RX3 yX3_under yX3_under ∈ wsL_law := kc_30 _ (List.mem_of_getElem? (i := 7) rfl)
theorem k_704 : Cond.code yX3_under cX3_under 7 (some .int) ∈ wsL_law := kc_30 _ (List.mem_of_getElem? (i := 8) rfl)
theorem k_705 : Cond.methodLink RX3 50 yX3_knot ∈ wsL_law := kc_30 _ (List.mem_of_getElem? (i := 9) rfl)
theorem k_706 : Cond.instanceMethod yX3_knot ∈ wsL_law := kc_30 _ (List.mem_of_getElem? (i := 10) rfl)
theorem k_707 : Cond.selects RX3 yX3_knot yX3_knot ∈ wsL_law := kc_30 _ (List.mem_of_getElem? (i := 11) rfl)
theorem k_708 : Cond.code yX3_knot cX3_knot 5 (some .int) ∈ wsL_law := kc_30 _ (List.mem_of_getElem? (i := 12) rfl)
theorem k_709 : Cond.methodLink RX3 54 yX3_find ∈ wsL_law := kc_30 _ (List.mem_of_getElem? (i := 13) rfl)
theorem k_710 : Cond.instanceMethod yX3_find ∈ wsL_law := kc_30 _ (List.mem_of_getElem? (i := 14) rfl)
theorem k_711 : Cond.selects RX3 yX3_find yX3_find ∈ wsL_law := kc_30 _ (List.mem_of_getElem? (i := 15) rfl)
theorem k_712 : Cond.code yX3_find cX3_find 6 (some .int) ∈ wsL_law := kc_30 _ (List.mem_of_getElem? (i := 16) rfl)
theorem k_713 : Cond.methodLink RX3 60 yX3_mark ∈ wsL_law := kc_30 _ (List.mem_of_getElem? (i := 17) rfl)
theorem k_714 : Cond.static yX3_mark ∈ wsL_law := kc_30 _ (List.mem_of_getElem? (i := 18) rfl)
theorem k_715 : Cond.code yX3_mark cX3_mark 4 (some .int) ∈ wsL_law := kc_30 _ (List.mem_of_getElem? (i := 19) rfl)
theorem k_716 : Cond.methodLink RX3 63 yX3_isCell ∈ wsL_law := kc_30 _ (List.mem_of_getElem? (i := 20) rfl)
theorem k_717 : Cond.instanceMethod yX3_isCell ∈ wsL_law := kc_30 _ (List.mem_of_getElem? (i := 21) rfl)
theorem k_718 : Cond.selects RX3 yX3_isCell yX3_isCell ∈ wsL_law := kc_30 _ (List.mem_of_getElem? (i := 22) rfl)
theorem k_719 : Cond.code yX3_isCell cX3_isCell 3 (some .boolean) ∈ wsL_law := kc_30 _ (List.mem_of_getElem? (i := 23) rfl)
theorem k_720 : Cond.methodLink RX3 57 yX3_add ∈ wsL_law := kc_31 _ (List.mem_of_getElem? (i := 0) rfl)
theorem k_721 : Cond.instanceMethod yX3_add ∈ wsL_law := kc_31 _ (List.mem_of_getElem? (i := 1) rfl)
theorem k_722 : Cond.selects RX3 yX3_add yX3_add ∈ wsL_law := kc_31 _ (List.mem_of_getElem? (i := 2) rfl)
theorem k_723 : Cond.code yX3_add cX3_add 6 (some .int) ∈ wsL_law := kc_31 _ (List.mem_of_getElem? (i := 3) rfl)
theorem k_724 : Cond.methodLink RX3 67 yX3_countOf ∈ wsL_law := kc_31 _ (List.mem_of_getElem? (i := 4) rfl)
theorem k_725 : Cond.instanceMethod yX3_countOf ∈ wsL_law := kc_31 _ (List.mem_of_getElem? (i := 5) rfl)
theorem k_726 : Cond.selects RX3 yX3_countOf yX3_countOf ∈ wsL_law := kc_31 _ (List.mem_of_getElem? (i := 6) rfl)
theorem k_727 : Cond.code yX3_countOf cX3_countOf 2 (some .int) ∈ wsL_law := kc_31 _ (List.mem_of_getElem? (i := 7) rfl)
theorem k_745 : Cond.instanceMethod yX8_total ∈ wsL_law := kc_32 _ (List.mem_of_getElem? (i := 1) rfl)
theorem k_746 : Cond.selects RX8 yX8_total yX8_total ∈ wsL_law := kc_32 _ (List.mem_of_getElem? (i := 2) rfl)
theorem k_747 : Cond.code yX8_total cX8_total 6 (some .long) ∈ wsL_law := kc_32 _ (List.mem_of_getElem? (i := 3) rfl)
theorem k_748 : Cond.methodLink RX8 219 yX2_weightOf ∈ wsL_law := kc_32 _ (List.mem_of_getElem? (i := 4) rfl)
theorem k_749 : Cond.methodLink RX8 222 yX7_sizeWith ∈ wsL_law := kc_32 _ (List.mem_of_getElem? (i := 5) rfl)
theorem k_755 : Cond.instanceMethod yX8_often ∈ wsL_law := kc_32 _ (List.mem_of_getElem? (i := 11) rfl)
theorem k_756 : Cond.selects RX8 yX8_often yX8_often ∈ wsL_law := kc_32 _ (List.mem_of_getElem? (i := 12) rfl)
theorem k_757 : Cond.code yX8_often cX8_often 4 (some .int) ∈ wsL_law := kc_32 _ (List.mem_of_getElem? (i := 13) rfl)
theorem k_763 : Cond.instanceMethod yX8_has ∈ wsL_law := kc_32 _ (List.mem_of_getElem? (i := 19) rfl)
theorem k_764 : Cond.selects RX8 yX8_has yX8_has ∈ wsL_law := kc_32 _ (List.mem_of_getElem? (i := 20) rfl)
theorem k_765 : Cond.code yX8_has cX8_has 4 (some .int) ∈ wsL_law := kc_32 _ (List.mem_of_getElem? (i := 21) rfl)
theorem k_766 : Cond.methodLink RX8 225 yX7_holds ∈ wsL_law := kc_32 _ (List.mem_of_getElem? (i := 22) rfl)
theorem k_772 : Cond.instanceMethod yX8_way ∈ wsL_law := kc_33 _ (List.mem_of_getElem? (i := 4) rfl)
theorem k_773 : Cond.selects RX8 yX8_way yX8_way ∈ wsL_law := kc_33 _ (List.mem_of_getElem? (i := 5) rfl)
theorem k_774 : Cond.code yX8_way cX8_way 4 (some .int) ∈ wsL_law := kc_33 _ (List.mem_of_getElem? (i := 6) rfl)
theorem k_775 : Cond.methodLink RX8 228 yX7_nth ∈ wsL_law := kc_33 _ (List.mem_of_getElem? (i := 7) rfl)
theorem k_776 : Cond.instanceMethod yX7_nth ∈ wsL_law := kc_33 _ (List.mem_of_getElem? (i := 8) rfl)
theorem k_777 : Cond.selects RX7 yX7_nth yX7_nth ∈ wsL_law := kc_33 _ (List.mem_of_getElem? (i := 9) rfl)
theorem k_778 : Cond.code yX7_nth cX7_nth 5 (some .int) ∈ wsL_law := kc_33 _ (List.mem_of_getElem? (i := 10) rfl)
theorem k_779 : Cond.methodLink RX7 37 yX7_nthBit ∈ wsL_law := kc_33 _ (List.mem_of_getElem? (i := 11) rfl)
theorem k_780 : Cond.static yX7_nthBit ∈ wsL_law := kc_33 _ (List.mem_of_getElem? (i := 12) rfl)
theorem k_781 : Cond.code yX7_nthBit cX7_nthBit 5 (some .int) ∈ wsL_law := kc_33 _ (List.mem_of_getElem? (i := 13) rfl)
theorem k_782 : Cond.methodLink RX8 231 yX8_maskAt ∈ wsL_law := kc_33 _ (List.mem_of_getElem? (i := 14) rfl)
theorem k_783 : Cond.static yX8_maskAt ∈ wsL_law := kc_33 _ (List.mem_of_getElem? (i := 15) rfl)
theorem k_784 : Cond.code yX8_maskAt cX8_maskAt 1 (some .int) ∈ wsL_law := kc_33 _ (List.mem_of_getElem? (i := 16) rfl)
theorem k_797 : Cond.instanceMethod yX8_rank ∈ wsL_law := kc_34 _ (List.mem_of_getElem? (i := 5) rfl)
theorem k_798 : Cond.selects RX8 yX8_rank yX8_rank ∈ wsL_law := kc_34 _ (List.mem_of_getElem? (i := 6) rfl)
theorem k_799 : Cond.code yX8_rank cX8_rank 4 (some .int) ∈ wsL_law := kc_34 _ (List.mem_of_getElem? (i := 7) rfl)
theorem k_800 : Cond.methodLink RX8 234 yX7_sizeAhead ∈ wsL_law := kc_34 _ (List.mem_of_getElem? (i := 8) rfl)
theorem k_801 : Cond.instanceMethod yX7_sizeAhead ∈ wsL_law := kc_34 _ (List.mem_of_getElem? (i := 9) rfl)
theorem k_802 : Cond.selects RX7 yX7_sizeAhead yX7_sizeAhead ∈ wsL_law := kc_34 _ (List.mem_of_getElem? (i := 10) rfl)
theorem k_803 : Cond.code yX7_sizeAhead cX7_sizeAhead 6 (some .int) ∈ wsL_law := kc_34 _ (List.mem_of_getElem? (i := 11) rfl)
theorem k_809 : Cond.instanceMethod yX8_best ∈ wsL_law := kc_34 _ (List.mem_of_getElem? (i := 17) rfl)
theorem k_810 : Cond.selects RX8 yX8_best yX8_best ∈ wsL_law := kc_34 _ (List.mem_of_getElem? (i := 18) rfl)
theorem k_811 : Cond.code yX8_best cX8_best 5 (some .int) ∈ wsL_law := kc_34 _ (List.mem_of_getElem? (i := 19) rfl)
theorem k_812 : Cond.methodLink RX8 237 yX5_nthBest ∈ wsL_law := kc_34 _ (List.mem_of_getElem? (i := 20) rfl)
theorem k_813 : Cond.instanceMethod yX5_nthBest ∈ wsL_law := kc_34 _ (List.mem_of_getElem? (i := 21) rfl)
theorem k_814 : Cond.selects RX5 yX5_nthBest yX5_nthBest ∈ wsL_law := kc_34 _ (List.mem_of_getElem? (i := 22) rfl)
theorem k_815 : Cond.code yX5_nthBest cX5_nthBest 8 (some .int) ∈ wsL_law := kc_34 _ (List.mem_of_getElem? (i := 23) rfl)
theorem k_816 : Cond.methodLink RX5 36 yX5_countSums ∈ wsL_law := kc_35 _ (List.mem_of_getElem? (i := 0) rfl)
theorem k_817 : Cond.instanceMethod yX5_countSums ∈ wsL_law := kc_35 _ (List.mem_of_getElem? (i := 1) rfl)
theorem k_818 : Cond.selects RX5 yX5_countSums yX5_countSums ∈ wsL_law := kc_35 _ (List.mem_of_getElem? (i := 2) rfl)
theorem k_819 : Cond.code yX5_countSums cX5_countSums 5 none ∈ wsL_law := kc_35 _ (List.mem_of_getElem? (i := 3) rfl)
theorem k_820 : Cond.methodLink RX5 44 yJ7_fill_53178 ∈ wsL_law := kc_35 _ (List.mem_of_getElem? (i := 4) rfl)
theorem k_821 : Cond.methodLink RX5 49 yX5_of ∈ wsL_law := kc_35 _ (List.mem_of_getElem? (i := 5) rfl)
theorem k_822 : Cond.methodLink RX5 40 yX5_nthOfSum ∈ wsL_law := kc_35 _ (List.mem_of_getElem? (i := 6) rfl)
theorem k_823 : Cond.instanceMethod yX5_nthOfSum ∈ wsL_law := kc_35 _ (List.mem_of_getElem? (i := 7) rfl)
theorem k_824 : Cond.selects RX5 yX5_nthOfSum yX5_nthOfSum ∈ wsL_law := kc_35 _ (List.mem_of_getElem? (i := 8) rfl)
theorem k_825 : Cond.code yX5_nthOfSum cX5_nthOfSum 7 (some .int) ∈ wsL_law := kc_35 _ (List.mem_of_getElem? (i := 9) rfl)
theorem k_831 : Cond.instanceMethod yX8_draw ∈ wsL_law := kc_35 _ (List.mem_of_getElem? (i := 15) rfl)
theorem k_832 : Cond.selects RX8 yX8_draw yX8_draw ∈ wsL_law := kc_35 _ (List.mem_of_getElem? (i := 16) rfl)
theorem k_833 : Cond.code yX8_draw cX8_draw 5 (some .int) ∈ wsL_law := kc_35 _ (List.mem_of_getElem? (i := 17) rfl)
theorem k_834 : Cond.methodLink RX8 241 yX8_drawn ∈ wsL_law := kc_35 _ (List.mem_of_getElem? (i := 18) rfl)
theorem k_835 : Cond.static yX8_drawn ∈ wsL_law := kc_35 _ (List.mem_of_getElem? (i := 19) rfl)
theorem k_836 : Cond.code yX8_drawn cX8_drawn 6 (some .int) ∈ wsL_law := kc_35 _ (List.mem_of_getElem? (i := 20) rfl)
theorem k_837 : Cond.constant RX8 345 (1103515245) ∈ wsL_law := kc_35 _ (List.mem_of_getElem? (i := 21) rfl)
theorem k_844 : Cond.instanceMethod yX8_same ∈ wsL_law := kc_36 _ (List.mem_of_getElem? (i := 4) rfl)
theorem k_845 : Cond.selects RX8 yX8_same yX8_same ∈ wsL_law := kc_36 _ (List.mem_of_getElem? (i := 5) rfl)
theorem k_846 : Cond.code yX8_same cX8_same 5 (some .int) ∈ wsL_law := kc_36 _ (List.mem_of_getElem? (i := 6) rfl)
theorem k_847 : Cond.methodLink RX8 245 yX7_isLike ∈ wsL_law := kc_36 _ (List.mem_of_getElem? (i := 7) rfl)
theorem k_848 : Cond.instanceMethod yX7_isLike ∈ wsL_law := kc_36 _ (List.mem_of_getElem? (i := 8) rfl)
theorem k_849 : Cond.selects RX7 yX7_isLike yX7_isLike ∈ wsL_law := kc_36 _ (List.mem_of_getElem? (i := 9) rfl)
theorem k_850 : Cond.code yX7_isLike cX7_isLike 3 (some .boolean) ∈ wsL_law := kc_36 _ (List.mem_of_getElem? (i := 10) rfl)
theorem k_856 : Cond.instanceMethod yX8_chance ∈ wsL_law := kc_36 _ (List.mem_of_getElem? (i := 16) rfl)
theorem k_857 : Cond.selects RX8 yX8_chance yX8_chance ∈ wsL_law := kc_36 _ (List.mem_of_getElem? (i := 17) rfl)
theorem k_858 : Cond.code yX8_chance cX8_chance 3 (some .long) ∈ wsL_law := kc_36 _ (List.mem_of_getElem? (i := 18) rfl)
theorem k_859 : Cond.constantLong RX8 249 (-1) ∈ wsL_law := kc_36 _ (List.mem_of_getElem? (i := 19) rfl)
theorem k_860 : Cond.methodLink RX8 251 yX8_chanceIf ∈ wsL_law := kc_36 _ (List.mem_of_getElem? (i := 20) rfl)
theorem k_861 : Cond.instanceMethod yX8_chanceIf ∈ wsL_law := kc_36 _ (List.mem_of_getElem? (i := 21) rfl)
theorem k_862 : Cond.selects RX8 yX8_chanceIf yX8_chanceIf ∈ wsL_law := kc_36 _ (List.mem_of_getElem? (i := 22) rfl)
theorem k_863 : Cond.code yX8_chanceIf cX8_chanceIf 4 (some .long) ∈ wsL_law := kc_36 _ (List.mem_of_getElem? (i := 23) rfl)
theorem k_864 : Cond.methodLink RX8 341 yX6_chanceOf ∈ wsL_law := kc_37 _ (List.mem_of_getElem? (i := 0) rfl)
theorem k_865 : Cond.instanceMethod yX6_chanceOf ∈ wsL_law := kc_37 _ (List.mem_of_getElem? (i := 1) rfl)
theorem k_866 : Cond.selects RX6 yX6_chanceOf yX6_chanceOf ∈ wsL_law := kc_37 _ (List.mem_of_getElem? (i := 2) rfl)
theorem k_867 : Cond.code yX6_chanceOf cX6_chanceOf 10 (some .long) ∈ wsL_law := kc_37 _ (List.mem_of_getElem? (i := 3) rfl)
theorem k_868 : Cond.fieldLink RX6 43 "WayBook$Net" "roads" "I" ∈ wsL_law := kc_37 _ (List.mem_of_getElem? (i := 4) rfl)
theorem k_869 : Cond.methodLink RX6 49 yX2_eighthsOf ∈ wsL_law := kc_37 _ (List.mem_of_getElem? (i := 5) rfl)
theorem k_870 : Cond.instanceMethod yX2_eighthsOf ∈ wsL_law := kc_37 _ (List.mem_of_getElem? (i := 6) rfl)
theorem k_871 : Cond.selects RX2 yX2_eighthsOf yX2_eighthsOf ∈ wsL_law := kc_37 _ (List.mem_of_getElem? (i := 7) rfl)
theorem k_872 : Cond.code yX2_eighthsOf cX2_eighthsOf 2 (some .int) ∈ wsL_law := kc_37 _ (List.mem_of_getElem? (i := 8) rfl)
theorem k_883 : Cond.instanceMethod yX8_matters ∈ wsL_law := kc_37 _ (List.mem_of_getElem? (i := 19) rfl)
theorem k_884 : Cond.selects RX8 yX8_matters yX8_matters ∈ wsL_law := kc_37 _ (List.mem_of_getElem? (i := 20) rfl)
theorem k_885 : Cond.code yX8_matters cX8_matters 4 (some .long) ∈ wsL_law := kc_37 _ (List.mem_of_getElem? (i := 21) rfl)
theorem k_891 : Cond.instanceMethod yX8_turned ∈ wsL_law := kc_38 _ (List.mem_of_getElem? (i := 3) rfl)
theorem k_892 : Cond.selects RX8 yX8_turned yX8_turned ∈ wsL_law := kc_38 _ (List.mem_of_getElem? (i := 4) rfl)
theorem k_893 : Cond.code yX8_turned cX8_turned 6 (some .int) ∈ wsL_law := kc_38 _ (List.mem_of_getElem? (i := 5) rfl)
theorem k_894 : Cond.methodLink RX8 255 yX5_learnTurn ∈ wsL_law := kc_38 _ (List.mem_of_getElem? (i := 6) rfl)
theorem k_895 : Cond.instanceMethod yX5_learnTurn ∈ wsL_law := kc_38 _ (List.mem_of_getElem? (i := 7) rfl)
theorem k_896 : Cond.selects RX5 yX5_learnTurn yX5_learnTurn ∈ wsL_law := kc_38 _ (List.mem_of_getElem? (i := 8) rfl)
theorem k_897 : Cond.code yX5_learnTurn cX5_learnTurn 4 none ∈ wsL_law := kc_38 _ (List.mem_of_getElem? (i := 9) rfl)
theorem k_898 : Cond.methodLink RX5 33 yX2_placeOf ∈ wsL_law := kc_38 _ (List.mem_of_getElem? (i := 10) rfl)
theorem k_904 : Cond.instanceMethod yX8_write ∈ wsL_law := kc_38 _ (List.mem_of_getElem? (i := 16) rfl)
theorem k_905 : Cond.selects RX8 yX8_write yX8_write ∈ wsL_law := kc_38 _ (List.mem_of_getElem? (i := 17) rfl)
theorem k_906 : Cond.code yX8_write cX8_write 3 (some .int) ∈ wsL_law := kc_38 _ (List.mem_of_getElem? (i := 18) rfl)
theorem k_930 : Cond.instanceMethod yX8_row ∈ wsL_law := kc_39 _ (List.mem_of_getElem? (i := 18) rfl)
theorem k_931 : Cond.selects RX8 yX8_row yX8_row ∈ wsL_law := kc_39 _ (List.mem_of_getElem? (i := 19) rfl)
theorem k_932 : Cond.code yX8_row cX8_row 3 (some .int) ∈ wsL_law := kc_39 _ (List.mem_of_getElem? (i := 20) rfl)
theorem k_933 : Cond.fieldLink RX8 264 "WayBook$Rows" "cells" "[[I" ∈ wsL_law := kc_39 _ (List.mem_of_getElem? (i := 21) rfl)
theorem k_934 : Cond.methodLink RX8 261 yX3_isCell ∈ wsL_law := kc_39 _ (List.mem_of_getElem? (i := 22) rfl)
theorem k_940 : Cond.instanceMethod yX8_forge ∈ wsL_law := kc_40 _ (List.mem_of_getElem? (i := 4) rfl)
theorem k_941 : Cond.selects RX8 yX8_forge yX8_forge ∈ wsL_law := kc_40 _ (List.mem_of_getElem? (i := 5) rfl)
theorem k_942 : Cond.code yX8_forge cX8_forge 4 (some .int) ∈ wsL_law := kc_40 _ (List.mem_of_getElem? (i := 6) rfl)
theorem k_948 : Cond.instanceMethod yX8_check ∈ wsL_law := kc_40 _ (List.mem_of_getElem? (i := 12) rfl)
theorem k_949 : Cond.selects RX8 yX8_check yX8_check ∈ wsL_law := kc_40 _ (List.mem_of_getElem? (i := 13) rfl)
theorem k_950 : Cond.code yX8_check cX8_check 4 (some .int) ∈ wsL_law := kc_40 _ (List.mem_of_getElem? (i := 14) rfl)
theorem k_951 : Cond.methodLink RX8 268 yX3_firstWrong ∈ wsL_law := kc_40 _ (List.mem_of_getElem? (i := 15) rfl)
theorem k_952 : Cond.instanceMethod yX3_firstWrong ∈ wsL_law := kc_40 _ (List.mem_of_getElem? (i := 16) rfl)
theorem k_953 : Cond.selects RX3 yX3_firstWrong yX3_firstWrong ∈ wsL_law := kc_40 _ (List.mem_of_getElem? (i := 17) rfl)
theorem k_954 : Cond.code yX3_firstWrong cX3_firstWrong 4 (some .int) ∈ wsL_law := kc_40 _ (List.mem_of_getElem? (i := 18) rfl)
theorem k_955 : Cond.methodLink RX3 71 yX3_wrongness ∈ wsL_law := kc_40 _ (List.mem_of_getElem? (i := 19) rfl)
theorem k_956 : Cond.instanceMethod yX3_wrongness ∈ wsL_law := kc_40 _ (List.mem_of_getElem? (i := 20) rfl)
theorem k_957 : Cond.selects RX3 yX3_wrongness yX3_wrongness ∈ wsL_law := kc_40 _ (List.mem_of_getElem? (i := 21) rfl)
theorem k_958 : Cond.code yX3_wrongness cX3_wrongness 6 (some .int) ∈ wsL_law := kc_40 _ (List.mem_of_getElem? (i := 22) rfl)
theorem k_959 : Cond.methodLink RX3 75 yX3_isLead ∈ wsL_law := kc_40 _ (List.mem_of_getElem? (i := 23) rfl)
theorem k_960 : Cond.static yX3_isLead ∈ wsL_law := kc_41 _ (List.mem_of_getElem? (i := 0) rfl)
theorem k_961 : Cond.code yX3_isLead cX3_isLead 2 (some .boolean) ∈ wsL_law := kc_41 _ (List.mem_of_getElem? (i := 1) rfl)
theorem k_962 : Cond.methodLink RX3 78 yX3_roadOfLead ∈ wsL_law := kc_41 _ (List.mem_of_getElem? (i := 2) rfl)
theorem k_963 : Cond.instanceMethod yX3_roadOfLead ∈ wsL_law := kc_41 _ (List.mem_of_getElem? (i := 3) rfl)
theorem k_964 : Cond.selects RX3 yX3_roadOfLead yX3_roadOfLead ∈ wsL_law := kc_41 _ (List.mem_of_getElem? (i := 4) rfl)
theorem k_965 : Cond.code yX3_roadOfLead cX3_roadOfLead 2 (some .int) ∈ wsL_law := kc_41 _ (List.mem_of_getElem? (i := 5) rfl)
theorem k_966 : Cond.methodLink RX8 272 yX3_isLike ∈ wsL_law := kc_41 _ (List.mem_of_getElem? (i := 6) rfl)
theorem k_967 : Cond.instanceMethod yX3_isLike ∈ wsL_law := kc_41 _ (List.mem_of_getElem? (i := 7) rfl)
theorem k_968 : Cond.selects RX3 yX3_isLike yX3_isLike ∈ wsL_law := kc_41 _ (List.mem_of_getElem? (i := 8) rfl)
theorem k_969 : Cond.code yX3_isLike cX3_isLike 4 (some .boolean) ∈ wsL_law := kc_41 _ (List.mem_of_getElem? (i := 9) rfl)
theorem k_987 : Cond.instanceMethod yX8_sheet ∈ wsL_law := kc_42 _ (List.mem_of_getElem? (i := 3) rfl)
theorem k_988 : Cond.selects RX8 yX8_sheet yX8_sheet ∈ wsL_law := kc_42 _ (List.mem_of_getElem? (i := 4) rfl)
theorem k_989 : Cond.code yX8_sheet cX8_sheet 4 (some .int) ∈ wsL_law := kc_42 _ (List.mem_of_getElem? (i := 5) rfl)
theorem k_990 : Cond.methodLink RX8 275 yX1_layOut ∈ wsL_law := kc_42 _ (List.mem_of_getElem? (i := 6) rfl)
theorem k_991 : Cond.instanceMethod yX1_layOut ∈ wsL_law := kc_42 _ (List.mem_of_getElem? (i := 7) rfl)
theorem k_992 : Cond.selects RX1 yX1_layOut yX1_layOut ∈ wsL_law := kc_42 _ (List.mem_of_getElem? (i := 8) rfl)
theorem k_993 : Cond.code yX1_layOut cX1_layOut 4 (some .int) ∈ wsL_law := kc_42 _ (List.mem_of_getElem? (i := 9) rfl)
theorem k_994 : Cond.methodLink RX1 35 yX1_isNumber ∈ wsL_law := kc_42 _ (List.mem_of_getElem? (i := 10) rfl)
theorem k_995 : Cond.instanceMethod yX1_isNumber ∈ wsL_law := kc_42 _ (List.mem_of_getElem? (i := 11) rfl)
theorem k_996 : Cond.selects RX1 yX1_isNumber yX1_isNumber ∈ wsL_law := kc_42 _ (List.mem_of_getElem? (i := 12) rfl)
theorem k_997 : Cond.code yX1_isNumber cX1_isNumber 2 (some .boolean) ∈ wsL_law := kc_42 _ (List.mem_of_getElem? (i := 13) rfl)
theorem k_1003 : Cond.instanceMethod yX8_cell ∈ wsL_law := kc_42 _ (List.mem_of_getElem? (i := 19) rfl)
theorem k_1004 : Cond.selects RX8 yX8_cell yX8_cell ∈ wsL_law := kc_42 _ (List.mem_of_getElem? (i := 20) rfl)
theorem k_1005 : Cond.code yX8_cell cX8_cell 4 (some .int) ∈ wsL_law := kc_42 _ (List.mem_of_getElem? (i := 21) rfl)
theorem k_1006 : Cond.methodLink RX8 278 yX1_fill ∈ wsL_law := kc_42 _ (List.mem_of_getElem? (i := 22) rfl)
theorem k_1007 : Cond.instanceMethod yX1_fill ∈ wsL_law := kc_42 _ (List.mem_of_getElem? (i := 23) rfl)
theorem k_1008 : Cond.selects RX1 yX1_fill yX1_fill ∈ wsL_law := kc_43 _ (List.mem_of_getElem? (i := 0) rfl)
theorem k_1009 : Cond.code yX1_fill cX1_fill 4 (some .int) ∈ wsL_law := kc_43 _ (List.mem_of_getElem? (i := 1) rfl)
theorem k_1010 : Cond.methodLink RX1 39 yX1_isItem ∈ wsL_law := kc_43 _ (List.mem_of_getElem? (i := 2) rfl)
theorem k_1011 : Cond.instanceMethod yX1_isItem ∈ wsL_law := kc_43 _ (List.mem_of_getElem? (i := 3) rfl)
theorem k_1012 : Cond.selects RX1 yX1_isItem yX1_isItem ∈ wsL_law := kc_43 _ (List.mem_of_getElem? (i := 4) rfl)
theorem k_1013 : Cond.code yX1_isItem cX1_isItem 3 (some .boolean) ∈ wsL_law := kc_43 _ (List.mem_of_getElem? (i := 5) rfl)
theorem k_1014 : Cond.methodLink RX1 43 yX1_cut ∈ wsL_law := kc_43 _ (List.mem_of_getElem? (i := 6) rfl)
theorem k_1015 : Cond.static yX1_cut ∈ wsL_law := kc_43 _ (List.mem_of_getElem? (i := 7) rfl)
theorem k_1016 : Cond.code yX1_cut cX1_cut 2 (some .int) ∈ wsL_law := kc_43 _ (List.mem_of_getElem? (i := 8) rfl)
theorem k_1022 : Cond.instanceMethod yX8_lay ∈ wsL_law := kc_43 _ (List.mem_of_getElem? (i := 14) rfl)
theorem k_1023 : Cond.selects RX8 yX8_lay yX8_lay ∈ wsL_law := kc_43 _ (List.mem_of_getElem? (i := 15) rfl)
theorem k_1024 : Cond.code yX8_lay cX8_lay 5 (some .int) ∈ wsL_law := kc_43 _ (List.mem_of_getElem? (i := 16) rfl)
theorem k_1025 : Cond.methodLink RX8 281 yX1_refusalOfThree ∈ wsL_law := kc_43 _ (List.mem_of_getElem? (i := 17) rfl)
theorem k_1026 : Cond.instanceMethod yX1_refusalOfThree ∈ wsL_law := kc_43 _ (List.mem_of_getElem? (i := 18) rfl)
theorem k_1027 : Cond.selects RX1 yX1_refusalOfThree yX1_refusalOfThree ∈ wsL_law := kc_43 _ (List.mem_of_getElem? (i := 19) rfl)
theorem k_1028 : Cond.code yX1_refusalOfThree cX1_refusalOfThree 4 (some .int) ∈ wsL_law := kc_43 _ (List.mem_of_getElem? (i := 20) rfl)
theorem k_1029 : Cond.methodLink RX8 284 yX1_item ∈ wsL_law := kc_43 _ (List.mem_of_getElem? (i := 21) rfl)
theorem k_1030 : Cond.instanceMethod yX1_item ∈ wsL_law := kc_43 _ (List.mem_of_getElem? (i := 22) rfl)
theorem k_1031 : Cond.selects RX1 yX1_item yX1_item ∈ wsL_law := kc_43 _ (List.mem_of_getElem? (i := 23) rfl)
theorem k_1032 : Cond.code yX1_item cX1_item 3 (some .int) ∈ wsL_law := kc_44 _ (List.mem_of_getElem? (i := 0) rfl)
theorem k_1033 : Cond.methodLink RX8 287 yX8_road ∈ wsL_law := kc_44 _ (List.mem_of_getElem? (i := 1) rfl)
theorem k_1040 : Cond.instanceMethod yX8_shelf ∈ wsL_law := kc_44 _ (List.mem_of_getElem? (i := 8) rfl)
theorem k_1041 : Cond.selects RX8 yX8_shelf yX8_shelf ∈ wsL_law := kc_44 _ (List.mem_of_getElem? (i := 9) rfl)
theorem k_1042 : Cond.code yX8_shelf cX8_shelf 5 (some .int) ∈ wsL_law := kc_44 _ (List.mem_of_getElem? (i := 10) rfl)
theorem k_1043 : Cond.methodLink RX8 290 yX1_isNumber ∈ wsL_law := kc_44 _ (List.mem_of_getElem? (i := 11) rfl)
theorem k_1044 : Cond.methodLink RX8 293 yX1_hold ∈ wsL_law := kc_44 _ (List.mem_of_getElem? (i := 12) rfl)
theorem k_1045 : Cond.instanceMethod yX1_hold ∈ wsL_law := kc_44 _ (List.mem_of_getElem? (i := 13) rfl)
theorem k_1046 : Cond.selects RX1 yX1_hold yX1_hold ∈ wsL_law := kc_44 _ (List.mem_of_getElem? (i := 14) rfl)
theorem k_1047 : Cond.code yX1_hold cX1_hold 4 (some .int) ∈ wsL_law := kc_44 _ (List.mem_of_getElem? (i := 15) rfl)
theorem k_1048 : Cond.methodLink RX8 296 yX1_holdSheet ∈ wsL_law := kc_44 _ (List.mem_of_getElem? (i := 16) rfl)
theorem k_1049 : Cond.instanceMethod yX1_holdSheet ∈ wsL_law := kc_44 _ (List.mem_of_getElem? (i := 17) rfl)
theorem k_1050 : Cond.selects RX1 yX1_holdSheet yX1_holdSheet ∈ wsL_law := kc_44 _ (List.mem_of_getElem? (i := 18) rfl)
theorem k_1051 : Cond.code yX1_holdSheet cX1_holdSheet 4 (some .int) ∈ wsL_law := kc_44 _ (List.mem_of_getElem? (i := 19) rfl)
theorem k_1052 : Cond.methodLink RX1 47 yX1_hold ∈ wsL_law := kc_44 _ (List.mem_of_getElem? (i := 20) rfl)
theorem k_1058 : Cond.instanceMethod yX8_taken ∈ wsL_law := kc_45 _ (List.mem_of_getElem? (i := 2) rfl)
theorem k_1059 : Cond.selects RX8 yX8_taken yX8_taken ∈ wsL_law := kc_45 _ (List.mem_of_getElem? (i := 3) rfl)
theorem k_1060 : Cond.code yX8_taken cX8_taken 3 (some .int) ∈ wsL_law := kc_45 _ (List.mem_of_getElem? (i := 4) rfl)
theorem k_1061 : Cond.methodLink RX8 299 yX1_heldFor ∈ wsL_law := kc_45 _ (List.mem_of_getElem? (i := 5) rfl)
theorem k_1062 : Cond.instanceMethod yX1_heldFor ∈ wsL_law := kc_45 _ (List.mem_of_getElem? (i := 6) rfl)
theorem k_1063 : Cond.selects RX1 yX1_heldFor yX1_heldFor ∈ wsL_law := kc_45 _ (List.mem_of_getElem? (i := 7) rfl)
theorem k_1064 : Cond.code yX1_heldFor cX1_heldFor 4 (some .int) ∈ wsL_law := kc_45 _ (List.mem_of_getElem? (i := 8) rfl)
theorem k_1065 : Cond.methodLink RX1 51 yX1_isOne ∈ wsL_law := kc_45 _ (List.mem_of_getElem? (i := 9) rfl)
theorem k_1066 : Cond.static yX1_isOne ∈ wsL_law := kc_45 _ (List.mem_of_getElem? (i := 10) rfl)
theorem k_1067 : Cond.code yX1_isOne cX1_isOne 4 (some .boolean) ∈ wsL_law := kc_45 _ (List.mem_of_getElem? (i := 11) rfl)
theorem k_1076 : Cond.instanceMethod yX8_act ∈ wsL_law := kc_45 _ (List.mem_of_getElem? (i := 20) rfl)
theorem k_1077 : Cond.selects RX8 yX8_act yX8_act ∈ wsL_law := kc_45 _ (List.mem_of_getElem? (i := 21) rfl)
theorem k_1078 : Cond.code yX8_act cX8_act 5 (some .int) ∈ wsL_law := kc_45 _ (List.mem_of_getElem? (i := 22) rfl)
theorem k_1079 : Cond.methodLink RX8 302 yX0_forget ∈ wsL_law := kc_45 _ (List.mem_of_getElem? (i := 23) rfl)
theorem k_1080 : Cond.instanceMethod yX0_forget ∈ wsL_law := kc_46 _ (List.mem_of_getElem? (i := 0) rfl)
theorem k_1081 : Cond.selects RX0 yX0_forget yX0_forget ∈ wsL_law := kc_46 _ (List.mem_of_getElem? (i := 1) rfl)
theorem k_1082 : Cond.code yX0_forget cX0_forget 1 none ∈ wsL_law := kc_46 _ (List.mem_of_getElem? (i := 2) rfl)
theorem k_1083 : Cond.fieldLink RX0 15 "WayBook$Acts" "ran" "I" ∈ wsL_law := kc_46 _ (List.mem_of_getElem? (i := 3) rfl)
theorem k_1084 : Cond.methodLink RX8 305 yX0_begin ∈ wsL_law := kc_46 _ (List.mem_of_getElem? (i := 4) rfl)
theorem k_1085 : Cond.instanceMethod yX0_begin ∈ wsL_law := kc_46 _ (List.mem_of_getElem? (i := 5) rfl)
theorem k_1086 : Cond.selects RX0 yX0_begin yX0_begin ∈ wsL_law := kc_46 _ (List.mem_of_getElem? (i := 6) rfl)
theorem k_1087 : Cond.code yX0_begin cX0_begin 5 (some .int) ∈ wsL_law := kc_46 _ (List.mem_of_getElem? (i := 7) rfl)
theorem k_1088 : Cond.fieldLink RX0 19 "WayBook$Acts" "kind" "I" ∈ wsL_law := kc_46 _ (List.mem_of_getElem? (i := 8) rfl)
theorem k_1089 : Cond.fieldLink RX0 22 "WayBook$Acts" "ways" "I" ∈ wsL_law := kc_46 _ (List.mem_of_getElem? (i := 9) rfl)
theorem k_1090 : Cond.methodLink RX0 25 yX0_run ∈ wsL_law := kc_46 _ (List.mem_of_getElem? (i := 10) rfl)
theorem k_1091 : Cond.instanceMethod yX0_run ∈ wsL_law := kc_46 _ (List.mem_of_getElem? (i := 11) rfl)
theorem k_1092 : Cond.selects RX0 yX0_run yX0_run ∈ wsL_law := kc_46 _ (List.mem_of_getElem? (i := 12) rfl)
theorem k_1093 : Cond.code yX0_run cX0_run 7 (some .int) ∈ wsL_law := kc_46 _ (List.mem_of_getElem? (i := 13) rfl)
theorem k_1094 : Cond.methodLink RX0 41 yX0_bodyOf ∈ wsL_law := kc_46 _ (List.mem_of_getElem? (i := 14) rfl)
theorem k_1095 : Cond.static yX0_bodyOf ∈ wsL_law := kc_46 _ (List.mem_of_getElem? (i := 15) rfl)
theorem k_1096 : Cond.code yX0_bodyOf cX0_bodyOf 2 (some .int) ∈ wsL_law := kc_46 _ (List.mem_of_getElem? (i := 16) rfl)
theorem k_1097 : Cond.fieldLink RX0 32 "WayBook$Acts" "FITTING" "[I" ∈ wsL_law := kc_46 _ (List.mem_of_getElem? (i := 17) rfl)
theorem k_1098 : Cond.fieldLink RX0 35 "WayBook$Acts" "JOINING" "[I" ∈ wsL_law := kc_46 _ (List.mem_of_getElem? (i := 18) rfl)
theorem k_1099 : Cond.fieldLink RX0 38 "WayBook$Acts" "WEIGHING" "[I" ∈ wsL_law := kc_46 _ (List.mem_of_getElem? (i := 19) rfl)
theorem k_1100 : Cond.methodLink RX0 45 yX0_note ∈ wsL_law := kc_46 _ (List.mem_of_getElem? (i := 20) rfl)
theorem k_1101 : Cond.instanceMethod yX0_note ∈ wsL_law := kc_46 _ (List.mem_of_getElem? (i := 21) rfl)
theorem k_1102 : Cond.selects RX0 yX0_note yX0_note ∈ wsL_law := kc_46 _ (List.mem_of_getElem? (i := 22) rfl)
theorem k_1103 : Cond.code yX0_note cX0_note 2 none ∈ wsL_law := kc_46 _ (List.mem_of_getElem? (i := 23) rfl)
theorem k_1135 : Cond.instanceMethod yX8_trace ∈ wsL_law := kc_48 _ (List.mem_of_getElem? (i := 7) rfl)
theorem k_1136 : Cond.selects RX8 yX8_trace yX8_trace ∈ wsL_law := kc_48 _ (List.mem_of_getElem? (i := 8) rfl)
theorem k_1137 : Cond.code yX8_trace cX8_trace 2 (some .int) ∈ wsL_law := kc_48 _ (List.mem_of_getElem? (i := 9) rfl)
theorem k_1138 : Cond.methodLink RX8 309 yX0_kept ∈ wsL_law := kc_48 _ (List.mem_of_getElem? (i := 10) rfl)
theorem k_1139 : Cond.instanceMethod yX0_kept ∈ wsL_law := kc_48 _ (List.mem_of_getElem? (i := 11) rfl)
theorem k_1140 : Cond.selects RX0 yX0_kept yX0_kept ∈ wsL_law := kc_48 _ (List.mem_of_getElem? (i := 12) rfl)
theorem k_1141 : Cond.code yX0_kept cX0_kept 2 (some .int) ∈ wsL_law := kc_48 _ (List.mem_of_getElem? (i := 13) rfl)
theorem k_1147 : Cond.instanceMethod yX8_there ∈ wsL_law := kc_48 _ (List.mem_of_getElem? (i := 19) rfl)
theorem k_1148 : Cond.selects RX8 yX8_there yX8_there ∈ wsL_law := kc_48 _ (List.mem_of_getElem? (i := 20) rfl)
theorem k_1149 : Cond.code yX8_there cX8_there 2 (some .int) ∈ wsL_law := kc_48 _ (List.mem_of_getElem? (i := 21) rfl)
theorem k_1150 : Cond.fieldLink RX8 312 "WayBook$Rows" "size" "I" ∈ wsL_law := kc_48 _ (List.mem_of_getElem? (i := 22) rfl)
theorem k_1151 : Cond.fieldLink RX8 314 "WayBook$Acts" "ran" "I" ∈ wsL_law := kc_48 _ (List.mem_of_getElem? (i := 23) rfl)
def dZ (τ : DS × (Nat → Int32)) (f : Nat) (v : Int32) : DS × (Nat → Int32) := (τ.1, fun j => if j = f then v else τ.2 j)
abbrev DZ : Type := DS × (Nat → Int32)
def d4 (q : Nat → Nat) (k : Nat) (f : Nat → Int32) : List Value := [.ref (q 1), .ref (q (47 + k)), .int (f 2), .int (f 3), .int (f 4), .int (f 5), .int (f 6), .int (f 7)]
abbrev swd (cy : Nat → ClassId) (q : Nat → Nat) (X : va_W) (z k : Nat) : DZ → va_W := fun τ => dwd cy q (X ++ [(z, .inr (4, d4 q k τ.2))]) τ.1
theorem sw_w {cy : Nat → ClassId} {q : Nat → Nat} {X : va_W} {z k : Nat} : ∀ x y : DZ, (swd cy q X z k x).map (·.1) = (swd cy q X z k y).map (·.1) := fun x y => by simp only [swd, dwd, dW, List.map_append, List.map_map]; rfl
theorem s_at {cy : Nat → ClassId} {q : Nat → Nat} {X : va_W} {z k : Nat} {τ : DZ} : (swd cy q X z k τ)[111 + X.length]? = some (z, .inr (4, d4 q k τ.2)) := by
  show (dW cy q τ.1 ++ (X ++ [(z, .inr (4, d4 q k τ.2))]))[111 + X.length]? = _
  rw [List.getElem?_append_right (by rw [dW_len]; omega), dW_len, List.getElem?_append_right (by omega), show 111 + X.length - 111 - X.length = 0 by omega]
  rfl
theorem s_set {cy : Nat → ClassId} {q : Nat → Nat} {X : va_W} {z k f : Nat} {v : Int32} {τ : DZ} (h : (d4 q k τ.2).set f (.int v) = d4 q k (dZ τ f v).2) : (swd cy q X z k τ).set (111 + X.length) (z, .inr (4, (d4 q k τ.2).set f (.int v))) = swd cy q X z k (dZ τ f v) := by
  show (dW cy q τ.1 ++ (X ++ [(z, (Sum.inr (4, d4 q k τ.2) : va_E))])).set (111 + X.length) _ = dW cy q τ.1 ++ (X ++ [(z, (Sum.inr (4, d4 q k (dZ τ f v).2) : va_E))])
  rw [List.set_append_right _ _ (by rw [dW_len]; omega), dW_len, List.set_append_right _ _ (by omega), show 111 + X.length - 111 - X.length = 0 by omega, h]
  rfl
theorem O8 {cy : Nat → ClassId} {q : Nat → Nat} : KO cy q 0 8 (d8 q) := ⟨by omega, fun _ _ _ => rfl⟩
theorem O2 {cy : Nat → ClassId} {q : Nat → Nat} : KO cy q 1 2 (d2 q) := ⟨by omega, fun _ _ _ => rfl⟩
theorem O5 {cy : Nat → ClassId} {q : Nat → Nat} : KO cy q 9 5 (fun _ => d5 q) := ⟨by omega, fun _ _ _ => rfl⟩
theorem O6 {cy : Nat → ClassId} {q : Nat → Nat} : KO cy q 14 6 (fun _ => d6 q) := ⟨by omega, fun _ _ _ => rfl⟩
theorem O1 {cy : Nat → ClassId} {q : Nat → Nat} : KO cy q 33 1 (fun _ => d1 q) := ⟨by omega, fun _ _ _ => rfl⟩
theorem O0 {cy : Nat → ClassId} {q : Nat → Nat} : KO cy q 45 0 (d0 q) := ⟨by omega, fun _ _ _ => rfl⟩
theorem Ka2 {cy : Nat → ClassId} {q : Nat → Nat} : KI cy q 2 8 := ⟨by omega, by omega, fun _ _ _ => rfl⟩
theorem Ka3 {cy : Nat → ClassId} {q : Nat → Nat} : KI cy q 3 12 := ⟨by omega, by omega, fun _ _ _ => rfl⟩
theorem Ka4 {cy : Nat → ClassId} {q : Nat → Nat} : KI cy q 4 12 := ⟨by omega, by omega, fun _ _ _ => rfl⟩
theorem Ka5 {cy : Nat → ClassId} {q : Nat → Nat} : KI cy q 5 12 := ⟨by omega, by omega, fun _ _ _ => rfl⟩
theorem Ka6 {cy : Nat → ClassId} {q : Nat → Nat} : KI cy q 6 12 := ⟨by omega, by omega, fun _ _ _ => rfl⟩
theorem Ka8 {cy : Nat → ClassId} {q : Nat → Nat} : KI cy q 8 4096 := ⟨by omega, by omega, fun _ _ _ => rfl⟩
theorem Ka10 {cy : Nat → ClassId} {q : Nat → Nat} : KI cy q 10 12 := ⟨by omega, by omega, fun _ _ _ => rfl⟩
theorem Ka11 {cy : Nat → ClassId} {q : Nat → Nat} : KI cy q 11 64 := ⟨by omega, by omega, fun _ _ _ => rfl⟩
theorem Ka12 {cy : Nat → ClassId} {q : Nat → Nat} : KI cy q 12 64 := ⟨by omega, by omega, fun _ _ _ => rfl⟩
theorem Ka13 {cy : Nat → ClassId} {q : Nat → Nat} : KI cy q 13 1201 := ⟨by omega, by omega, fun _ _ _ => rfl⟩
theorem Ka34 {cy : Nat → ClassId} {q : Nat → Nat} : KI cy q 34 6 := ⟨by omega, by omega, fun _ _ _ => rfl⟩
theorem Ka35 {cy : Nat → ClassId} {q : Nat → Nat} : KI cy q 35 6 := ⟨by omega, by omega, fun _ _ _ => rfl⟩
theorem Ka43 {cy : Nat → ClassId} {q : Nat → Nat} : KI cy q 43 6 := ⟨by omega, by omega, fun _ _ _ => rfl⟩
theorem Ka44 {cy : Nat → ClassId} {q : Nat → Nat} : KI cy q 44 6 := ⟨by omega, by omega, fun _ _ _ => rfl⟩
theorem Ka46 {cy : Nat → ClassId} {q : Nat → Nat} : KI cy q 46 40 := ⟨by omega, by omega, fun _ _ _ => rfl⟩
theorem Ka15 {cy : Nat → ClassId} {q : Nat → Nat} : KJ cy q 15 4096 := ⟨by omega, by omega, fun _ _ _ => rfl⟩
theorem Ka16 {cy : Nat → ClassId} {q : Nat → Nat} : KJ cy q 16 4096 := ⟨by omega, by omega, fun _ _ _ => rfl⟩
theorem K8m {cy : Nat → ClassId} {q : Nat → Nat} : KQ cy q 7 3 30 47 := ⟨by omega, fun _ _ _ => rfl⟩
theorem K1q {cy : Nat → ClassId} {q : Nat → Nat} : KQ cy q 36 4 6 37 := ⟨by omega, fun _ _ _ => rfl⟩
theorem O_at {cy : Nat → ClassId} {q : Nat → Nat} {X : va_W} {σ : DS} {c ci : Nat} {fl : (Nat → Int32) → List Value} (h : KO cy q c ci fl) : (dwd cy q X σ)[c]? = some (q c, .inr (ci, fl (σ.1 c))) := by rw [dW_at h.1, h.2]
theorem fit_b {v : Int32} (h : narrow .boolean (.int v) = .int v) : fits .boolean (.int v) = true := by
  have h2 : (v &&& 1) = v := Value.int.inj h
  have h3 : v = 0 ∨ v = 1 := by
    have h4 : v.toBitVec &&& 1#32 = v.toBitVec := congrArg Int32.toBitVec h2
    have h5 : v.toBitVec = 0#32 ∨ v.toBitVec = 1#32 := by
      have h6 : v.toBitVec.toNat % 2 = v.toBitVec.toNat := by
        have h7 := congrArg BitVec.toNat h4
        rw [BitVec.toNat_and] at h7
        rw [← Nat.and_one_is_mod]
        exact h7
      rcases (show v.toBitVec.toNat = 0 ∨ v.toBitVec.toNat = 1 by omega) with h | h
      · exact Or.inl (BitVec.eq_of_toNat_eq h)
      · exact Or.inr (BitVec.eq_of_toNat_eq h)
    rcases h5 with h | h
    · exact Or.inl (Int32.toBitVec_inj.mp h)
    · exact Or.inr (Int32.toBitVec_inj.mp h)
  rcases h3 with rfl | rfl <;> rfl
theorem vp_lt {i : Int32} {n : Nat} (h : vp_in i n) : i.toNatClampNeg < n := Nat.not_le.mp fun z => h (Or.inr z)
def bq {ρ : Type} (o : Option (Option Nat)) (A : Option ρ) (B : Nat → Option ρ) : Option ρ := match o with
  | none => none
  | some none => A
  | some (some k) => if k < 32 then B k else none
theorem bq_in {ρ : Type} {o : Option (Option Nat)} {A : Option ρ} {B : Nat → Option ρ} {r : ρ} (h : bq o A B = some r) : (o = some none ∧ A = some r) ∨ ∃ k, o = some (some k) ∧ k < 32 ∧ B k = some r := by
  match o, h with
  | none, h => cases h
  | some none, h => exact Or.inl ⟨rfl, h⟩
  | some (some k), h =>
    by_cases c : k < 32
    · exact Or.inr ⟨k, rfl, c, by have h2 : (if k < 32 then B k else none) = some r := h; rw [if_pos c] at h2; exact h2⟩
    · have h2 : (if k < 32 then B k else none) = some r := h
      rw [if_neg c] at h2; cases h2
def bqe {ρ : Type} (o : Option (Option Nat × DS)) (A : DS → Option ρ) (B : Nat → DS → Option ρ) : Option ρ := match o with
  | none => none
  | some (none, s) => A s
  | some (some k, s) => if k < 32 then B k s else none
theorem bqe_in {ρ : Type} {o : Option (Option Nat × DS)} {A : DS → Option ρ} {B : Nat → DS → Option ρ} {r : ρ} (h : bqe o A B = some r) : (∃ s, o = some (none, s) ∧ A s = some r) ∨ ∃ k s, o = some (some k, s) ∧ k < 32 ∧ B k s = some r := by
  match o, h with
  | none, h => cases h
  | some (none, s), h => exact Or.inl ⟨s, rfl, h⟩
  | some (some k, s), h =>
    by_cases c : k < 32
    · exact Or.inr ⟨k, s, rfl, c, by have h2 : (if k < 32 then B k s else none) = some r := h; rw [if_pos c] at h2; exact h2⟩
    · have h2 : (if k < 32 then B k s else none) = some r := h
      rw [if_neg c] at h2; cases h2
section DFLD
variable {p : Program} {l : Launch} {e : Env} {R : Room} {s : State} {m : MethodId} {args : Array Value} {below : List Frame} {meth : Method} {c : Code} {H : Heap} {locs : List Loc} {cells slots : Nat} {Q : State → Prop} {cc : ByteArray} {nL pc : Nat} {own : String} {ls : Array Slot} {rest : List Value} {D : va_G} {cy : Nat → ClassId} {ad : List Nat} {q : Nat → Nat} {X : va_W} {u : DS}
theorem D0g_0 {idx : Nat} (fx : FX p s m args meth c cc nL own D cy) (hC : GC D (dwd cy q X) ad s u H locs) (hlink : Cond.fieldLink own idx "WayBook$Acts" "ran" "I" ∈ wsL_law) (hdg : decode cc pc = .ok (.getfield idx, 3)) (kk : W p l e R s m args below meth c H locs cells slots Q (F0 m (pc + 3) ls (.int (u.1 45 0) :: rest))) : W p l e R s m args below meth c H locs cells slots Q (F0 m pc ls (.ref (q 45) :: rest)) :=
  Dget (C := RX0) (T := TX0) (N := 4) fx hC O0 inlX0 rfl 0 (by decide) hlink (fun _ h => h) rfl hdg kk
theorem D0p_0 {idx : Nat} {v : Int32} (fx : FX p s m args meth c cc nL own D cy) (hC : GC D (dwd cy q X) ad s u H locs) (hlink : Cond.fieldLink own idx "WayBook$Acts" "ran" "I" ∈ wsL_law) (hdg : decode cc pc = .ok (.putfield idx, 3)) (kk : ∀ (H1 : Heap) (locs1 : List Loc), GC D (dwd cy q X) ad s (dS u 45 0 v) H1 locs1 → W p l e R s m args below meth c H1 locs1 cells slots Q (F0 m (pc + 3) ls rest)) : W p l e R s m args below meth c H locs cells slots Q (F0 m pc ls (.int v :: .ref (q 45) :: rest)) :=
  Dput (C := RX0) (T := TX0) (N := 4) (ty := .int) fx hC O0 inlX0 rfl tyX0 tyX0_ok nmX0 0 (by decide) hlink (fun _ h => h) rfl (by decide +kernel) rfl rfl (Nat.le_of_ble_eq_true rfl) (by simp [d8, d2, d0, d3, d7, dS]) hdg kk
theorem D0g_1 {idx : Nat} (fx : FX p s m args meth c cc nL own D cy) (hC : GC D (dwd cy q X) ad s u H locs) (hlink : Cond.fieldLink own idx "WayBook$Acts" "bodies" "[I" ∈ wsL_law) (hdg : decode cc pc = .ok (.getfield idx, 3)) (kk : W p l e R s m args below meth c H locs cells slots Q (F0 m (pc + 3) ls (.ref (q 46) :: rest))) : W p l e R s m args below meth c H locs cells slots Q (F0 m pc ls (.ref (q 45) :: rest)) :=
  Dget (C := RX0) (T := TX0) (N := 4) fx hC O0 inlX0 rfl 1 (by decide) hlink (fun _ h => h) rfl hdg kk
theorem D0g_2 {idx : Nat} (fx : FX p s m args meth c cc nL own D cy) (hC : GC D (dwd cy q X) ad s u H locs) (hlink : Cond.fieldLink own idx "WayBook$Acts" "kind" "I" ∈ wsL_law) (hdg : decode cc pc = .ok (.getfield idx, 3)) (kk : W p l e R s m args below meth c H locs cells slots Q (F0 m (pc + 3) ls (.int (u.1 45 2) :: rest))) : W p l e R s m args below meth c H locs cells slots Q (F0 m pc ls (.ref (q 45) :: rest)) :=
  Dget (C := RX0) (T := TX0) (N := 4) fx hC O0 inlX0 rfl 2 (by decide) hlink (fun _ h => h) rfl hdg kk
theorem D0p_2 {idx : Nat} {v : Int32} (fx : FX p s m args meth c cc nL own D cy) (hC : GC D (dwd cy q X) ad s u H locs) (hlink : Cond.fieldLink own idx "WayBook$Acts" "kind" "I" ∈ wsL_law) (hdg : decode cc pc = .ok (.putfield idx, 3)) (kk : ∀ (H1 : Heap) (locs1 : List Loc), GC D (dwd cy q X) ad s (dS u 45 2 v) H1 locs1 → W p l e R s m args below meth c H1 locs1 cells slots Q (F0 m (pc + 3) ls rest)) : W p l e R s m args below meth c H locs cells slots Q (F0 m pc ls (.int v :: .ref (q 45) :: rest)) :=
  Dput (C := RX0) (T := TX0) (N := 4) (ty := .int) fx hC O0 inlX0 rfl tyX0 tyX0_ok nmX0 2 (by decide) hlink (fun _ h => h) rfl (by decide +kernel) rfl rfl (Nat.le_of_ble_eq_true rfl) (by simp [d8, d2, d0, d3, d7, dS]) hdg kk
theorem D0g_3 {idx : Nat} (fx : FX p s m args meth c cc nL own D cy) (hC : GC D (dwd cy q X) ad s u H locs) (hlink : Cond.fieldLink own idx "WayBook$Acts" "ways" "I" ∈ wsL_law) (hdg : decode cc pc = .ok (.getfield idx, 3)) (kk : W p l e R s m args below meth c H locs cells slots Q (F0 m (pc + 3) ls (.int (u.1 45 3) :: rest))) : W p l e R s m args below meth c H locs cells slots Q (F0 m pc ls (.ref (q 45) :: rest)) :=
  Dget (C := RX0) (T := TX0) (N := 4) fx hC O0 inlX0 rfl 3 (by decide) hlink (fun _ h => h) rfl hdg kk
theorem D0p_3 {idx : Nat} {v : Int32} (fx : FX p s m args meth c cc nL own D cy) (hC : GC D (dwd cy q X) ad s u H locs) (hlink : Cond.fieldLink own idx "WayBook$Acts" "ways" "I" ∈ wsL_law) (hdg : decode cc pc = .ok (.putfield idx, 3)) (kk : ∀ (H1 : Heap) (locs1 : List Loc), GC D (dwd cy q X) ad s (dS u 45 3 v) H1 locs1 → W p l e R s m args below meth c H1 locs1 cells slots Q (F0 m (pc + 3) ls rest)) : W p l e R s m args below meth c H locs cells slots Q (F0 m pc ls (.int v :: .ref (q 45) :: rest)) :=
  Dput (C := RX0) (T := TX0) (N := 4) (ty := .int) fx hC O0 inlX0 rfl tyX0 tyX0_ok nmX0 3 (by decide) hlink (fun _ h => h) rfl (by decide +kernel) rfl rfl (Nat.le_of_ble_eq_true rfl) (by simp [d8, d2, d0, d3, d7, dS]) hdg kk
theorem D1g_0 {idx : Nat} (fx : FX p s m args meth c cc nL own D cy) (hC : GC D (dwd cy q X) ad s u H locs) (hlink : Cond.fieldLink own idx "WayBook$Host" "sorts" "[I" ∈ wsL_law) (hdg : decode cc pc = .ok (.getfield idx, 3)) (kk : W p l e R s m args below meth c H locs cells slots Q (F0 m (pc + 3) ls (.ref (q 34) :: rest))) : W p l e R s m args below meth c H locs cells slots Q (F0 m pc ls (.ref (q 33) :: rest)) :=
  Dget (C := RX1) (T := TX1) (N := 5) fx hC O1 inlX1 rfl 0 (by decide) hlink (fun _ h => h) rfl hdg kk
theorem D1g_1 {idx : Nat} (fx : FX p s m args meth c cc nL own D cy) (hC : GC D (dwd cy q X) ad s u H locs) (hlink : Cond.fieldLink own idx "WayBook$Host" "lengths" "[I" ∈ wsL_law) (hdg : decode cc pc = .ok (.getfield idx, 3)) (kk : W p l e R s m args below meth c H locs cells slots Q (F0 m (pc + 3) ls (.ref (q 35) :: rest))) : W p l e R s m args below meth c H locs cells slots Q (F0 m pc ls (.ref (q 33) :: rest)) :=
  Dget (C := RX1) (T := TX1) (N := 5) fx hC O1 inlX1 rfl 1 (by decide) hlink (fun _ h => h) rfl hdg kk
theorem D1g_2 {idx : Nat} (fx : FX p s m args meth c cc nL own D cy) (hC : GC D (dwd cy q X) ad s u H locs) (hlink : Cond.fieldLink own idx "WayBook$Host" "items" "[[I" ∈ wsL_law) (hdg : decode cc pc = .ok (.getfield idx, 3)) (kk : W p l e R s m args below meth c H locs cells slots Q (F0 m (pc + 3) ls (.ref (q 36) :: rest))) : W p l e R s m args below meth c H locs cells slots Q (F0 m pc ls (.ref (q 33) :: rest)) :=
  Dget (C := RX1) (T := TX1) (N := 5) fx hC O1 inlX1 rfl 2 (by decide) hlink (fun _ h => h) rfl hdg kk
theorem D1g_3 {idx : Nat} (fx : FX p s m args meth c cc nL own D cy) (hC : GC D (dwd cy q X) ad s u H locs) (hlink : Cond.fieldLink own idx "WayBook$Host" "heldSorts" "[I" ∈ wsL_law) (hdg : decode cc pc = .ok (.getfield idx, 3)) (kk : W p l e R s m args below meth c H locs cells slots Q (F0 m (pc + 3) ls (.ref (q 43) :: rest))) : W p l e R s m args below meth c H locs cells slots Q (F0 m pc ls (.ref (q 33) :: rest)) :=
  Dget (C := RX1) (T := TX1) (N := 5) fx hC O1 inlX1 rfl 3 (by decide) hlink (fun _ h => h) rfl hdg kk
theorem D1g_4 {idx : Nat} (fx : FX p s m args meth c cc nL own D cy) (hC : GC D (dwd cy q X) ad s u H locs) (hlink : Cond.fieldLink own idx "WayBook$Host" "heldSizes" "[I" ∈ wsL_law) (hdg : decode cc pc = .ok (.getfield idx, 3)) (kk : W p l e R s m args below meth c H locs cells slots Q (F0 m (pc + 3) ls (.ref (q 44) :: rest))) : W p l e R s m args below meth c H locs cells slots Q (F0 m pc ls (.ref (q 33) :: rest)) :=
  Dget (C := RX1) (T := TX1) (N := 5) fx hC O1 inlX1 rfl 4 (by decide) hlink (fun _ h => h) rfl hdg kk
theorem D2g_0 {idx : Nat} (fx : FX p s m args meth c cc nL own D cy) (hC : GC D (dwd cy q X) ad s u H locs) (hlink : Cond.fieldLink own idx "WayBook$Net" "posts" "I" ∈ wsL_law) (hdg : decode cc pc = .ok (.getfield idx, 3)) (kk : W p l e R s m args below meth c H locs cells slots Q (F0 m (pc + 3) ls (.int (u.1 1 0) :: rest))) : W p l e R s m args below meth c H locs cells slots Q (F0 m pc ls (.ref (q 1) :: rest)) :=
  Dget (C := RX2) (T := TX2) (N := 7) fx hC O2 inlX2 rfl 0 (by decide) hlink (fun _ h => h) rfl hdg kk
theorem D2p_0 {idx : Nat} {v : Int32} (fx : FX p s m args meth c cc nL own D cy) (hC : GC D (dwd cy q X) ad s u H locs) (hlink : Cond.fieldLink own idx "WayBook$Net" "posts" "I" ∈ wsL_law) (hdg : decode cc pc = .ok (.putfield idx, 3)) (kk : ∀ (H1 : Heap) (locs1 : List Loc), GC D (dwd cy q X) ad s (dS u 1 0 v) H1 locs1 → W p l e R s m args below meth c H1 locs1 cells slots Q (F0 m (pc + 3) ls rest)) : W p l e R s m args below meth c H locs cells slots Q (F0 m pc ls (.int v :: .ref (q 1) :: rest)) :=
  Dput (C := RX2) (T := TX2) (N := 7) (ty := .int) fx hC O2 inlX2 rfl tyX2 tyX2_ok nmX2 0 (by decide) hlink (fun _ h => h) rfl (by decide +kernel) rfl rfl (Nat.le_of_ble_eq_true rfl) (by simp [d8, d2, d0, d3, d7, dS]) hdg kk
theorem D2g_1 {idx : Nat} (fx : FX p s m args meth c cc nL own D cy) (hC : GC D (dwd cy q X) ad s u H locs) (hlink : Cond.fieldLink own idx "WayBook$Net" "roads" "I" ∈ wsL_law) (hdg : decode cc pc = .ok (.getfield idx, 3)) (kk : W p l e R s m args below meth c H locs cells slots Q (F0 m (pc + 3) ls (.int (u.1 1 1) :: rest))) : W p l e R s m args below meth c H locs cells slots Q (F0 m pc ls (.ref (q 1) :: rest)) :=
  Dget (C := RX2) (T := TX2) (N := 7) fx hC O2 inlX2 rfl 1 (by decide) hlink (fun _ h => h) rfl hdg kk
theorem D2p_1 {idx : Nat} {v : Int32} (fx : FX p s m args meth c cc nL own D cy) (hC : GC D (dwd cy q X) ad s u H locs) (hlink : Cond.fieldLink own idx "WayBook$Net" "roads" "I" ∈ wsL_law) (hdg : decode cc pc = .ok (.putfield idx, 3)) (kk : ∀ (H1 : Heap) (locs1 : List Loc), GC D (dwd cy q X) ad s (dS u 1 1 v) H1 locs1 → W p l e R s m args below meth c H1 locs1 cells slots Q (F0 m (pc + 3) ls rest)) : W p l e R s m args below meth c H locs cells slots Q (F0 m pc ls (.int v :: .ref (q 1) :: rest)) :=
  Dput (C := RX2) (T := TX2) (N := 7) (ty := .int) fx hC O2 inlX2 rfl tyX2 tyX2_ok nmX2 1 (by decide) hlink (fun _ h => h) rfl (by decide +kernel) rfl rfl (Nat.le_of_ble_eq_true rfl) (by simp [d8, d2, d0, d3, d7, dS]) hdg kk
theorem D2g_2 {idx : Nat} (fx : FX p s m args meth c cc nL own D cy) (hC : GC D (dwd cy q X) ad s u H locs) (hlink : Cond.fieldLink own idx "WayBook$Net" "loads" "[I" ∈ wsL_law) (hdg : decode cc pc = .ok (.getfield idx, 3)) (kk : W p l e R s m args below meth c H locs cells slots Q (F0 m (pc + 3) ls (.ref (q 2) :: rest))) : W p l e R s m args below meth c H locs cells slots Q (F0 m pc ls (.ref (q 1) :: rest)) :=
  Dget (C := RX2) (T := TX2) (N := 7) fx hC O2 inlX2 rfl 2 (by decide) hlink (fun _ h => h) rfl hdg kk
theorem D2g_3 {idx : Nat} (fx : FX p s m args meth c cc nL own D cy) (hC : GC D (dwd cy q X) ad s u H locs) (hlink : Cond.fieldLink own idx "WayBook$Net" "lesser" "[I" ∈ wsL_law) (hdg : decode cc pc = .ok (.getfield idx, 3)) (kk : W p l e R s m args below meth c H locs cells slots Q (F0 m (pc + 3) ls (.ref (q 3) :: rest))) : W p l e R s m args below meth c H locs cells slots Q (F0 m pc ls (.ref (q 1) :: rest)) :=
  Dget (C := RX2) (T := TX2) (N := 7) fx hC O2 inlX2 rfl 3 (by decide) hlink (fun _ h => h) rfl hdg kk
theorem D2g_4 {idx : Nat} (fx : FX p s m args meth c cc nL own D cy) (hC : GC D (dwd cy q X) ad s u H locs) (hlink : Cond.fieldLink own idx "WayBook$Net" "greater" "[I" ∈ wsL_law) (hdg : decode cc pc = .ok (.getfield idx, 3)) (kk : W p l e R s m args below meth c H locs cells slots Q (F0 m (pc + 3) ls (.ref (q 4) :: rest))) : W p l e R s m args below meth c H locs cells slots Q (F0 m pc ls (.ref (q 1) :: rest)) :=
  Dget (C := RX2) (T := TX2) (N := 7) fx hC O2 inlX2 rfl 4 (by decide) hlink (fun _ h => h) rfl hdg kk
theorem D2g_5 {idx : Nat} (fx : FX p s m args meth c cc nL own D cy) (hC : GC D (dwd cy q X) ad s u H locs) (hlink : Cond.fieldLink own idx "WayBook$Net" "weights" "[I" ∈ wsL_law) (hdg : decode cc pc = .ok (.getfield idx, 3)) (kk : W p l e R s m args below meth c H locs cells slots Q (F0 m (pc + 3) ls (.ref (q 5) :: rest))) : W p l e R s m args below meth c H locs cells slots Q (F0 m pc ls (.ref (q 1) :: rest)) :=
  Dget (C := RX2) (T := TX2) (N := 7) fx hC O2 inlX2 rfl 5 (by decide) hlink (fun _ h => h) rfl hdg kk
theorem D2g_6 {idx : Nat} (fx : FX p s m args meth c cc nL own D cy) (hC : GC D (dwd cy q X) ad s u H locs) (hlink : Cond.fieldLink own idx "WayBook$Net" "eighths" "[I" ∈ wsL_law) (hdg : decode cc pc = .ok (.getfield idx, 3)) (kk : W p l e R s m args below meth c H locs cells slots Q (F0 m (pc + 3) ls (.ref (q 6) :: rest))) : W p l e R s m args below meth c H locs cells slots Q (F0 m pc ls (.ref (q 1) :: rest)) :=
  Dget (C := RX2) (T := TX2) (N := 7) fx hC O2 inlX2 rfl 6 (by decide) hlink (fun _ h => h) rfl hdg kk
theorem D3g_0 {b : Nat} (hb : b = 17 ∨ b = 25) {idx : Nat} (fx : FX p s m args meth c cc nL own D cy) (hC : GC D (dwd cy q X) ad s u H locs) (hlink : Cond.fieldLink own idx "WayBook$Rows" "size" "I" ∈ wsL_law) (hdg : decode cc pc = .ok (.getfield idx, 3)) (kk : W p l e R s m args below meth c H locs cells slots Q (F0 m (pc + 3) ls (.int (u.1 b 0) :: rest))) : W p l e R s m args below meth c H locs cells slots Q (F0 m pc ls (.ref (q b) :: rest)) :=
  Dget (C := RX3) (T := TX3) (N := 4) fx hC (K3 hb) inlX3 rfl 0 (by decide) hlink (fun _ h => h) rfl hdg kk
theorem D3p_0 {b : Nat} (hb : b = 17 ∨ b = 25) {idx : Nat} {v : Int32} (fx : FX p s m args meth c cc nL own D cy) (hC : GC D (dwd cy q X) ad s u H locs) (hlink : Cond.fieldLink own idx "WayBook$Rows" "size" "I" ∈ wsL_law) (hdg : decode cc pc = .ok (.putfield idx, 3)) (kk : ∀ (H1 : Heap) (locs1 : List Loc), GC D (dwd cy q X) ad s (dS u b 0 v) H1 locs1 → W p l e R s m args below meth c H1 locs1 cells slots Q (F0 m (pc + 3) ls rest)) : W p l e R s m args below meth c H locs cells slots Q (F0 m pc ls (.int v :: .ref (q b) :: rest)) :=
  Dput (C := RX3) (T := TX3) (N := 4) (ty := .int) fx hC (K3 hb) inlX3 rfl tyX3 tyX3_ok nmX3 0 (by decide) hlink (fun _ h => h) rfl (by decide +kernel) rfl rfl (Nat.le_of_ble_eq_true rfl) (by simp [d8, d2, d0, d3, d7, dS]) hdg kk
theorem D3g_1 {b : Nat} (hb : b = 17 ∨ b = 25) {idx : Nat} (fx : FX p s m args meth c cc nL own D cy) (hC : GC D (dwd cy q X) ad s u H locs) (hlink : Cond.fieldLink own idx "WayBook$Rows" "cells" "[[I" ∈ wsL_law) (hdg : decode cc pc = .ok (.getfield idx, 3)) (kk : W p l e R s m args below meth c H locs cells slots Q (F0 m (pc + 3) ls (.ref (q (b + 1)) :: rest))) : W p l e R s m args below meth c H locs cells slots Q (F0 m pc ls (.ref (q b) :: rest)) :=
  Dget (C := RX3) (T := TX3) (N := 4) fx hC (K3 hb) inlX3 rfl 1 (by decide) hlink (fun _ h => h) rfl hdg kk
theorem D3g_2 {b : Nat} (hb : b = 17 ∨ b = 25) {idx : Nat} (fx : FX p s m args meth c cc nL own D cy) (hC : GC D (dwd cy q X) ad s u H locs) (hlink : Cond.fieldLink own idx "WayBook$Rows" "latest" "[I" ∈ wsL_law) (hdg : decode cc pc = .ok (.getfield idx, 3)) (kk : W p l e R s m args below meth c H locs cells slots Q (F0 m (pc + 3) ls (.ref (q (b + 6)) :: rest))) : W p l e R s m args below meth c H locs cells slots Q (F0 m pc ls (.ref (q b) :: rest)) :=
  Dget (C := RX3) (T := TX3) (N := 4) fx hC (K3 hb) inlX3 rfl 2 (by decide) hlink (fun _ h => h) rfl hdg kk
theorem D3g_3 {b : Nat} (hb : b = 17 ∨ b = 25) {idx : Nat} (fx : FX p s m args meth c cc nL own D cy) (hC : GC D (dwd cy q X) ad s u H locs) (hlink : Cond.fieldLink own idx "WayBook$Rows" "before" "[I" ∈ wsL_law) (hdg : decode cc pc = .ok (.getfield idx, 3)) (kk : W p l e R s m args below meth c H locs cells slots Q (F0 m (pc + 3) ls (.ref (q (b + 7)) :: rest))) : W p l e R s m args below meth c H locs cells slots Q (F0 m pc ls (.ref (q b) :: rest)) :=
  Dget (C := RX3) (T := TX3) (N := 4) fx hC (K3 hb) inlX3 rfl 3 (by decide) hlink (fun _ h => h) rfl hdg kk
theorem D5g_0 {idx : Nat} (fx : FX p s m args meth c cc nL own D cy) (hC : GC D (dwd cy q X) ad s u H locs) (hlink : Cond.fieldLink own idx "WayBook$Sums" "adds" "[I" ∈ wsL_law) (hdg : decode cc pc = .ok (.getfield idx, 3)) (kk : W p l e R s m args below meth c H locs cells slots Q (F0 m (pc + 3) ls (.ref (q 10) :: rest))) : W p l e R s m args below meth c H locs cells slots Q (F0 m pc ls (.ref (q 9) :: rest)) :=
  Dget (C := RX5) (T := TX5) (N := 4) fx hC O5 inlX5 rfl 0 (by decide) hlink (fun _ h => h) rfl hdg kk
theorem D5g_1 {idx : Nat} (fx : FX p s m args meth c cc nL own D cy) (hC : GC D (dwd cy q X) ad s u H locs) (hlink : Cond.fieldLink own idx "WayBook$Sums" "lowSums" "[I" ∈ wsL_law) (hdg : decode cc pc = .ok (.getfield idx, 3)) (kk : W p l e R s m args below meth c H locs cells slots Q (F0 m (pc + 3) ls (.ref (q 11) :: rest))) : W p l e R s m args below meth c H locs cells slots Q (F0 m pc ls (.ref (q 9) :: rest)) :=
  Dget (C := RX5) (T := TX5) (N := 4) fx hC O5 inlX5 rfl 1 (by decide) hlink (fun _ h => h) rfl hdg kk
theorem D5g_2 {idx : Nat} (fx : FX p s m args meth c cc nL own D cy) (hC : GC D (dwd cy q X) ad s u H locs) (hlink : Cond.fieldLink own idx "WayBook$Sums" "highSums" "[I" ∈ wsL_law) (hdg : decode cc pc = .ok (.getfield idx, 3)) (kk : W p l e R s m args below meth c H locs cells slots Q (F0 m (pc + 3) ls (.ref (q 12) :: rest))) : W p l e R s m args below meth c H locs cells slots Q (F0 m pc ls (.ref (q 9) :: rest)) :=
  Dget (C := RX5) (T := TX5) (N := 4) fx hC O5 inlX5 rfl 2 (by decide) hlink (fun _ h => h) rfl hdg kk
theorem D5g_3 {idx : Nat} (fx : FX p s m args meth c cc nL own D cy) (hC : GC D (dwd cy q X) ad s u H locs) (hlink : Cond.fieldLink own idx "WayBook$Sums" "sizes" "[I" ∈ wsL_law) (hdg : decode cc pc = .ok (.getfield idx, 3)) (kk : W p l e R s m args below meth c H locs cells slots Q (F0 m (pc + 3) ls (.ref (q 13) :: rest))) : W p l e R s m args below meth c H locs cells slots Q (F0 m pc ls (.ref (q 9) :: rest)) :=
  Dget (C := RX5) (T := TX5) (N := 4) fx hC O5 inlX5 rfl 3 (by decide) hlink (fun _ h => h) rfl hdg kk
theorem D6g_0 {idx : Nat} (fx : FX p s m args meth c cc nL own D cy) (hC : GC D (dwd cy q X) ad s u H locs) (hlink : Cond.fieldLink own idx "WayBook$Tally" "mine" "[J" ∈ wsL_law) (hdg : decode cc pc = .ok (.getfield idx, 3)) (kk : W p l e R s m args below meth c H locs cells slots Q (F0 m (pc + 3) ls (.ref (q 15) :: rest))) : W p l e R s m args below meth c H locs cells slots Q (F0 m pc ls (.ref (q 14) :: rest)) :=
  Dget (C := RX6) (T := TX6) (N := 2) fx hC O6 inlX6 rfl 0 (by decide) hlink (fun _ h => h) rfl hdg kk
theorem D6g_1 {idx : Nat} (fx : FX p s m args meth c cc nL own D cy) (hC : GC D (dwd cy q X) ad s u H locs) (hlink : Cond.fieldLink own idx "WayBook$Tally" "yours" "[J" ∈ wsL_law) (hdg : decode cc pc = .ok (.getfield idx, 3)) (kk : W p l e R s m args below meth c H locs cells slots Q (F0 m (pc + 3) ls (.ref (q 16) :: rest))) : W p l e R s m args below meth c H locs cells slots Q (F0 m pc ls (.ref (q 14) :: rest)) :=
  Dget (C := RX6) (T := TX6) (N := 2) fx hC O6 inlX6 rfl 1 (by decide) hlink (fun _ h => h) rfl hdg kk
theorem D7g_0 {k : Nat} (hk : k < 32) {idx : Nat} (fx : FX p s m args meth c cc nL own D cy) (hC : GC D (dwd cy q X) ad s u H locs) (hlink : Cond.fieldLink own idx "WayBook$Ways" "kind" "I" ∈ wsL_law) (hdg : decode cc pc = .ok (.getfield idx, 3)) (kk : W p l e R s m args below meth c H locs cells slots Q (F0 m (pc + 3) ls (.int (u.1 (47 + k) 0) :: rest))) : W p l e R s m args below meth c H locs cells slots Q (F0 m pc ls (.ref (q (47 + k)) :: rest)) :=
  Dget (C := RX7) (T := TX7) (N := 2) fx hC (K7 hk) inlX7 rfl 0 (by decide) hlink (fun _ h => h) rfl hdg kk
theorem D7p_0 {k : Nat} (hk : k < 32) {idx : Nat} {v : Int32} (fx : FX p s m args meth c cc nL own D cy) (hC : GC D (dwd cy q X) ad s u H locs) (hlink : Cond.fieldLink own idx "WayBook$Ways" "kind" "I" ∈ wsL_law) (hdg : decode cc pc = .ok (.putfield idx, 3)) (kk : ∀ (H1 : Heap) (locs1 : List Loc), GC D (dwd cy q X) ad s (dS u (47 + k) 0 v) H1 locs1 → W p l e R s m args below meth c H1 locs1 cells slots Q (F0 m (pc + 3) ls rest)) : W p l e R s m args below meth c H locs cells slots Q (F0 m pc ls (.int v :: .ref (q (47 + k)) :: rest)) :=
  Dput (C := RX7) (T := TX7) (N := 2) (ty := .int) fx hC (K7 hk) inlX7 rfl tyX7 tyX7_ok nmX7 0 (by decide) hlink (fun _ h => h) rfl (by decide +kernel) rfl rfl (Nat.le_of_ble_eq_true rfl) (by simp [d8, d2, d0, d3, d7, dS]) hdg kk
theorem D7g_1 {k : Nat} (hk : k < 32) {idx : Nat} (fx : FX p s m args meth c cc nL own D cy) (hC : GC D (dwd cy q X) ad s u H locs) (hlink : Cond.fieldLink own idx "WayBook$Ways" "words" "[J" ∈ wsL_law) (hdg : decode cc pc = .ok (.getfield idx, 3)) (kk : W p l e R s m args below meth c H locs cells slots Q (F0 m (pc + 3) ls (.ref (q (79 + k)) :: rest))) : W p l e R s m args below meth c H locs cells slots Q (F0 m pc ls (.ref (q (47 + k)) :: rest)) :=
  Dget (C := RX7) (T := TX7) (N := 2) fx hC (K7 hk) inlX7 rfl 1 (by decide) hlink (fun _ h => h) rfl hdg kk
theorem D8g_0 {idx : Nat} (fx : FX p s m args meth c cc nL own D cy) (hC : GC D (dwd cy q X) ad s u H locs) (hlink : Cond.fieldLink own idx "WayBook" "net" "LWayBook$Net;" ∈ wsL_law) (hdg : decode cc pc = .ok (.getfield idx, 3)) (kk : W p l e R s m args below meth c H locs cells slots Q (F0 m (pc + 3) ls (.ref (q 1) :: rest))) : W p l e R s m args below meth c H locs cells slots Q (F0 m pc ls (.ref (q 0) :: rest)) :=
  Dget (C := RX8) (T := TX8) (N := 12) fx hC O8 inlX8 rfl 0 (by decide) hlink (fun _ h => h) rfl hdg kk
theorem D8g_1 {idx : Nat} (fx : FX p s m args meth c cc nL own D cy) (hC : GC D (dwd cy q X) ad s u H locs) (hlink : Cond.fieldLink own idx "WayBook" "made" "[LWayBook$Ways;" ∈ wsL_law) (hdg : decode cc pc = .ok (.getfield idx, 3)) (kk : W p l e R s m args below meth c H locs cells slots Q (F0 m (pc + 3) ls (.ref (q 7) :: rest))) : W p l e R s m args below meth c H locs cells slots Q (F0 m pc ls (.ref (q 0) :: rest)) :=
  Dget (C := RX8) (T := TX8) (N := 12) fx hC O8 inlX8 rfl 1 (by decide) hlink (fun _ h => h) rfl hdg kk
theorem D8g_2 {idx : Nat} (fx : FX p s m args meth c cc nL own D cy) (hC : GC D (dwd cy q X) ad s u H locs) (hlink : Cond.fieldLink own idx "WayBook" "families" "I" ∈ wsL_law) (hdg : decode cc pc = .ok (.getfield idx, 3)) (kk : W p l e R s m args below meth c H locs cells slots Q (F0 m (pc + 3) ls (.int (u.1 0 2) :: rest))) : W p l e R s m args below meth c H locs cells slots Q (F0 m pc ls (.ref (q 0) :: rest)) :=
  Dget (C := RX8) (T := TX8) (N := 12) fx hC O8 inlX8 rfl 2 (by decide) hlink (fun _ h => h) rfl hdg kk
theorem D8p_2 {idx : Nat} {v : Int32} (fx : FX p s m args meth c cc nL own D cy) (hC : GC D (dwd cy q X) ad s u H locs) (hlink : Cond.fieldLink own idx "WayBook" "families" "I" ∈ wsL_law) (hdg : decode cc pc = .ok (.putfield idx, 3)) (kk : ∀ (H1 : Heap) (locs1 : List Loc), GC D (dwd cy q X) ad s (dS u 0 2 v) H1 locs1 → W p l e R s m args below meth c H1 locs1 cells slots Q (F0 m (pc + 3) ls rest)) : W p l e R s m args below meth c H locs cells slots Q (F0 m pc ls (.int v :: .ref (q 0) :: rest)) :=
  Dput (C := RX8) (T := TX8) (N := 12) (ty := .int) fx hC O8 inlX8 rfl tyX8 tyX8_ok nmX8 2 (by decide) hlink (fun _ h => h) rfl (by decide +kernel) rfl rfl (Nat.le_of_ble_eq_true rfl) (by simp [d8, d2, d0, d3, d7, dS]) hdg kk
theorem D8g_3 {idx : Nat} (fx : FX p s m args meth c cc nL own D cy) (hC : GC D (dwd cy q X) ad s u H locs) (hlink : Cond.fieldLink own idx "WayBook" "spare" "LWayBook$Ways;" ∈ wsL_law) (hdg : decode cc pc = .ok (.getfield idx, 3)) (kk : W p l e R s m args below meth c H locs cells slots Q (F0 m (pc + 3) ls (.ref (q (47 + 30)) :: rest))) : W p l e R s m args below meth c H locs cells slots Q (F0 m pc ls (.ref (q 0) :: rest)) :=
  Dget (C := RX8) (T := TX8) (N := 12) fx hC O8 inlX8 rfl 3 (by decide) hlink (fun _ h => h) rfl hdg kk
theorem D8g_4 {idx : Nat} (fx : FX p s m args meth c cc nL own D cy) (hC : GC D (dwd cy q X) ad s u H locs) (hlink : Cond.fieldLink own idx "WayBook" "other" "LWayBook$Ways;" ∈ wsL_law) (hdg : decode cc pc = .ok (.getfield idx, 3)) (kk : W p l e R s m args below meth c H locs cells slots Q (F0 m (pc + 3) ls (.ref (q (47 + 31)) :: rest))) : W p l e R s m args below meth c H locs cells slots Q (F0 m pc ls (.ref (q 0) :: rest)) :=
  Dget (C := RX8) (T := TX8) (N := 12) fx hC O8 inlX8 rfl 4 (by decide) hlink (fun _ h => h) rfl hdg kk
theorem D8g_5 {idx : Nat} (fx : FX p s m args meth c cc nL own D cy) (hC : GC D (dwd cy q X) ad s u H locs) (hlink : Cond.fieldLink own idx "WayBook" "places" "[I" ∈ wsL_law) (hdg : decode cc pc = .ok (.getfield idx, 3)) (kk : W p l e R s m args below meth c H locs cells slots Q (F0 m (pc + 3) ls (.ref (q 8) :: rest))) : W p l e R s m args below meth c H locs cells slots Q (F0 m pc ls (.ref (q 0) :: rest)) :=
  Dget (C := RX8) (T := TX8) (N := 12) fx hC O8 inlX8 rfl 5 (by decide) hlink (fun _ h => h) rfl hdg kk
theorem D8g_6 {idx : Nat} (fx : FX p s m args meth c cc nL own D cy) (hC : GC D (dwd cy q X) ad s u H locs) (hlink : Cond.fieldLink own idx "WayBook" "sums" "LWayBook$Sums;" ∈ wsL_law) (hdg : decode cc pc = .ok (.getfield idx, 3)) (kk : W p l e R s m args below meth c H locs cells slots Q (F0 m (pc + 3) ls (.ref (q 9) :: rest))) : W p l e R s m args below meth c H locs cells slots Q (F0 m pc ls (.ref (q 0) :: rest)) :=
  Dget (C := RX8) (T := TX8) (N := 12) fx hC O8 inlX8 rfl 6 (by decide) hlink (fun _ h => h) rfl hdg kk
theorem D8g_7 {idx : Nat} (fx : FX p s m args meth c cc nL own D cy) (hC : GC D (dwd cy q X) ad s u H locs) (hlink : Cond.fieldLink own idx "WayBook" "tally" "LWayBook$Tally;" ∈ wsL_law) (hdg : decode cc pc = .ok (.getfield idx, 3)) (kk : W p l e R s m args below meth c H locs cells slots Q (F0 m (pc + 3) ls (.ref (q 14) :: rest))) : W p l e R s m args below meth c H locs cells slots Q (F0 m pc ls (.ref (q 0) :: rest)) :=
  Dget (C := RX8) (T := TX8) (N := 12) fx hC O8 inlX8 rfl 7 (by decide) hlink (fun _ h => h) rfl hdg kk
theorem D8g_8 {idx : Nat} (fx : FX p s m args meth c cc nL own D cy) (hC : GC D (dwd cy q X) ad s u H locs) (hlink : Cond.fieldLink own idx "WayBook" "written" "LWayBook$Rows;" ∈ wsL_law) (hdg : decode cc pc = .ok (.getfield idx, 3)) (kk : W p l e R s m args below meth c H locs cells slots Q (F0 m (pc + 3) ls (.ref (q 17) :: rest))) : W p l e R s m args below meth c H locs cells slots Q (F0 m pc ls (.ref (q 0) :: rest)) :=
  Dget (C := RX8) (T := TX8) (N := 12) fx hC O8 inlX8 rfl 8 (by decide) hlink (fun _ h => h) rfl hdg kk
theorem D8g_9 {idx : Nat} (fx : FX p s m args meth c cc nL own D cy) (hC : GC D (dwd cy q X) ad s u H locs) (hlink : Cond.fieldLink own idx "WayBook" "trial" "LWayBook$Rows;" ∈ wsL_law) (hdg : decode cc pc = .ok (.getfield idx, 3)) (kk : W p l e R s m args below meth c H locs cells slots Q (F0 m (pc + 3) ls (.ref (q 25) :: rest))) : W p l e R s m args below meth c H locs cells slots Q (F0 m pc ls (.ref (q 0) :: rest)) :=
  Dget (C := RX8) (T := TX8) (N := 12) fx hC O8 inlX8 rfl 9 (by decide) hlink (fun _ h => h) rfl hdg kk
theorem D8g_10 {idx : Nat} (fx : FX p s m args meth c cc nL own D cy) (hC : GC D (dwd cy q X) ad s u H locs) (hlink : Cond.fieldLink own idx "WayBook" "host" "LWayBook$Host;" ∈ wsL_law) (hdg : decode cc pc = .ok (.getfield idx, 3)) (kk : W p l e R s m args below meth c H locs cells slots Q (F0 m (pc + 3) ls (.ref (q 33) :: rest))) : W p l e R s m args below meth c H locs cells slots Q (F0 m pc ls (.ref (q 0) :: rest)) :=
  Dget (C := RX8) (T := TX8) (N := 12) fx hC O8 inlX8 rfl 10 (by decide) hlink (fun _ h => h) rfl hdg kk
theorem D8g_11 {idx : Nat} (fx : FX p s m args meth c cc nL own D cy) (hC : GC D (dwd cy q X) ad s u H locs) (hlink : Cond.fieldLink own idx "WayBook" "acts" "LWayBook$Acts;" ∈ wsL_law) (hdg : decode cc pc = .ok (.getfield idx, 3)) (kk : W p l e R s m args below meth c H locs cells slots Q (F0 m (pc + 3) ls (.ref (q 45) :: rest))) : W p l e R s m args below meth c H locs cells slots Q (F0 m pc ls (.ref (q 0) :: rest)) :=
  Dget (C := RX8) (T := TX8) (N := 12) fx hC O8 inlX8 rfl 11 (by decide) hlink (fun _ h => h) rfl hdg kk
theorem D4g_0 {z k : Nat} {τ : DZ} {idx : Nat} (fx : FX p s m args meth c cc nL RX4 D cy) (hC : GC D (swd cy q X z k) ad s τ H locs) (hlink : Cond.fieldLink RX4 idx "WayBook$Search" "net" "LWayBook$Net;" ∈ wsL_law) (hdg : decode cc pc = .ok (.getfield idx, 3)) (kk : W p l e R s m args below meth c H locs cells slots Q (F0 m (pc + 3) ls (.ref (q 1) :: rest))) : W p l e R s m args below meth c H locs cells slots Q (F0 m pc ls (.ref z :: rest)) :=
  va_get (ci := 4) (v := .ref (q 1)) (C := RX4) (T := TX4) (N := 8) fx.1 fx.2.1 fx.2.2.2.2.1 inlX4 fx.2.2.2.1 fx.2.2.2.2.2.1 hC.1 (111 + X.length) s_at rfl 0 (by decide) (fx.2.2.2.2.1 _ hlink) (fun _ h => h) rfl hdg kk
theorem D4g_1 {z k : Nat} {τ : DZ} {idx : Nat} (fx : FX p s m args meth c cc nL RX4 D cy) (hC : GC D (swd cy q X z k) ad s τ H locs) (hlink : Cond.fieldLink RX4 idx "WayBook$Search" "found" "LWayBook$Ways;" ∈ wsL_law) (hdg : decode cc pc = .ok (.getfield idx, 3)) (kk : W p l e R s m args below meth c H locs cells slots Q (F0 m (pc + 3) ls (.ref (q (47 + k)) :: rest))) : W p l e R s m args below meth c H locs cells slots Q (F0 m pc ls (.ref z :: rest)) :=
  va_get (ci := 4) (v := .ref (q (47 + k))) (C := RX4) (T := TX4) (N := 8) fx.1 fx.2.1 fx.2.2.2.2.1 inlX4 fx.2.2.2.1 fx.2.2.2.2.2.1 hC.1 (111 + X.length) s_at rfl 1 (by decide) (fx.2.2.2.2.1 _ hlink) (fun _ h => h) rfl hdg kk
theorem D4g_2 {z k : Nat} {τ : DZ} {idx : Nat} (fx : FX p s m args meth c cc nL RX4 D cy) (hC : GC D (swd cy q X z k) ad s τ H locs) (hlink : Cond.fieldLink RX4 idx "WayBook$Search" "goal" "I" ∈ wsL_law) (hdg : decode cc pc = .ok (.getfield idx, 3)) (kk : W p l e R s m args below meth c H locs cells slots Q (F0 m (pc + 3) ls (.int (τ.2 2) :: rest))) : W p l e R s m args below meth c H locs cells slots Q (F0 m pc ls (.ref z :: rest)) :=
  va_get (ci := 4) (v := .int (τ.2 2)) (C := RX4) (T := TX4) (N := 8) fx.1 fx.2.1 fx.2.2.2.2.1 inlX4 fx.2.2.2.1 fx.2.2.2.2.2.1 hC.1 (111 + X.length) s_at rfl 2 (by decide) (fx.2.2.2.2.1 _ hlink) (fun _ h => h) rfl hdg kk
theorem D4p_2 {z k : Nat} {τ : DZ} {idx : Nat} {v : Int32} (fx : FX p s m args meth c cc nL RX4 D cy) (hC : GC D (swd cy q X z k) ad s τ H locs) (hlink : Cond.fieldLink RX4 idx "WayBook$Search" "goal" "I" ∈ wsL_law) (hdg : decode cc pc = .ok (.putfield idx, 3)) (kk : ∀ (H1 : Heap) (locs1 : List Loc), GC D (swd cy q X z k) ad s (dZ τ 2 v) H1 locs1 → W p l e R s m args below meth c H1 locs1 cells slots Q (F0 m (pc + 3) ls rest)) : W p l e R s m args below meth c H locs cells slots Q (F0 m pc ls (.int v :: .ref z :: rest)) := by
  have e := s_set (cy := cy) (X := X) (z := z) (k := k) (q := q) (f := 2) (v := v) (τ := τ) rfl
  exact va_put (ci := 4) (v := .int v) (ty := .int) (C := RX4) (T := TX4) (N := 8) fx.1 fx.2.1 fx.2.2.2.2.1 inlX4 tyX4 tyX4_ok nmX4 fx.2.2.2.1 fx.2.2.2.2.2.1 hC.1 hC.2.1 hC.2.2 (111 + X.length) s_at rfl 2 (by decide) (fx.2.2.2.2.1 _ hlink) (fun _ h => h) rfl (by decide +kernel) rfl rfl (Nat.le_of_ble_eq_true rfl) hdg (fun H1 l1 h1 h2 h3 => kk H1 l1 ⟨e ▸ h1, e ▸ h2, h3⟩)
theorem D4g_3 {z k : Nat} {τ : DZ} {idx : Nat} (fx : FX p s m args meth c cc nL RX4 D cy) (hC : GC D (swd cy q X z k) ad s τ H locs) (hlink : Cond.fieldLink RX4 idx "WayBook$Search" "least" "I" ∈ wsL_law) (hdg : decode cc pc = .ok (.getfield idx, 3)) (kk : W p l e R s m args below meth c H locs cells slots Q (F0 m (pc + 3) ls (.int (τ.2 3) :: rest))) : W p l e R s m args below meth c H locs cells slots Q (F0 m pc ls (.ref z :: rest)) :=
  va_get (ci := 4) (v := .int (τ.2 3)) (C := RX4) (T := TX4) (N := 8) fx.1 fx.2.1 fx.2.2.2.2.1 inlX4 fx.2.2.2.1 fx.2.2.2.2.2.1 hC.1 (111 + X.length) s_at rfl 3 (by decide) (fx.2.2.2.2.1 _ hlink) (fun _ h => h) rfl hdg kk
theorem D4p_3 {z k : Nat} {τ : DZ} {idx : Nat} {v : Int32} (fx : FX p s m args meth c cc nL RX4 D cy) (hC : GC D (swd cy q X z k) ad s τ H locs) (hlink : Cond.fieldLink RX4 idx "WayBook$Search" "least" "I" ∈ wsL_law) (hdg : decode cc pc = .ok (.putfield idx, 3)) (kk : ∀ (H1 : Heap) (locs1 : List Loc), GC D (swd cy q X z k) ad s (dZ τ 3 v) H1 locs1 → W p l e R s m args below meth c H1 locs1 cells slots Q (F0 m (pc + 3) ls rest)) : W p l e R s m args below meth c H locs cells slots Q (F0 m pc ls (.int v :: .ref z :: rest)) := by
  have e := s_set (cy := cy) (X := X) (z := z) (k := k) (q := q) (f := 3) (v := v) (τ := τ) rfl
  exact va_put (ci := 4) (v := .int v) (ty := .int) (C := RX4) (T := TX4) (N := 8) fx.1 fx.2.1 fx.2.2.2.2.1 inlX4 tyX4 tyX4_ok nmX4 fx.2.2.2.1 fx.2.2.2.2.2.1 hC.1 hC.2.1 hC.2.2 (111 + X.length) s_at rfl 3 (by decide) (fx.2.2.2.2.1 _ hlink) (fun _ h => h) rfl (by decide +kernel) rfl rfl (Nat.le_of_ble_eq_true rfl) hdg (fun H1 l1 h1 h2 h3 => kk H1 l1 ⟨e ▸ h1, e ▸ h2, h3⟩)
theorem D4g_4 {z k : Nat} {τ : DZ} {idx : Nat} (fx : FX p s m args meth c cc nL RX4 D cy) (hC : GC D (swd cy q X z k) ad s τ H locs) (hlink : Cond.fieldLink RX4 idx "WayBook$Search" "wanted" "I" ∈ wsL_law) (hdg : decode cc pc = .ok (.getfield idx, 3)) (kk : W p l e R s m args below meth c H locs cells slots Q (F0 m (pc + 3) ls (.int (τ.2 4) :: rest))) : W p l e R s m args below meth c H locs cells slots Q (F0 m pc ls (.ref z :: rest)) :=
  va_get (ci := 4) (v := .int (τ.2 4)) (C := RX4) (T := TX4) (N := 8) fx.1 fx.2.1 fx.2.2.2.2.1 inlX4 fx.2.2.2.1 fx.2.2.2.2.2.1 hC.1 (111 + X.length) s_at rfl 4 (by decide) (fx.2.2.2.2.1 _ hlink) (fun _ h => h) rfl hdg kk
theorem D4p_4 {z k : Nat} {τ : DZ} {idx : Nat} {v : Int32} (fx : FX p s m args meth c cc nL RX4 D cy) (hC : GC D (swd cy q X z k) ad s τ H locs) (hlink : Cond.fieldLink RX4 idx "WayBook$Search" "wanted" "I" ∈ wsL_law) (hdg : decode cc pc = .ok (.putfield idx, 3)) (kk : ∀ (H1 : Heap) (locs1 : List Loc), GC D (swd cy q X z k) ad s (dZ τ 4 v) H1 locs1 → W p l e R s m args below meth c H1 locs1 cells slots Q (F0 m (pc + 3) ls rest)) : W p l e R s m args below meth c H locs cells slots Q (F0 m pc ls (.int v :: .ref z :: rest)) := by
  have e := s_set (cy := cy) (X := X) (z := z) (k := k) (q := q) (f := 4) (v := v) (τ := τ) rfl
  exact va_put (ci := 4) (v := .int v) (ty := .int) (C := RX4) (T := TX4) (N := 8) fx.1 fx.2.1 fx.2.2.2.2.1 inlX4 tyX4 tyX4_ok nmX4 fx.2.2.2.1 fx.2.2.2.2.2.1 hC.1 hC.2.1 hC.2.2 (111 + X.length) s_at rfl 4 (by decide) (fx.2.2.2.2.1 _ hlink) (fun _ h => h) rfl (by decide +kernel) rfl rfl (Nat.le_of_ble_eq_true rfl) hdg (fun H1 l1 h1 h2 h3 => kk H1 l1 ⟨e ▸ h1, e ▸ h2, h3⟩)
theorem D4g_5 {z k : Nat} {τ : DZ} {idx : Nat} (fx : FX p s m args meth c cc nL RX4 D cy) (hC : GC D (swd cy q X z k) ad s τ H locs) (hlink : Cond.fieldLink RX4 idx "WayBook$Search" "whole" "Z" ∈ wsL_law) (hdg : decode cc pc = .ok (.getfield idx, 3)) (kk : W p l e R s m args below meth c H locs cells slots Q (F0 m (pc + 3) ls (.int (τ.2 5) :: rest))) : W p l e R s m args below meth c H locs cells slots Q (F0 m pc ls (.ref z :: rest)) :=
  va_get (ci := 4) (v := .int (τ.2 5)) (C := RX4) (T := TX4) (N := 8) fx.1 fx.2.1 fx.2.2.2.2.1 inlX4 fx.2.2.2.1 fx.2.2.2.2.2.1 hC.1 (111 + X.length) s_at rfl 5 (by decide) (fx.2.2.2.2.1 _ hlink) (fun _ h => h) rfl hdg kk
theorem D4p_5 {z k : Nat} {τ : DZ} {idx : Nat} {v : Int32} (fx : FX p s m args meth c cc nL RX4 D cy) (hC : GC D (swd cy q X z k) ad s τ H locs) (hlink : Cond.fieldLink RX4 idx "WayBook$Search" "whole" "Z" ∈ wsL_law) (hn : narrow .boolean (.int v) = .int v) (hdg : decode cc pc = .ok (.putfield idx, 3)) (kk : ∀ (H1 : Heap) (locs1 : List Loc), GC D (swd cy q X z k) ad s (dZ τ 5 v) H1 locs1 → W p l e R s m args below meth c H1 locs1 cells slots Q (F0 m (pc + 3) ls rest)) : W p l e R s m args below meth c H locs cells slots Q (F0 m pc ls (.int v :: .ref z :: rest)) := by
  have e := s_set (cy := cy) (X := X) (z := z) (k := k) (q := q) (f := 5) (v := v) (τ := τ) rfl
  exact va_put (ci := 4) (v := .int v) (ty := .boolean) (C := RX4) (T := TX4) (N := 8) fx.1 fx.2.1 fx.2.2.2.2.1 inlX4 tyX4 tyX4_ok nmX4 fx.2.2.2.1 fx.2.2.2.2.2.1 hC.1 hC.2.1 hC.2.2 (111 + X.length) s_at rfl 5 (by decide) (fx.2.2.2.2.1 _ hlink) (fun _ h => h) rfl (by decide +kernel) hn (fit_b hn) (Nat.le_of_ble_eq_true rfl) hdg (fun H1 l1 h1 h2 h3 => kk H1 l1 ⟨e ▸ h1, e ▸ h2, h3⟩)
theorem D4g_6 {z k : Nat} {τ : DZ} {idx : Nat} (fx : FX p s m args meth c cc nL RX4 D cy) (hC : GC D (swd cy q X z k) ad s τ H locs) (hlink : Cond.fieldLink RX4 idx "WayBook$Search" "low" "I" ∈ wsL_law) (hdg : decode cc pc = .ok (.getfield idx, 3)) (kk : W p l e R s m args below meth c H locs cells slots Q (F0 m (pc + 3) ls (.int (τ.2 6) :: rest))) : W p l e R s m args below meth c H locs cells slots Q (F0 m pc ls (.ref z :: rest)) :=
  va_get (ci := 4) (v := .int (τ.2 6)) (C := RX4) (T := TX4) (N := 8) fx.1 fx.2.1 fx.2.2.2.2.1 inlX4 fx.2.2.2.1 fx.2.2.2.2.2.1 hC.1 (111 + X.length) s_at rfl 6 (by decide) (fx.2.2.2.2.1 _ hlink) (fun _ h => h) rfl hdg kk
theorem D4p_6 {z k : Nat} {τ : DZ} {idx : Nat} {v : Int32} (fx : FX p s m args meth c cc nL RX4 D cy) (hC : GC D (swd cy q X z k) ad s τ H locs) (hlink : Cond.fieldLink RX4 idx "WayBook$Search" "low" "I" ∈ wsL_law) (hdg : decode cc pc = .ok (.putfield idx, 3)) (kk : ∀ (H1 : Heap) (locs1 : List Loc), GC D (swd cy q X z k) ad s (dZ τ 6 v) H1 locs1 → W p l e R s m args below meth c H1 locs1 cells slots Q (F0 m (pc + 3) ls rest)) : W p l e R s m args below meth c H locs cells slots Q (F0 m pc ls (.int v :: .ref z :: rest)) := by
  have e := s_set (cy := cy) (X := X) (z := z) (k := k) (q := q) (f := 6) (v := v) (τ := τ) rfl
  exact va_put (ci := 4) (v := .int v) (ty := .int) (C := RX4) (T := TX4) (N := 8) fx.1 fx.2.1 fx.2.2.2.2.1 inlX4 tyX4 tyX4_ok nmX4 fx.2.2.2.1 fx.2.2.2.2.2.1 hC.1 hC.2.1 hC.2.2 (111 + X.length) s_at rfl 6 (by decide) (fx.2.2.2.2.1 _ hlink) (fun _ h => h) rfl (by decide +kernel) rfl rfl (Nat.le_of_ble_eq_true rfl) hdg (fun H1 l1 h1 h2 h3 => kk H1 l1 ⟨e ▸ h1, e ▸ h2, h3⟩)
theorem D4g_7 {z k : Nat} {τ : DZ} {idx : Nat} (fx : FX p s m args meth c cc nL RX4 D cy) (hC : GC D (swd cy q X z k) ad s τ H locs) (hlink : Cond.fieldLink RX4 idx "WayBook$Search" "high" "I" ∈ wsL_law) (hdg : decode cc pc = .ok (.getfield idx, 3)) (kk : W p l e R s m args below meth c H locs cells slots Q (F0 m (pc + 3) ls (.int (τ.2 7) :: rest))) : W p l e R s m args below meth c H locs cells slots Q (F0 m pc ls (.ref z :: rest)) :=
  va_get (ci := 4) (v := .int (τ.2 7)) (C := RX4) (T := TX4) (N := 8) fx.1 fx.2.1 fx.2.2.2.2.1 inlX4 fx.2.2.2.1 fx.2.2.2.2.2.1 hC.1 (111 + X.length) s_at rfl 7 (by decide) (fx.2.2.2.2.1 _ hlink) (fun _ h => h) rfl hdg kk
theorem D4p_7 {z k : Nat} {τ : DZ} {idx : Nat} {v : Int32} (fx : FX p s m args meth c cc nL RX4 D cy) (hC : GC D (swd cy q X z k) ad s τ H locs) (hlink : Cond.fieldLink RX4 idx "WayBook$Search" "high" "I" ∈ wsL_law) (hdg : decode cc pc = .ok (.putfield idx, 3)) (kk : ∀ (H1 : Heap) (locs1 : List Loc), GC D (swd cy q X z k) ad s (dZ τ 7 v) H1 locs1 → W p l e R s m args below meth c H1 locs1 cells slots Q (F0 m (pc + 3) ls rest)) : W p l e R s m args below meth c H locs cells slots Q (F0 m pc ls (.int v :: .ref z :: rest)) := by
  have e := s_set (cy := cy) (X := X) (z := z) (k := k) (q := q) (f := 7) (v := v) (τ := τ) rfl
  exact va_put (ci := 4) (v := .int v) (ty := .int) (C := RX4) (T := TX4) (N := 8) fx.1 fx.2.1 fx.2.2.2.2.1 inlX4 tyX4 tyX4_ok nmX4 fx.2.2.2.1 fx.2.2.2.2.2.1 hC.1 hC.2.1 hC.2.2 (111 + X.length) s_at rfl 7 (by decide) (fx.2.2.2.2.1 _ hlink) (fun _ h => h) rfl (by decide +kernel) rfl rfl (Nat.le_of_ble_eq_true rfl) hdg (fun H1 l1 h1 h2 h3 => kk H1 l1 ⟨e ▸ h1, e ▸ h2, h3⟩)
end DFLD
section DCALL
variable {p : Program} {l : Launch} {e : Env} {R : Room} {s : State} {m : MethodId} {args : Array Value} {below : List Frame} {meth : Method} {c : Code} {H : Heap} {locs : List Loc} {cells slots : Nat} {Q : State → Prop}
variable {cc : ByteArray} {nL pc : Nat} {own : String} {ls : Array Slot} {rest st0 : List Value} {D : va_G} {cy : Nat → ClassId} {σ : Type} {wd : σ → va_W} {ad : List Nat} {τ τ' : σ}
theorem d_callVi {y : MethodName} {b : ByteArray} {n n' : Nat} {ret : Option FieldType} {rm : Room} {C : String} {idx : Nat} {As : List Value} {a k0 ci : Nat} {fs : List Value} {qc : vw_C} {r : Int32} (fx : FX p s m args meth c cc nL own D cy) (sx : SX ad s) (hC : GC D wd ad s τ H locs) (hw : ∀ x y : σ, (wd x).map (·.1) = (wd y).map (·.1)) (hM : DM l y b n ret rm D cy wd ad (.ref a :: As) τ (some (.int r)) τ') (h1 : Cond.methodLink own idx y ∈ wsL_law) (h2 : Cond.instanceMethod y ∈ wsL_law ∧ Cond.selects C y y ∈ wsL_law ∧ Cond.initialized C ∈ wsL_law ∧ Cond.code y b n ret ∈ wsL_law) (hd : y.cls = C ∧ y.cls ≠ "java/lang/invoke/MethodHandle" ∧ y.cls ≠ "java/lang/invoke/VarHandle" ∧ (parseMethodDescriptor y.desc).map (fun d => d.parameters.length) = some n') (hci : vwCl[ci]? = some qc) (hqc : qc.1 = C) (he : (wd τ)[k0]? = some (a, .inr (ci, fs))) (hr0 : rm.cells = 0 ∧ rm.slots = 0) (hR : rm.frames + 1 ≤ R.frames ∧ 8 + (n + 11) + rm.locals ≤ R.locals) (hf : cells ≤ R.cells ∧ slots ≤ R.slots) (hn : As.length = n') (hl : ls.size = nL) (hst : st0 = As.reverse ++ .ref a :: rest) (hrest : (rest.map fun v => v.category).sum ≤ 8) (hdg : decode cc pc = .ok (.invokevirtual idx, 3)) (kk : ∀ (H1 : Heap) (locs1 : List Loc), GC D wd ad s τ' H1 locs1 → W p l e R s m args below meth c H1 locs1 cells slots Q (F0 m (pc + 3) ls (.int r :: rest))) : W p l e R s m args below meth c H locs cells slots Q (F0 m pc ls st0) :=
  d_callV fx sx hC hw hM h1 h2 hd hci hqc he hr0 hR hf hn hl hst hrest hdg kk
theorem d_callVl {y : MethodName} {b : ByteArray} {n n' : Nat} {ret : Option FieldType} {rm : Room} {C : String} {idx : Nat} {As : List Value} {a k0 ci : Nat} {fs : List Value} {qc : vw_C} {r : Int64} (fx : FX p s m args meth c cc nL own D cy) (sx : SX ad s) (hC : GC D wd ad s τ H locs) (hw : ∀ x y : σ, (wd x).map (·.1) = (wd y).map (·.1)) (hM : DM l y b n ret rm D cy wd ad (.ref a :: As) τ (some (.long r)) τ') (h1 : Cond.methodLink own idx y ∈ wsL_law) (h2 : Cond.instanceMethod y ∈ wsL_law ∧ Cond.selects C y y ∈ wsL_law ∧ Cond.initialized C ∈ wsL_law ∧ Cond.code y b n ret ∈ wsL_law) (hd : y.cls = C ∧ y.cls ≠ "java/lang/invoke/MethodHandle" ∧ y.cls ≠ "java/lang/invoke/VarHandle" ∧ (parseMethodDescriptor y.desc).map (fun d => d.parameters.length) = some n') (hci : vwCl[ci]? = some qc) (hqc : qc.1 = C) (he : (wd τ)[k0]? = some (a, .inr (ci, fs))) (hr0 : rm.cells = 0 ∧ rm.slots = 0) (hR : rm.frames + 1 ≤ R.frames ∧ 8 + (n + 11) + rm.locals ≤ R.locals) (hf : cells ≤ R.cells ∧ slots ≤ R.slots) (hn : As.length = n') (hl : ls.size = nL) (hst : st0 = As.reverse ++ .ref a :: rest) (hrest : (rest.map fun v => v.category).sum ≤ 8) (hdg : decode cc pc = .ok (.invokevirtual idx, 3)) (kk : ∀ (H1 : Heap) (locs1 : List Loc), GC D wd ad s τ' H1 locs1 → W p l e R s m args below meth c H1 locs1 cells slots Q (F0 m (pc + 3) ls (.long r :: rest))) : W p l e R s m args below meth c H locs cells slots Q (F0 m pc ls st0) :=
  d_callV fx sx hC hw hM h1 h2 hd hci hqc he hr0 hR hf hn hl hst hrest hdg kk
theorem d_callVv {y : MethodName} {b : ByteArray} {n n' : Nat} {ret : Option FieldType} {rm : Room} {C : String} {idx : Nat} {As : List Value} {a k0 ci : Nat} {fs : List Value} {qc : vw_C} (fx : FX p s m args meth c cc nL own D cy) (sx : SX ad s) (hC : GC D wd ad s τ H locs) (hw : ∀ x y : σ, (wd x).map (·.1) = (wd y).map (·.1)) (hM : DM l y b n ret rm D cy wd ad (.ref a :: As) τ none τ') (h1 : Cond.methodLink own idx y ∈ wsL_law) (h2 : Cond.instanceMethod y ∈ wsL_law ∧ Cond.selects C y y ∈ wsL_law ∧ Cond.initialized C ∈ wsL_law ∧ Cond.code y b n ret ∈ wsL_law) (hd : y.cls = C ∧ y.cls ≠ "java/lang/invoke/MethodHandle" ∧ y.cls ≠ "java/lang/invoke/VarHandle" ∧ (parseMethodDescriptor y.desc).map (fun d => d.parameters.length) = some n') (hci : vwCl[ci]? = some qc) (hqc : qc.1 = C) (he : (wd τ)[k0]? = some (a, .inr (ci, fs))) (hr0 : rm.cells = 0 ∧ rm.slots = 0) (hR : rm.frames + 1 ≤ R.frames ∧ 8 + (n + 11) + rm.locals ≤ R.locals) (hf : cells ≤ R.cells ∧ slots ≤ R.slots) (hn : As.length = n') (hl : ls.size = nL) (hst : st0 = As.reverse ++ .ref a :: rest) (hrest : (rest.map fun v => v.category).sum ≤ 8) (hdg : decode cc pc = .ok (.invokevirtual idx, 3)) (kk : ∀ (H1 : Heap) (locs1 : List Loc), GC D wd ad s τ' H1 locs1 → W p l e R s m args below meth c H1 locs1 cells slots Q (F0 m (pc + 3) ls (rest))) : W p l e R s m args below meth c H locs cells slots Q (F0 m pc ls st0) :=
  d_callV fx sx hC hw hM h1 h2 hd hci hqc he hr0 hR hf hn hl hst hrest hdg kk
theorem d_callVn {y : MethodName} {b : ByteArray} {n n' : Nat} {ret : Option FieldType} {rm : Room} {C : String} {idx : Nat} {As : List Value} {a k0 ci : Nat} {fs : List Value} {qc : vw_C} (fx : FX p s m args meth c cc nL own D cy) (sx : SX ad s) (hC : GC D wd ad s τ H locs) (hw : ∀ x y : σ, (wd x).map (·.1) = (wd y).map (·.1)) (hM : DM l y b n ret rm D cy wd ad (.ref a :: As) τ (some .null) τ') (h1 : Cond.methodLink own idx y ∈ wsL_law) (h2 : Cond.instanceMethod y ∈ wsL_law ∧ Cond.selects C y y ∈ wsL_law ∧ Cond.initialized C ∈ wsL_law ∧ Cond.code y b n ret ∈ wsL_law) (hd : y.cls = C ∧ y.cls ≠ "java/lang/invoke/MethodHandle" ∧ y.cls ≠ "java/lang/invoke/VarHandle" ∧ (parseMethodDescriptor y.desc).map (fun d => d.parameters.length) = some n') (hci : vwCl[ci]? = some qc) (hqc : qc.1 = C) (he : (wd τ)[k0]? = some (a, .inr (ci, fs))) (hr0 : rm.cells = 0 ∧ rm.slots = 0) (hR : rm.frames + 1 ≤ R.frames ∧ 8 + (n + 11) + rm.locals ≤ R.locals) (hf : cells ≤ R.cells ∧ slots ≤ R.slots) (hn : As.length = n') (hl : ls.size = nL) (hst : st0 = As.reverse ++ .ref a :: rest) (hrest : (rest.map fun v => v.category).sum ≤ 8) (hdg : decode cc pc = .ok (.invokevirtual idx, 3)) (kk : ∀ (H1 : Heap) (locs1 : List Loc), GC D wd ad s τ' H1 locs1 → W p l e R s m args below meth c H1 locs1 cells slots Q (F0 m (pc + 3) ls (.null :: rest))) : W p l e R s m args below meth c H locs cells slots Q (F0 m pc ls st0) :=
  d_callV fx sx hC hw hM h1 h2 hd hci hqc he hr0 hR hf hn hl hst hrest hdg kk
theorem d_callVr {y : MethodName} {b : ByteArray} {n n' : Nat} {ret : Option FieldType} {rm : Room} {C : String} {idx : Nat} {As : List Value} {a k0 ci : Nat} {fs : List Value} {qc : vw_C} {r : Nat} (fx : FX p s m args meth c cc nL own D cy) (sx : SX ad s) (hC : GC D wd ad s τ H locs) (hw : ∀ x y : σ, (wd x).map (·.1) = (wd y).map (·.1)) (hM : DM l y b n ret rm D cy wd ad (.ref a :: As) τ (some (.ref r)) τ') (h1 : Cond.methodLink own idx y ∈ wsL_law) (h2 : Cond.instanceMethod y ∈ wsL_law ∧ Cond.selects C y y ∈ wsL_law ∧ Cond.initialized C ∈ wsL_law ∧ Cond.code y b n ret ∈ wsL_law) (hd : y.cls = C ∧ y.cls ≠ "java/lang/invoke/MethodHandle" ∧ y.cls ≠ "java/lang/invoke/VarHandle" ∧ (parseMethodDescriptor y.desc).map (fun d => d.parameters.length) = some n') (hci : vwCl[ci]? = some qc) (hqc : qc.1 = C) (he : (wd τ)[k0]? = some (a, .inr (ci, fs))) (hr0 : rm.cells = 0 ∧ rm.slots = 0) (hR : rm.frames + 1 ≤ R.frames ∧ 8 + (n + 11) + rm.locals ≤ R.locals) (hf : cells ≤ R.cells ∧ slots ≤ R.slots) (hn : As.length = n') (hl : ls.size = nL) (hst : st0 = As.reverse ++ .ref a :: rest) (hrest : (rest.map fun v => v.category).sum ≤ 8) (hdg : decode cc pc = .ok (.invokevirtual idx, 3)) (kk : ∀ (H1 : Heap) (locs1 : List Loc), GC D wd ad s τ' H1 locs1 → W p l e R s m args below meth c H1 locs1 cells slots Q (F0 m (pc + 3) ls (.ref r :: rest))) : W p l e R s m args below meth c H locs cells slots Q (F0 m pc ls st0) :=
  d_callV fx sx hC hw hM h1 h2 hd hci hqc he hr0 hR hf hn hl hst hrest hdg kk
theorem d_callSi {y : MethodName} {b : ByteArray} {n n' : Nat} {ret : Option FieldType} {rm : Room} {idx : Nat} {As : List Value} {r : Int32} (fx : FX p s m args meth c cc nL own D cy) (sx : SX ad s) (hC : GC D wd ad s τ H locs) (hw : ∀ x y : σ, (wd x).map (·.1) = (wd y).map (·.1)) (hM : DM l y b n ret rm D cy wd ad As τ (some (.int r)) τ') (h1 : Cond.methodLink own idx y ∈ wsL_law) (h2 : Cond.static y ∈ wsL_law ∧ Cond.initialized y.cls ∈ wsL_law ∧ Cond.code y b n ret ∈ wsL_law) (hd : y.cls ≠ "java/lang/invoke/MethodHandle" ∧ y.cls ≠ "java/lang/invoke/VarHandle" ∧ (parseMethodDescriptor y.desc).map (fun d => d.parameters.length) = some n') (hr0 : rm.cells = 0 ∧ rm.slots = 0) (hR : rm.frames + 1 ≤ R.frames ∧ 8 + (n + 11) + rm.locals ≤ R.locals) (hf : cells ≤ R.cells ∧ slots ≤ R.slots) (hn : As.length = n') (hl : ls.size = nL) (hst : st0 = As.reverse ++ rest) (hrest : (rest.map fun v => v.category).sum ≤ 8) (hdg : decode cc pc = .ok (.invokestatic idx, 3)) (kk : ∀ (H1 : Heap) (locs1 : List Loc), GC D wd ad s τ' H1 locs1 → W p l e R s m args below meth c H1 locs1 cells slots Q (F0 m (pc + 3) ls (.int r :: rest))) : W p l e R s m args below meth c H locs cells slots Q (F0 m pc ls st0) :=
  d_callS fx sx hC hw hM h1 h2 hd hr0 hR hf hn hl hst hrest hdg kk
theorem d_callSl {y : MethodName} {b : ByteArray} {n n' : Nat} {ret : Option FieldType} {rm : Room} {idx : Nat} {As : List Value} {r : Int64} (fx : FX p s m args meth c cc nL own D cy) (sx : SX ad s) (hC : GC D wd ad s τ H locs) (hw : ∀ x y : σ, (wd x).map (·.1) = (wd y).map (·.1)) (hM : DM l y b n ret rm D cy wd ad As τ (some (.long r)) τ') (h1 : Cond.methodLink own idx y ∈ wsL_law) (h2 : Cond.static y ∈ wsL_law ∧ Cond.initialized y.cls ∈ wsL_law ∧ Cond.code y b n ret ∈ wsL_law) (hd : y.cls ≠ "java/lang/invoke/MethodHandle" ∧ y.cls ≠ "java/lang/invoke/VarHandle" ∧ (parseMethodDescriptor y.desc).map (fun d => d.parameters.length) = some n') (hr0 : rm.cells = 0 ∧ rm.slots = 0) (hR : rm.frames + 1 ≤ R.frames ∧ 8 + (n + 11) + rm.locals ≤ R.locals) (hf : cells ≤ R.cells ∧ slots ≤ R.slots) (hn : As.length = n') (hl : ls.size = nL) (hst : st0 = As.reverse ++ rest) (hrest : (rest.map fun v => v.category).sum ≤ 8) (hdg : decode cc pc = .ok (.invokestatic idx, 3)) (kk : ∀ (H1 : Heap) (locs1 : List Loc), GC D wd ad s τ' H1 locs1 → W p l e R s m args below meth c H1 locs1 cells slots Q (F0 m (pc + 3) ls (.long r :: rest))) : W p l e R s m args below meth c H locs cells slots Q (F0 m pc ls st0) :=
  d_callS fx sx hC hw hM h1 h2 hd hr0 hR hf hn hl hst hrest hdg kk
theorem d_callSv {y : MethodName} {b : ByteArray} {n n' : Nat} {ret : Option FieldType} {rm : Room} {idx : Nat} {As : List Value} (fx : FX p s m args meth c cc nL own D cy) (sx : SX ad s) (hC : GC D wd ad s τ H locs) (hw : ∀ x y : σ, (wd x).map (·.1) = (wd y).map (·.1)) (hM : DM l y b n ret rm D cy wd ad As τ none τ') (h1 : Cond.methodLink own idx y ∈ wsL_law) (h2 : Cond.static y ∈ wsL_law ∧ Cond.initialized y.cls ∈ wsL_law ∧ Cond.code y b n ret ∈ wsL_law) (hd : y.cls ≠ "java/lang/invoke/MethodHandle" ∧ y.cls ≠ "java/lang/invoke/VarHandle" ∧ (parseMethodDescriptor y.desc).map (fun d => d.parameters.length) = some n') (hr0 : rm.cells = 0 ∧ rm.slots = 0) (hR : rm.frames + 1 ≤ R.frames ∧ 8 + (n + 11) + rm.locals ≤ R.locals) (hf : cells ≤ R.cells ∧ slots ≤ R.slots) (hn : As.length = n') (hl : ls.size = nL) (hst : st0 = As.reverse ++ rest) (hrest : (rest.map fun v => v.category).sum ≤ 8) (hdg : decode cc pc = .ok (.invokestatic idx, 3)) (kk : ∀ (H1 : Heap) (locs1 : List Loc), GC D wd ad s τ' H1 locs1 → W p l e R s m args below meth c H1 locs1 cells slots Q (F0 m (pc + 3) ls (rest))) : W p l e R s m args below meth c H locs cells slots Q (F0 m pc ls st0) :=
  d_callS fx sx hC hw hM h1 h2 hd hr0 hR hf hn hl hst hrest hdg kk
end DCALL
theorem D0k_forget : Cond.instanceMethod yX0_forget ∈ wsL_law ∧ Cond.selects RX0 yX0_forget yX0_forget ∈ wsL_law ∧ Cond.initialized RX0 ∈ wsL_law ∧ Cond.code yX0_forget cX0_forget 1 none ∈ wsL_law := ⟨k_1080, k_1081, k_43, k_1082⟩
theorem D0h_forget : yX0_forget.cls = RX0 ∧ yX0_forget.cls ≠ "java/lang/invoke/MethodHandle" ∧ yX0_forget.cls ≠ "java/lang/invoke/VarHandle" ∧ (parseMethodDescriptor yX0_forget.desc).map (fun d => d.parameters.length) = some 0 := by decide +kernel
theorem D0k_bodyOf : Cond.static yX0_bodyOf ∈ wsL_law ∧ Cond.initialized yX0_bodyOf.cls ∈ wsL_law ∧ Cond.code yX0_bodyOf cX0_bodyOf 2 (some .int) ∈ wsL_law := ⟨k_1095, k_43, k_1096⟩
theorem D0h_bodyOf : yX0_bodyOf.cls ≠ "java/lang/invoke/MethodHandle" ∧ yX0_bodyOf.cls ≠ "java/lang/invoke/VarHandle" ∧ (parseMethodDescriptor yX0_bodyOf.desc).map (fun d => d.parameters.length) = some 2 := by decide +kernel
theorem D0k_note : Cond.instanceMethod yX0_note ∈ wsL_law ∧ Cond.selects RX0 yX0_note yX0_note ∈ wsL_law ∧ Cond.initialized RX0 ∈ wsL_law ∧ Cond.code yX0_note cX0_note 2 none ∈ wsL_law := ⟨k_1101, k_1102, k_43, k_1103⟩
theorem D0h_note : yX0_note.cls = RX0 ∧ yX0_note.cls ≠ "java/lang/invoke/MethodHandle" ∧ yX0_note.cls ≠ "java/lang/invoke/VarHandle" ∧ (parseMethodDescriptor yX0_note.desc).map (fun d => d.parameters.length) = some 1 := by decide +kernel
theorem D0k_run : Cond.instanceMethod yX0_run ∈ wsL_law ∧ Cond.selects RX0 yX0_run yX0_run ∈ wsL_law ∧ Cond.initialized RX0 ∈ wsL_law ∧ Cond.code yX0_run cX0_run 7 (some .int) ∈ wsL_law := ⟨k_1091, k_1092, k_43, k_1093⟩
theorem D0h_run : yX0_run.cls = RX0 ∧ yX0_run.cls ≠ "java/lang/invoke/MethodHandle" ∧ yX0_run.cls ≠ "java/lang/invoke/VarHandle" ∧ (parseMethodDescriptor yX0_run.desc).map (fun d => d.parameters.length) = some 4 := by decide +kernel
theorem D0k_begin : Cond.instanceMethod yX0_begin ∈ wsL_law ∧ Cond.selects RX0 yX0_begin yX0_begin ∈ wsL_law ∧ Cond.initialized RX0 ∈ wsL_law ∧ Cond.code yX0_begin cX0_begin 5 (some .int) ∈ wsL_law := ⟨k_1085, k_1086, k_43, k_1087⟩
theorem D0h_begin : yX0_begin.cls = RX0 ∧ yX0_begin.cls ≠ "java/lang/invoke/MethodHandle" ∧ yX0_begin.cls ≠ "java/lang/invoke/VarHandle" ∧ (parseMethodDescriptor yX0_begin.desc).map (fun d => d.parameters.length) = some 4 := by decide +kernel
theorem D0k_kept : Cond.instanceMethod yX0_kept ∈ wsL_law ∧ Cond.selects RX0 yX0_kept yX0_kept ∈ wsL_law ∧ Cond.initialized RX0 ∈ wsL_law ∧ Cond.code yX0_kept cX0_kept 2 (some .int) ∈ wsL_law := ⟨k_1139, k_1140, k_43, k_1141⟩
theorem D0h_kept : yX0_kept.cls = RX0 ∧ yX0_kept.cls ≠ "java/lang/invoke/MethodHandle" ∧ yX0_kept.cls ≠ "java/lang/invoke/VarHandle" ∧ (parseMethodDescriptor yX0_kept.desc).map (fun d => d.parameters.length) = some 1 := by decide +kernel
theorem D1k_isNumber : Cond.instanceMethod yX1_isNumber ∈ wsL_law ∧ Cond.selects RX1 yX1_isNumber yX1_isNumber ∈ wsL_law ∧ Cond.initialized RX1 ∈ wsL_law ∧ Cond.code yX1_isNumber cX1_isNumber 2 (some .boolean) ∈ wsL_law := ⟨k_995, k_996, k_39, k_997⟩
theorem D1h_isNumber : yX1_isNumber.cls = RX1 ∧ yX1_isNumber.cls ≠ "java/lang/invoke/MethodHandle" ∧ yX1_isNumber.cls ≠ "java/lang/invoke/VarHandle" ∧ (parseMethodDescriptor yX1_isNumber.desc).map (fun d => d.parameters.length) = some 1 := by decide +kernel
theorem J7k_fill_53178 : Cond.static yJ7_fill_53178 ∈ wsL_law ∧ Cond.initialized yJ7_fill_53178.cls ∈ wsL_law ∧ Cond.code yJ7_fill_53178 cJ7_fill_53178 4 none ∈ wsL_law := ⟨k_88, k_89, k_90⟩
theorem J7h_fill_53178 : yJ7_fill_53178.cls ≠ "java/lang/invoke/MethodHandle" ∧ yJ7_fill_53178.cls ≠ "java/lang/invoke/VarHandle" ∧ (parseMethodDescriptor yJ7_fill_53178.desc).map (fun d => d.parameters.length) = some 2 := by decide +kernel
theorem D1k_layOut : Cond.instanceMethod yX1_layOut ∈ wsL_law ∧ Cond.selects RX1 yX1_layOut yX1_layOut ∈ wsL_law ∧ Cond.initialized RX1 ∈ wsL_law ∧ Cond.code yX1_layOut cX1_layOut 4 (some .int) ∈ wsL_law := ⟨k_991, k_992, k_39, k_993⟩
theorem D1h_layOut : yX1_layOut.cls = RX1 ∧ yX1_layOut.cls ≠ "java/lang/invoke/MethodHandle" ∧ yX1_layOut.cls ≠ "java/lang/invoke/VarHandle" ∧ (parseMethodDescriptor yX1_layOut.desc).map (fun d => d.parameters.length) = some 3 := by decide +kernel
theorem D1k_isItem : Cond.instanceMethod yX1_isItem ∈ wsL_law ∧ Cond.selects RX1 yX1_isItem yX1_isItem ∈ wsL_law ∧ Cond.initialized RX1 ∈ wsL_law ∧ Cond.code yX1_isItem cX1_isItem 3 (some .boolean) ∈ wsL_law := ⟨k_1011, k_1012, k_39, k_1013⟩
theorem D1h_isItem : yX1_isItem.cls = RX1 ∧ yX1_isItem.cls ≠ "java/lang/invoke/MethodHandle" ∧ yX1_isItem.cls ≠ "java/lang/invoke/VarHandle" ∧ (parseMethodDescriptor yX1_isItem.desc).map (fun d => d.parameters.length) = some 2 := by decide +kernel
theorem D1k_cut : Cond.static yX1_cut ∈ wsL_law ∧ Cond.initialized yX1_cut.cls ∈ wsL_law ∧ Cond.code yX1_cut cX1_cut 2 (some .int) ∈ wsL_law := ⟨k_1015, k_39, k_1016⟩
theorem D1h_cut : yX1_cut.cls ≠ "java/lang/invoke/MethodHandle" ∧ yX1_cut.cls ≠ "java/lang/invoke/VarHandle" ∧ (parseMethodDescriptor yX1_cut.desc).map (fun d => d.parameters.length) = some 2 := by decide +kernel
theorem D1k_fill : Cond.instanceMethod yX1_fill ∈ wsL_law ∧ Cond.selects RX1 yX1_fill yX1_fill ∈ wsL_law ∧ Cond.initialized RX1 ∈ wsL_law ∧ Cond.code yX1_fill cX1_fill 4 (some .int) ∈ wsL_law := ⟨k_1007, k_1008, k_39, k_1009⟩
theorem D1h_fill : yX1_fill.cls = RX1 ∧ yX1_fill.cls ≠ "java/lang/invoke/MethodHandle" ∧ yX1_fill.cls ≠ "java/lang/invoke/VarHandle" ∧ (parseMethodDescriptor yX1_fill.desc).map (fun d => d.parameters.length) = some 3 := by decide +kernel
theorem D1k_refusalOfThree : Cond.instanceMethod yX1_refusalOfThree ∈ wsL_law ∧ Cond.selects RX1 yX1_refusalOfThree yX1_refusalOfThree ∈ wsL_law ∧ Cond.initialized RX1 ∈ wsL_law ∧ Cond.code yX1_refusalOfThree cX1_refusalOfThree 4 (some .int) ∈ wsL_law := ⟨k_1026, k_1027, k_39, k_1028⟩
theorem D1h_refusalOfThree : yX1_refusalOfThree.cls = RX1 ∧ yX1_refusalOfThree.cls ≠ "java/lang/invoke/MethodHandle" ∧ yX1_refusalOfThree.cls ≠ "java/lang/invoke/VarHandle" ∧ (parseMethodDescriptor yX1_refusalOfThree.desc).map (fun d => d.parameters.length) = some 3 := by decide +kernel
theorem D1k_item : Cond.instanceMethod yX1_item ∈ wsL_law ∧ Cond.selects RX1 yX1_item yX1_item ∈ wsL_law ∧ Cond.initialized RX1 ∈ wsL_law ∧ Cond.code yX1_item cX1_item 3 (some .int) ∈ wsL_law := ⟨k_1030, k_1031, k_39, k_1032⟩
theorem D1h_item : yX1_item.cls = RX1 ∧ yX1_item.cls ≠ "java/lang/invoke/MethodHandle" ∧ yX1_item.cls ≠ "java/lang/invoke/VarHandle" ∧ (parseMethodDescriptor yX1_item.desc).map (fun d => d.parameters.length) = some 2 := by decide +kernel
theorem D1k_hold : Cond.instanceMethod yX1_hold ∈ wsL_law ∧ Cond.selects RX1 yX1_hold yX1_hold ∈ wsL_law ∧ Cond.initialized RX1 ∈ wsL_law ∧ Cond.code yX1_hold cX1_hold 4 (some .int) ∈ wsL_law := ⟨k_1045, k_1046, k_39, k_1047⟩
theorem D1h_hold : yX1_hold.cls = RX1 ∧ yX1_hold.cls ≠ "java/lang/invoke/MethodHandle" ∧ yX1_hold.cls ≠ "java/lang/invoke/VarHandle" ∧ (parseMethodDescriptor yX1_hold.desc).map (fun d => d.parameters.length) = some 3 := by decide +kernel
theorem D1k_holdSheet : Cond.instanceMethod yX1_holdSheet ∈ wsL_law ∧ Cond.selects RX1 yX1_holdSheet yX1_holdSheet ∈ wsL_law ∧ Cond.initialized RX1 ∈ wsL_law ∧ Cond.code yX1_holdSheet cX1_holdSheet 4 (some .int) ∈ wsL_law := ⟨k_1049, k_1050, k_39, k_1051⟩
theorem D1h_holdSheet : yX1_holdSheet.cls = RX1 ∧ yX1_holdSheet.cls ≠ "java/lang/invoke/MethodHandle" ∧ yX1_holdSheet.cls ≠ "java/lang/invoke/VarHandle" ∧ (parseMethodDescriptor yX1_holdSheet.desc).map (fun d => d.parameters.length) = some 2 := by decide +kernel
theorem D1k_isOne : Cond.static yX1_isOne ∈ wsL_law ∧ Cond.initialized yX1_isOne.cls ∈ wsL_law ∧ Cond.code yX1_isOne cX1_isOne 4 (some .boolean) ∈ wsL_law := ⟨k_1066, k_39, k_1067⟩
theorem D1h_isOne : yX1_isOne.cls ≠ "java/lang/invoke/MethodHandle" ∧ yX1_isOne.cls ≠ "java/lang/invoke/VarHandle" ∧ (parseMethodDescriptor yX1_isOne.desc).map (fun d => d.parameters.length) = some 2 := by decide +kernel
theorem D1k_heldFor : Cond.instanceMethod yX1_heldFor ∈ wsL_law ∧ Cond.selects RX1 yX1_heldFor yX1_heldFor ∈ wsL_law ∧ Cond.initialized RX1 ∈ wsL_law ∧ Cond.code yX1_heldFor cX1_heldFor 4 (some .int) ∈ wsL_law := ⟨k_1062, k_1063, k_39, k_1064⟩
theorem D1h_heldFor : yX1_heldFor.cls = RX1 ∧ yX1_heldFor.cls ≠ "java/lang/invoke/MethodHandle" ∧ yX1_heldFor.cls ≠ "java/lang/invoke/VarHandle" ∧ (parseMethodDescriptor yX1_heldFor.desc).map (fun d => d.parameters.length) = some 2 := by decide +kernel
theorem D2k_isPost : Cond.instanceMethod yX2_isPost ∈ wsL_law ∧ Cond.selects RX2 yX2_isPost yX2_isPost ∈ wsL_law ∧ Cond.initialized RX2 ∈ wsL_law ∧ Cond.code yX2_isPost cX2_isPost 2 (some .boolean) ∈ wsL_law := ⟨k_148, k_149, k_14, k_150⟩
theorem D2h_isPost : yX2_isPost.cls = RX2 ∧ yX2_isPost.cls ≠ "java/lang/invoke/MethodHandle" ∧ yX2_isPost.cls ≠ "java/lang/invoke/VarHandle" ∧ (parseMethodDescriptor yX2_isPost.desc).map (fun d => d.parameters.length) = some 1 := by decide +kernel
theorem D2k_isRoad : Cond.instanceMethod yX2_isRoad ∈ wsL_law ∧ Cond.selects RX2 yX2_isRoad yX2_isRoad ∈ wsL_law ∧ Cond.initialized RX2 ∈ wsL_law ∧ Cond.code yX2_isRoad cX2_isRoad 2 (some .boolean) ∈ wsL_law := ⟨k_178, k_179, k_14, k_180⟩
theorem D2h_isRoad : yX2_isRoad.cls = RX2 ∧ yX2_isRoad.cls ≠ "java/lang/invoke/MethodHandle" ∧ yX2_isRoad.cls ≠ "java/lang/invoke/VarHandle" ∧ (parseMethodDescriptor yX2_isRoad.desc).map (fun d => d.parameters.length) = some 1 := by decide +kernel
theorem D2k_hasRoads : Cond.instanceMethod yX2_hasRoads ∈ wsL_law ∧ Cond.selects RX2 yX2_hasRoads yX2_hasRoads ∈ wsL_law ∧ Cond.initialized RX2 ∈ wsL_law ∧ Cond.code yX2_hasRoads cX2_hasRoads 2 (some .boolean) ∈ wsL_law := ⟨k_201, k_202, k_14, k_203⟩
theorem D2h_hasRoads : yX2_hasRoads.cls = RX2 ∧ yX2_hasRoads.cls ≠ "java/lang/invoke/MethodHandle" ∧ yX2_hasRoads.cls ≠ "java/lang/invoke/VarHandle" ∧ (parseMethodDescriptor yX2_hasRoads.desc).map (fun d => d.parameters.length) = some 1 := by decide +kernel
theorem D2k_addPost : Cond.instanceMethod yX2_addPost ∈ wsL_law ∧ Cond.selects RX2 yX2_addPost yX2_addPost ∈ wsL_law ∧ Cond.initialized RX2 ∈ wsL_law ∧ Cond.code yX2_addPost cX2_addPost 2 (some .int) ∈ wsL_law := ⟨k_131, k_132, k_14, k_133⟩
theorem D2h_addPost : yX2_addPost.cls = RX2 ∧ yX2_addPost.cls ≠ "java/lang/invoke/MethodHandle" ∧ yX2_addPost.cls ≠ "java/lang/invoke/VarHandle" ∧ (parseMethodDescriptor yX2_addPost.desc).map (fun d => d.parameters.length) = some 1 := by decide +kernel
theorem D2k_areJoined : Cond.instanceMethod yX2_areJoined ∈ wsL_law ∧ Cond.selects RX2 yX2_areJoined yX2_areJoined ∈ wsL_law ∧ Cond.initialized RX2 ∈ wsL_law ∧ Cond.code yX2_areJoined cX2_areJoined 4 (some .boolean) ∈ wsL_law := ⟨k_152, k_153, k_14, k_154⟩
theorem D2h_areJoined : yX2_areJoined.cls = RX2 ∧ yX2_areJoined.cls ≠ "java/lang/invoke/MethodHandle" ∧ yX2_areJoined.cls ≠ "java/lang/invoke/VarHandle" ∧ (parseMethodDescriptor yX2_areJoined.desc).map (fun d => d.parameters.length) = some 2 := by decide +kernel
theorem D2k_addRoad : Cond.instanceMethod yX2_addRoad ∈ wsL_law ∧ Cond.selects RX2 yX2_addRoad yX2_addRoad ∈ wsL_law ∧ Cond.initialized RX2 ∈ wsL_law ∧ Cond.code yX2_addRoad cX2_addRoad 4 (some .int) ∈ wsL_law := ⟨k_164, k_165, k_14, k_166⟩
theorem D2h_addRoad : yX2_addRoad.cls = RX2 ∧ yX2_addRoad.cls ≠ "java/lang/invoke/MethodHandle" ∧ yX2_addRoad.cls ≠ "java/lang/invoke/VarHandle" ∧ (parseMethodDescriptor yX2_addRoad.desc).map (fun d => d.parameters.length) = some 3 := by decide +kernel
theorem D2k_loseRoad : Cond.instanceMethod yX2_loseRoad ∈ wsL_law ∧ Cond.selects RX2 yX2_loseRoad yX2_loseRoad ∈ wsL_law ∧ Cond.initialized RX2 ∈ wsL_law ∧ Cond.code yX2_loseRoad cX2_loseRoad 1 (some .int) ∈ wsL_law := ⟨k_666, k_667, k_14, k_668⟩
theorem D2h_loseRoad : yX2_loseRoad.cls = RX2 ∧ yX2_loseRoad.cls ≠ "java/lang/invoke/MethodHandle" ∧ yX2_loseRoad.cls ≠ "java/lang/invoke/VarHandle" ∧ (parseMethodDescriptor yX2_loseRoad.desc).map (fun d => d.parameters.length) = some 0 := by decide +kernel
theorem D2k_weightOf : Cond.instanceMethod yX2_weightOf ∈ wsL_law ∧ Cond.selects RX2 yX2_weightOf yX2_weightOf ∈ wsL_law ∧ Cond.initialized RX2 ∈ wsL_law ∧ Cond.code yX2_weightOf cX2_weightOf 2 (some .int) ∈ wsL_law := ⟨k_633, k_634, k_14, k_635⟩
theorem D2h_weightOf : yX2_weightOf.cls = RX2 ∧ yX2_weightOf.cls ≠ "java/lang/invoke/MethodHandle" ∧ yX2_weightOf.cls ≠ "java/lang/invoke/VarHandle" ∧ (parseMethodDescriptor yX2_weightOf.desc).map (fun d => d.parameters.length) = some 1 := by decide +kernel
theorem D2k_eighthsOf : Cond.instanceMethod yX2_eighthsOf ∈ wsL_law ∧ Cond.selects RX2 yX2_eighthsOf yX2_eighthsOf ∈ wsL_law ∧ Cond.initialized RX2 ∈ wsL_law ∧ Cond.code yX2_eighthsOf cX2_eighthsOf 2 (some .int) ∈ wsL_law := ⟨k_870, k_871, k_14, k_872⟩
theorem D2h_eighthsOf : yX2_eighthsOf.cls = RX2 ∧ yX2_eighthsOf.cls ≠ "java/lang/invoke/MethodHandle" ∧ yX2_eighthsOf.cls ≠ "java/lang/invoke/VarHandle" ∧ (parseMethodDescriptor yX2_eighthsOf.desc).map (fun d => d.parameters.length) = some 1 := by decide +kernel
theorem D2k_beyond : Cond.instanceMethod yX2_beyond ∈ wsL_law ∧ Cond.selects RX2 yX2_beyond yX2_beyond ∈ wsL_law ∧ Cond.initialized RX2 ∈ wsL_law ∧ Cond.code yX2_beyond cX2_beyond 3 (some .int) ∈ wsL_law := ⟨k_300, k_301, k_14, k_302⟩
theorem D2h_beyond : yX2_beyond.cls = RX2 ∧ yX2_beyond.cls ≠ "java/lang/invoke/MethodHandle" ∧ yX2_beyond.cls ≠ "java/lang/invoke/VarHandle" ∧ (parseMethodDescriptor yX2_beyond.desc).map (fun d => d.parameters.length) = some 2 := by decide +kernel
theorem D2k_placeOf : Cond.static yX2_placeOf ∈ wsL_law ∧ Cond.initialized yX2_placeOf.cls ∈ wsL_law ∧ Cond.code yX2_placeOf cX2_placeOf 1 (some .int) ∈ wsL_law := ⟨k_305, k_14, k_306⟩
theorem D2h_placeOf : yX2_placeOf.cls ≠ "java/lang/invoke/MethodHandle" ∧ yX2_placeOf.cls ≠ "java/lang/invoke/VarHandle" ∧ (parseMethodDescriptor yX2_placeOf.desc).map (fun d => d.parameters.length) = some 1 := by decide +kernel
theorem D2k_roadsAt : Cond.instanceMethod yX2_roadsAt ∈ wsL_law ∧ Cond.selects RX2 yX2_roadsAt yX2_roadsAt ∈ wsL_law ∧ Cond.initialized RX2 ∈ wsL_law ∧ Cond.code yX2_roadsAt cX2_roadsAt 4 (some .int) ∈ wsL_law := ⟨k_435, k_436, k_14, k_437⟩
theorem D2h_roadsAt : yX2_roadsAt.cls = RX2 ∧ yX2_roadsAt.cls ≠ "java/lang/invoke/MethodHandle" ∧ yX2_roadsAt.cls ≠ "java/lang/invoke/VarHandle" ∧ (parseMethodDescriptor yX2_roadsAt.desc).map (fun d => d.parameters.length) = some 1 := by decide +kernel
theorem D3k_isCell : Cond.instanceMethod yX3_isCell ∈ wsL_law ∧ Cond.selects RX3 yX3_isCell yX3_isCell ∈ wsL_law ∧ Cond.initialized RX3 ∈ wsL_law ∧ Cond.code yX3_isCell cX3_isCell 3 (some .boolean) ∈ wsL_law := ⟨k_717, k_718, k_34, k_719⟩
theorem D3h_isCell : yX3_isCell.cls = RX3 ∧ yX3_isCell.cls ≠ "java/lang/invoke/MethodHandle" ∧ yX3_isCell.cls ≠ "java/lang/invoke/VarHandle" ∧ (parseMethodDescriptor yX3_isCell.desc).map (fun d => d.parameters.length) = some 2 := by decide +kernel
theorem D3k_clear : Cond.instanceMethod yX3_clear ∈ wsL_law ∧ Cond.selects RX3 yX3_clear yX3_clear ∈ wsL_law ∧ Cond.initialized RX3 ∈ wsL_law ∧ Cond.code yX3_clear cX3_clear 1 none ∈ wsL_law := ⟨k_692, k_693, k_34, k_694⟩
theorem D3h_clear : yX3_clear.cls = RX3 ∧ yX3_clear.cls ≠ "java/lang/invoke/MethodHandle" ∧ yX3_clear.cls ≠ "java/lang/invoke/VarHandle" ∧ (parseMethodDescriptor yX3_clear.desc).map (fun d => d.parameters.length) = some 0 := by decide +kernel
theorem D3k_mark : Cond.static yX3_mark ∈ wsL_law ∧ Cond.initialized yX3_mark.cls ∈ wsL_law ∧ Cond.code yX3_mark cX3_mark 4 (some .int) ∈ wsL_law := ⟨k_714, k_34, k_715⟩
theorem D3h_mark : yX3_mark.cls ≠ "java/lang/invoke/MethodHandle" ∧ yX3_mark.cls ≠ "java/lang/invoke/VarHandle" ∧ (parseMethodDescriptor yX3_mark.desc).map (fun d => d.parameters.length) = some 3 := by decide +kernel
theorem D3k_find : Cond.instanceMethod yX3_find ∈ wsL_law ∧ Cond.selects RX3 yX3_find yX3_find ∈ wsL_law ∧ Cond.initialized RX3 ∈ wsL_law ∧ Cond.code yX3_find cX3_find 6 (some .int) ∈ wsL_law := ⟨k_710, k_711, k_34, k_712⟩
theorem D3h_find : yX3_find.cls = RX3 ∧ yX3_find.cls ≠ "java/lang/invoke/MethodHandle" ∧ yX3_find.cls ≠ "java/lang/invoke/VarHandle" ∧ (parseMethodDescriptor yX3_find.desc).map (fun d => d.parameters.length) = some 3 := by decide +kernel
theorem D3k_countOf : Cond.instanceMethod yX3_countOf ∈ wsL_law ∧ Cond.selects RX3 yX3_countOf yX3_countOf ∈ wsL_law ∧ Cond.initialized RX3 ∈ wsL_law ∧ Cond.code yX3_countOf cX3_countOf 2 (some .int) ∈ wsL_law := ⟨k_725, k_726, k_34, k_727⟩
theorem D3h_countOf : yX3_countOf.cls = RX3 ∧ yX3_countOf.cls ≠ "java/lang/invoke/MethodHandle" ∧ yX3_countOf.cls ≠ "java/lang/invoke/VarHandle" ∧ (parseMethodDescriptor yX3_countOf.desc).map (fun d => d.parameters.length) = some 1 := by decide +kernel
theorem D3k_add : Cond.instanceMethod yX3_add ∈ wsL_law ∧ Cond.selects RX3 yX3_add yX3_add ∈ wsL_law ∧ Cond.initialized RX3 ∈ wsL_law ∧ Cond.code yX3_add cX3_add 6 (some .int) ∈ wsL_law := ⟨k_721, k_722, k_34, k_723⟩
theorem D3h_add : yX3_add.cls = RX3 ∧ yX3_add.cls ≠ "java/lang/invoke/MethodHandle" ∧ yX3_add.cls ≠ "java/lang/invoke/VarHandle" ∧ (parseMethodDescriptor yX3_add.desc).map (fun d => d.parameters.length) = some 3 := by decide +kernel
theorem D3k_knot : Cond.instanceMethod yX3_knot ∈ wsL_law ∧ Cond.selects RX3 yX3_knot yX3_knot ∈ wsL_law ∧ Cond.initialized RX3 ∈ wsL_law ∧ Cond.code yX3_knot cX3_knot 5 (some .int) ∈ wsL_law := ⟨k_706, k_707, k_34, k_708⟩
theorem D3h_knot : yX3_knot.cls = RX3 ∧ yX3_knot.cls ≠ "java/lang/invoke/MethodHandle" ∧ yX3_knot.cls ≠ "java/lang/invoke/VarHandle" ∧ (parseMethodDescriptor yX3_knot.desc).map (fun d => d.parameters.length) = some 3 := by decide +kernel
theorem D3k_under : Cond.instanceMethod yX3_under ∈ wsL_law ∧ Cond.selects RX3 yX3_under yX3_under ∈ wsL_law ∧ Cond.initialized RX3 ∈ wsL_law ∧ Cond.code yX3_under cX3_under 7 (some .int) ∈ wsL_law := ⟨k_702, k_703, k_34, k_704⟩
theorem D3h_under : yX3_under.cls = RX3 ∧ yX3_under.cls ≠ "java/lang/invoke/MethodHandle" ∧ yX3_under.cls ≠ "java/lang/invoke/VarHandle" ∧ (parseMethodDescriptor yX3_under.desc).map (fun d => d.parameters.length) = some 2 := by decide +kernel
theorem D3k_over : Cond.instanceMethod yX3_over ∈ wsL_law ∧ Cond.selects RX3 yX3_over yX3_over ∈ wsL_law ∧ Cond.initialized RX3 ∈ wsL_law ∧ Cond.code yX3_over cX3_over 6 (some .int) ∈ wsL_law := ⟨k_697, k_698, k_34, k_699⟩
theorem D3h_over : yX3_over.cls = RX3 ∧ yX3_over.cls ≠ "java/lang/invoke/MethodHandle" ∧ yX3_over.cls ≠ "java/lang/invoke/VarHandle" ∧ (parseMethodDescriptor yX3_over.desc).map (fun d => d.parameters.length) = some 3 := by decide +kernel
theorem D3k_list : Cond.instanceMethod yX3_list ∈ wsL_law ∧ Cond.selects RX3 yX3_list yX3_list ∈ wsL_law ∧ Cond.initialized RX3 ∈ wsL_law ∧ Cond.code yX3_list cX3_list 2 (some .int) ∈ wsL_law := ⟨k_687, k_688, k_34, k_689⟩
theorem D3h_list : yX3_list.cls = RX3 ∧ yX3_list.cls ≠ "java/lang/invoke/MethodHandle" ∧ yX3_list.cls ≠ "java/lang/invoke/VarHandle" ∧ (parseMethodDescriptor yX3_list.desc).map (fun d => d.parameters.length) = some 1 := by decide +kernel
theorem D3k_isLead : Cond.static yX3_isLead ∈ wsL_law ∧ Cond.initialized yX3_isLead.cls ∈ wsL_law ∧ Cond.code yX3_isLead cX3_isLead 2 (some .boolean) ∈ wsL_law := ⟨k_960, k_34, k_961⟩
theorem D3h_isLead : yX3_isLead.cls ≠ "java/lang/invoke/MethodHandle" ∧ yX3_isLead.cls ≠ "java/lang/invoke/VarHandle" ∧ (parseMethodDescriptor yX3_isLead.desc).map (fun d => d.parameters.length) = some 2 := by decide +kernel
theorem D3k_roadOfLead : Cond.instanceMethod yX3_roadOfLead ∈ wsL_law ∧ Cond.selects RX3 yX3_roadOfLead yX3_roadOfLead ∈ wsL_law ∧ Cond.initialized RX3 ∈ wsL_law ∧ Cond.code yX3_roadOfLead cX3_roadOfLead 2 (some .int) ∈ wsL_law := ⟨k_963, k_964, k_34, k_965⟩
theorem D3h_roadOfLead : yX3_roadOfLead.cls = RX3 ∧ yX3_roadOfLead.cls ≠ "java/lang/invoke/MethodHandle" ∧ yX3_roadOfLead.cls ≠ "java/lang/invoke/VarHandle" ∧ (parseMethodDescriptor yX3_roadOfLead.desc).map (fun d => d.parameters.length) = some 1 := by decide +kernel
theorem D3k_wrongness : Cond.instanceMethod yX3_wrongness ∈ wsL_law ∧ Cond.selects RX3 yX3_wrongness yX3_wrongness ∈ wsL_law ∧ Cond.initialized RX3 ∈ wsL_law ∧ Cond.code yX3_wrongness cX3_wrongness 6 (some .int) ∈ wsL_law := ⟨k_956, k_957, k_34, k_958⟩
theorem D3h_wrongness : yX3_wrongness.cls = RX3 ∧ yX3_wrongness.cls ≠ "java/lang/invoke/MethodHandle" ∧ yX3_wrongness.cls ≠ "java/lang/invoke/VarHandle" ∧ (parseMethodDescriptor yX3_wrongness.desc).map (fun d => d.parameters.length) = some 2 := by decide +kernel
theorem D3k_firstWrong : Cond.instanceMethod yX3_firstWrong ∈ wsL_law ∧ Cond.selects RX3 yX3_firstWrong yX3_firstWrong ∈ wsL_law ∧ Cond.initialized RX3 ∈ wsL_law ∧ Cond.code yX3_firstWrong cX3_firstWrong 4 (some .int) ∈ wsL_law := ⟨k_952, k_953, k_34, k_954⟩
theorem D3h_firstWrong : yX3_firstWrong.cls = RX3 ∧ yX3_firstWrong.cls ≠ "java/lang/invoke/MethodHandle" ∧ yX3_firstWrong.cls ≠ "java/lang/invoke/VarHandle" ∧ (parseMethodDescriptor yX3_firstWrong.desc).map (fun d => d.parameters.length) = some 1 := by decide +kernel
theorem D3k_isLike : Cond.instanceMethod yX3_isLike ∈ wsL_law ∧ Cond.selects RX3 yX3_isLike yX3_isLike ∈ wsL_law ∧ Cond.initialized RX3 ∈ wsL_law ∧ Cond.code yX3_isLike cX3_isLike 4 (some .boolean) ∈ wsL_law := ⟨k_967, k_968, k_34, k_969⟩
theorem D3h_isLike : yX3_isLike.cls = RX3 ∧ yX3_isLike.cls ≠ "java/lang/invoke/MethodHandle" ∧ yX3_isLike.cls ≠ "java/lang/invoke/VarHandle" ∧ (parseMethodDescriptor yX3_isLike.desc).map (fun d => d.parameters.length) = some 1 := by decide +kernel
theorem J6k_bitCount_0f7a4 : Cond.static yJ6_bitCount_0f7a4 ∈ wsL_law ∧ Cond.initialized yJ6_bitCount_0f7a4.cls ∈ wsL_law ∧ Cond.code yJ6_bitCount_0f7a4 cJ6_bitCount_0f7a4 1 (some .int) ∈ wsL_law := ⟨k_292, k_293, k_294⟩
theorem J6h_bitCount_0f7a4 : yJ6_bitCount_0f7a4.cls ≠ "java/lang/invoke/MethodHandle" ∧ yJ6_bitCount_0f7a4.cls ≠ "java/lang/invoke/VarHandle" ∧ (parseMethodDescriptor yJ6_bitCount_0f7a4.desc).map (fun d => d.parameters.length) = some 1 := by decide +kernel
theorem D7k_put : Cond.instanceMethod yX7_put ∈ wsL_law ∧ Cond.selects RX7 yX7_put yX7_put ∈ wsL_law ∧ Cond.initialized RX7 ∈ wsL_law ∧ Cond.code yX7_put cX7_put 2 none ∈ wsL_law := ⟨k_221, k_222, k_19, k_223⟩
theorem D7h_put : yX7_put.cls = RX7 ∧ yX7_put.cls ≠ "java/lang/invoke/MethodHandle" ∧ yX7_put.cls ≠ "java/lang/invoke/VarHandle" ∧ (parseMethodDescriptor yX7_put.desc).map (fun d => d.parameters.length) = some 1 := by decide +kernel
theorem D4k_walk : Cond.instanceMethod yX4_walk ∈ wsL_law ∧ Cond.selects RX4 yX4_walk yX4_walk ∈ wsL_law ∧ Cond.initialized RX4 ∈ wsL_law ∧ Cond.code yX4_walk cX4_walk 7 none ∈ wsL_law := ⟨k_287, k_288, k_272, k_289⟩
theorem D4h_walk : yX4_walk.cls = RX4 ∧ yX4_walk.cls ≠ "java/lang/invoke/MethodHandle" ∧ yX4_walk.cls ≠ "java/lang/invoke/VarHandle" ∧ (parseMethodDescriptor yX4_walk.desc).map (fun d => d.parameters.length) = some 4 := by decide +kernel
theorem D4k_findPaths : Cond.instanceMethod yX4_findPaths ∈ wsL_law ∧ Cond.selects RX4 yX4_findPaths yX4_findPaths ∈ wsL_law ∧ Cond.initialized RX4 ∈ wsL_law ∧ Cond.code yX4_findPaths cX4_findPaths 4 none ∈ wsL_law := ⟨k_280, k_281, k_272, k_282⟩
theorem D4h_findPaths : yX4_findPaths.cls = RX4 ∧ yX4_findPaths.cls ≠ "java/lang/invoke/MethodHandle" ∧ yX4_findPaths.cls ≠ "java/lang/invoke/VarHandle" ∧ (parseMethodDescriptor yX4_findPaths.desc).map (fun d => d.parameters.length) = some 3 := by decide +kernel
theorem D4k_findRounds : Cond.instanceMethod yX4_findRounds ∈ wsL_law ∧ Cond.selects RX4 yX4_findRounds yX4_findRounds ∈ wsL_law ∧ Cond.initialized RX4 ∈ wsL_law ∧ Cond.code yX4_findRounds cX4_findRounds 3 none ∈ wsL_law := ⟨k_335, k_336, k_272, k_337⟩
theorem D4h_findRounds : yX4_findRounds.cls = RX4 ∧ yX4_findRounds.cls ≠ "java/lang/invoke/MethodHandle" ∧ yX4_findRounds.cls ≠ "java/lang/invoke/VarHandle" ∧ (parseMethodDescriptor yX4_findRounds.desc).map (fun d => d.parameters.length) = some 1 := by decide +kernel
theorem D4k_label : Cond.static yX4_label ∈ wsL_law ∧ Cond.initialized yX4_label.cls ∈ wsL_law ∧ Cond.code yX4_label cX4_label 2 (some .int) ∈ wsL_law := ⟨k_367, k_272, k_368⟩
theorem D4h_label : yX4_label.cls ≠ "java/lang/invoke/MethodHandle" ∧ yX4_label.cls ≠ "java/lang/invoke/VarHandle" ∧ (parseMethodDescriptor yX4_label.desc).map (fun d => d.parameters.length) = some 2 := by decide +kernel
theorem D4k_loadOf : Cond.instanceMethod yX4_loadOf ∈ wsL_law ∧ Cond.selects RX4 yX4_loadOf yX4_loadOf ∈ wsL_law ∧ Cond.initialized RX4 ∈ wsL_law ∧ Cond.code yX4_loadOf cX4_loadOf 5 (some .int) ∈ wsL_law := ⟨k_370, k_371, k_272, k_372⟩
theorem D4h_loadOf : yX4_loadOf.cls = RX4 ∧ yX4_loadOf.cls ≠ "java/lang/invoke/MethodHandle" ∧ yX4_loadOf.cls ≠ "java/lang/invoke/VarHandle" ∧ (parseMethodDescriptor yX4_loadOf.desc).map (fun d => d.parameters.length) = some 2 := by decide +kernel
theorem D4k_isFitting : Cond.instanceMethod yX4_isFitting ∈ wsL_law ∧ Cond.selects RX4 yX4_isFitting yX4_isFitting ∈ wsL_law ∧ Cond.initialized RX4 ∈ wsL_law ∧ Cond.code yX4_isFitting cX4_isFitting 2 (some .boolean) ∈ wsL_law := ⟨k_375, k_376, k_272, k_377⟩
theorem D4h_isFitting : yX4_isFitting.cls = RX4 ∧ yX4_isFitting.cls ≠ "java/lang/invoke/MethodHandle" ∧ yX4_isFitting.cls ≠ "java/lang/invoke/VarHandle" ∧ (parseMethodDescriptor yX4_isFitting.desc).map (fun d => d.parameters.length) = some 1 := by decide +kernel
theorem D4k_isParting : Cond.instanceMethod yX4_isParting ∈ wsL_law ∧ Cond.selects RX4 yX4_isParting yX4_isParting ∈ wsL_law ∧ Cond.initialized RX4 ∈ wsL_law ∧ Cond.code yX4_isParting cX4_isParting 5 (some .boolean) ∈ wsL_law := ⟨k_363, k_364, k_272, k_365⟩
theorem D4h_isParting : yX4_isParting.cls = RX4 ∧ yX4_isParting.cls ≠ "java/lang/invoke/MethodHandle" ∧ yX4_isParting.cls ≠ "java/lang/invoke/VarHandle" ∧ (parseMethodDescriptor yX4_isParting.desc).map (fun d => d.parameters.length) = some 2 := by decide +kernel
theorem D4k_relabelled : Cond.static yX4_relabelled ∈ wsL_law ∧ Cond.initialized yX4_relabelled.cls ∈ wsL_law ∧ Cond.code yX4_relabelled cX4_relabelled 5 (some .int) ∈ wsL_law := ⟨k_381, k_272, k_382⟩
theorem D4h_relabelled : yX4_relabelled.cls ≠ "java/lang/invoke/MethodHandle" ∧ yX4_relabelled.cls ≠ "java/lang/invoke/VarHandle" ∧ (parseMethodDescriptor yX4_relabelled.desc).map (fun d => d.parameters.length) = some 3 := by decide +kernel
theorem D4k_gather : Cond.instanceMethod yX4_gather ∈ wsL_law ∧ Cond.selects RX4 yX4_gather yX4_gather ∈ wsL_law ∧ Cond.initialized RX4 ∈ wsL_law ∧ Cond.code yX4_gather cX4_gather 7 none ∈ wsL_law := ⟨k_356, k_357, k_272, k_358⟩
theorem D4h_gather : yX4_gather.cls = RX4 ∧ yX4_gather.cls ≠ "java/lang/invoke/MethodHandle" ∧ yX4_gather.cls ≠ "java/lang/invoke/VarHandle" ∧ (parseMethodDescriptor yX4_gather.desc).map (fun d => d.parameters.length) = some 4 := by decide +kernel
theorem D4k_findTrees : Cond.instanceMethod yX4_findTrees ∈ wsL_law ∧ Cond.selects RX4 yX4_findTrees yX4_findTrees ∈ wsL_law ∧ Cond.initialized RX4 ∈ wsL_law ∧ Cond.code yX4_findTrees cX4_findTrees 2 none ∈ wsL_law := ⟨k_349, k_350, k_272, k_351⟩
theorem D4h_findTrees : yX4_findTrees.cls = RX4 ∧ yX4_findTrees.cls ≠ "java/lang/invoke/MethodHandle" ∧ yX4_findTrees.cls ≠ "java/lang/invoke/VarHandle" ∧ (parseMethodDescriptor yX4_findTrees.desc).map (fun d => d.parameters.length) = some 1 := by decide +kernel
theorem D4k_findParts : Cond.instanceMethod yX4_findParts ∈ wsL_law ∧ Cond.selects RX4 yX4_findParts yX4_findParts ∈ wsL_law ∧ Cond.initialized RX4 ∈ wsL_law ∧ Cond.code yX4_findParts cX4_findParts 4 none ∈ wsL_law := ⟨k_415, k_416, k_272, k_417⟩
theorem D4h_findParts : yX4_findParts.cls = RX4 ∧ yX4_findParts.cls ≠ "java/lang/invoke/MethodHandle" ∧ yX4_findParts.cls ≠ "java/lang/invoke/VarHandle" ∧ (parseMethodDescriptor yX4_findParts.desc).map (fun d => d.parameters.length) = some 3 := by decide +kernel
theorem D4k_match : Cond.instanceMethod yX4_match ∈ wsL_law ∧ Cond.selects RX4 yX4_match yX4_match ∈ wsL_law ∧ Cond.initialized RX4 ∈ wsL_law ∧ Cond.code yX4_match cX4_match 5 none ∈ wsL_law := ⟨k_403, k_404, k_272, k_405⟩
theorem D4h_match : yX4_match.cls = RX4 ∧ yX4_match.cls ≠ "java/lang/invoke/MethodHandle" ∧ yX4_match.cls ≠ "java/lang/invoke/VarHandle" ∧ (parseMethodDescriptor yX4_match.desc).map (fun d => d.parameters.length) = some 3 := by decide +kernel
theorem D4k_findPairs : Cond.instanceMethod yX4_findPairs ∈ wsL_law ∧ Cond.selects RX4 yX4_findPairs yX4_findPairs ∈ wsL_law ∧ Cond.initialized RX4 ∈ wsL_law ∧ Cond.code yX4_findPairs cX4_findPairs 2 none ∈ wsL_law := ⟨k_399, k_400, k_272, k_401⟩
theorem D4h_findPairs : yX4_findPairs.cls = RX4 ∧ yX4_findPairs.cls ≠ "java/lang/invoke/MethodHandle" ∧ yX4_findPairs.cls ≠ "java/lang/invoke/VarHandle" ∧ (parseMethodDescriptor yX4_findPairs.desc).map (fun d => d.parameters.length) = some 1 := by decide +kernel
theorem D5k_learn : Cond.instanceMethod yX5_learn ∈ wsL_law ∧ Cond.selects RX5 yX5_learn yX5_learn ∈ wsL_law ∧ Cond.initialized RX5 ∈ wsL_law ∧ Cond.code yX5_learn cX5_learn 3 none ∈ wsL_law := ⟨k_637, k_638, k_26, k_639⟩
theorem D5h_learn : yX5_learn.cls = RX5 ∧ yX5_learn.cls ≠ "java/lang/invoke/MethodHandle" ∧ yX5_learn.cls ≠ "java/lang/invoke/VarHandle" ∧ (parseMethodDescriptor yX5_learn.desc).map (fun d => d.parameters.length) = some 0 := by decide +kernel
theorem D5k_learnWeights : Cond.instanceMethod yX5_learnWeights ∈ wsL_law ∧ Cond.selects RX5 yX5_learnWeights yX5_learnWeights ∈ wsL_law ∧ Cond.initialized RX5 ∈ wsL_law ∧ Cond.code yX5_learnWeights cX5_learnWeights 3 none ∈ wsL_law := ⟨k_629, k_630, k_26, k_631⟩
theorem D5h_learnWeights : yX5_learnWeights.cls = RX5 ∧ yX5_learnWeights.cls ≠ "java/lang/invoke/MethodHandle" ∧ yX5_learnWeights.cls ≠ "java/lang/invoke/VarHandle" ∧ (parseMethodDescriptor yX5_learnWeights.desc).map (fun d => d.parameters.length) = some 1 := by decide +kernel
theorem D5k_learnTurn : Cond.instanceMethod yX5_learnTurn ∈ wsL_law ∧ Cond.selects RX5 yX5_learnTurn yX5_learnTurn ∈ wsL_law ∧ Cond.initialized RX5 ∈ wsL_law ∧ Cond.code yX5_learnTurn cX5_learnTurn 4 none ∈ wsL_law := ⟨k_895, k_896, k_26, k_897⟩
theorem D5h_learnTurn : yX5_learnTurn.cls = RX5 ∧ yX5_learnTurn.cls ≠ "java/lang/invoke/MethodHandle" ∧ yX5_learnTurn.cls ≠ "java/lang/invoke/VarHandle" ∧ (parseMethodDescriptor yX5_learnTurn.desc).map (fun d => d.parameters.length) = some 1 := by decide +kernel
theorem D5k_of : Cond.instanceMethod yX5_of ∈ wsL_law ∧ Cond.selects RX5 yX5_of yX5_of ∈ wsL_law ∧ Cond.initialized RX5 ∈ wsL_law ∧ Cond.code yX5_of cX5_of 2 (some .int) ∈ wsL_law := ⟨k_641, k_642, k_26, k_643⟩
theorem D5h_of : yX5_of.cls = RX5 ∧ yX5_of.cls ≠ "java/lang/invoke/MethodHandle" ∧ yX5_of.cls ≠ "java/lang/invoke/VarHandle" ∧ (parseMethodDescriptor yX5_of.desc).map (fun d => d.parameters.length) = some 1 := by decide +kernel
theorem D5k_countSums : Cond.instanceMethod yX5_countSums ∈ wsL_law ∧ Cond.selects RX5 yX5_countSums yX5_countSums ∈ wsL_law ∧ Cond.initialized RX5 ∈ wsL_law ∧ Cond.code yX5_countSums cX5_countSums 5 none ∈ wsL_law := ⟨k_817, k_818, k_26, k_819⟩
theorem D5h_countSums : yX5_countSums.cls = RX5 ∧ yX5_countSums.cls ≠ "java/lang/invoke/MethodHandle" ∧ yX5_countSums.cls ≠ "java/lang/invoke/VarHandle" ∧ (parseMethodDescriptor yX5_countSums.desc).map (fun d => d.parameters.length) = some 2 := by decide +kernel
theorem D5k_nthOfSum : Cond.instanceMethod yX5_nthOfSum ∈ wsL_law ∧ Cond.selects RX5 yX5_nthOfSum yX5_nthOfSum ∈ wsL_law ∧ Cond.initialized RX5 ∈ wsL_law ∧ Cond.code yX5_nthOfSum cX5_nthOfSum 7 (some .int) ∈ wsL_law := ⟨k_823, k_824, k_26, k_825⟩
theorem D5h_nthOfSum : yX5_nthOfSum.cls = RX5 ∧ yX5_nthOfSum.cls ≠ "java/lang/invoke/MethodHandle" ∧ yX5_nthOfSum.cls ≠ "java/lang/invoke/VarHandle" ∧ (parseMethodDescriptor yX5_nthOfSum.desc).map (fun d => d.parameters.length) = some 4 := by decide +kernel
theorem D5k_nthBest : Cond.instanceMethod yX5_nthBest ∈ wsL_law ∧ Cond.selects RX5 yX5_nthBest yX5_nthBest ∈ wsL_law ∧ Cond.initialized RX5 ∈ wsL_law ∧ Cond.code yX5_nthBest cX5_nthBest 8 (some .int) ∈ wsL_law := ⟨k_813, k_814, k_26, k_815⟩
theorem D5h_nthBest : yX5_nthBest.cls = RX5 ∧ yX5_nthBest.cls ≠ "java/lang/invoke/MethodHandle" ∧ yX5_nthBest.cls ≠ "java/lang/invoke/VarHandle" ∧ (parseMethodDescriptor yX5_nthBest.desc).map (fun d => d.parameters.length) = some 4 := by decide +kernel
theorem D7k_having : Cond.static yX7_having ∈ wsL_law ∧ Cond.initialized yX7_having.cls ∈ wsL_law ∧ Cond.code yX7_having cX7_having 2 (some .long) ∈ wsL_law := ⟨k_258, k_19, k_259⟩
theorem D7h_having : yX7_having.cls ≠ "java/lang/invoke/MethodHandle" ∧ yX7_having.cls ≠ "java/lang/invoke/VarHandle" ∧ (parseMethodDescriptor yX7_having.desc).map (fun d => d.parameters.length) = some 2 := by decide +kernel
theorem J13k_bitCount_95d88 : Cond.static yJ13_bitCount_95d88 ∈ wsL_law ∧ Cond.initialized yJ13_bitCount_95d88.cls ∈ wsL_law ∧ Cond.code yJ13_bitCount_95d88 cJ13_bitCount_95d88 2 (some .int) ∈ wsL_law := ⟨k_466, k_467, k_468⟩
theorem J13h_bitCount_95d88 : yJ13_bitCount_95d88.cls ≠ "java/lang/invoke/MethodHandle" ∧ yJ13_bitCount_95d88.cls ≠ "java/lang/invoke/VarHandle" ∧ (parseMethodDescriptor yJ13_bitCount_95d88.desc).map (fun d => d.parameters.length) = some 1 := by decide +kernel
theorem D7k_sizeWith : Cond.instanceMethod yX7_sizeWith ∈ wsL_law ∧ Cond.selects RX7 yX7_sizeWith yX7_sizeWith ∈ wsL_law ∧ Cond.initialized RX7 ∈ wsL_law ∧ Cond.code yX7_sizeWith cX7_sizeWith 4 (some .int) ∈ wsL_law := ⟨k_497, k_498, k_19, k_499⟩
theorem D7h_sizeWith : yX7_sizeWith.cls = RX7 ∧ yX7_sizeWith.cls ≠ "java/lang/invoke/MethodHandle" ∧ yX7_sizeWith.cls ≠ "java/lang/invoke/VarHandle" ∧ (parseMethodDescriptor yX7_sizeWith.desc).map (fun d => d.parameters.length) = some 1 := by decide +kernel
theorem D7k_used : Cond.instanceMethod yX7_used ∈ wsL_law ∧ Cond.selects RX7 yX7_used yX7_used ∈ wsL_law ∧ Cond.initialized RX7 ∈ wsL_law ∧ Cond.code yX7_used cX7_used 3 (some .int) ∈ wsL_law := ⟨k_493, k_494, k_19, k_495⟩
theorem D7h_used : yX7_used.cls = RX7 ∧ yX7_used.cls ≠ "java/lang/invoke/MethodHandle" ∧ yX7_used.cls ≠ "java/lang/invoke/VarHandle" ∧ (parseMethodDescriptor yX7_used.desc).map (fun d => d.parameters.length) = some 0 := by decide +kernel
theorem D7k_levelsBelow : Cond.static yX7_levelsBelow ∈ wsL_law ∧ Cond.initialized yX7_levelsBelow.cls ∈ wsL_law ∧ Cond.code yX7_levelsBelow cX7_levelsBelow 2 (some .int) ∈ wsL_law := ⟨k_501, k_19, k_502⟩
theorem D7h_levelsBelow : yX7_levelsBelow.cls ≠ "java/lang/invoke/MethodHandle" ∧ yX7_levelsBelow.cls ≠ "java/lang/invoke/VarHandle" ∧ (parseMethodDescriptor yX7_levelsBelow.desc).map (fun d => d.parameters.length) = some 1 := by decide +kernel
theorem D7k_holds : Cond.instanceMethod yX7_holds ∈ wsL_law ∧ Cond.selects RX7 yX7_holds yX7_holds ∈ wsL_law ∧ Cond.initialized RX7 ∈ wsL_law ∧ Cond.code yX7_holds cX7_holds 2 (some .boolean) ∈ wsL_law := ⟨k_504, k_505, k_19, k_506⟩
theorem D7h_holds : yX7_holds.cls = RX7 ∧ yX7_holds.cls ≠ "java/lang/invoke/MethodHandle" ∧ yX7_holds.cls ≠ "java/lang/invoke/VarHandle" ∧ (parseMethodDescriptor yX7_holds.desc).map (fun d => d.parameters.length) = some 1 := by decide +kernel
theorem D6k_addWithin : Cond.static yX6_addWithin ∈ wsL_law ∧ Cond.initialized yX6_addWithin.cls ∈ wsL_law ∧ Cond.code yX6_addWithin cX6_addWithin 5 none ∈ wsL_law := ⟨k_508, k_30, k_509⟩
theorem D6h_addWithin : yX6_addWithin.cls ≠ "java/lang/invoke/MethodHandle" ∧ yX6_addWithin.cls ≠ "java/lang/invoke/VarHandle" ∧ (parseMethodDescriptor yX6_addWithin.desc).map (fun d => d.parameters.length) = some 3 := by decide +kernel
theorem J7k_fill_d0a16 : Cond.static yJ7_fill_d0a16 ∈ wsL_law ∧ Cond.initialized yJ7_fill_d0a16.cls ∈ wsL_law ∧ Cond.code yJ7_fill_d0a16 cJ7_fill_d0a16 5 none ∈ wsL_law := ⟨k_215, k_89, k_216⟩
theorem J7h_fill_d0a16 : yJ7_fill_d0a16.cls ≠ "java/lang/invoke/MethodHandle" ∧ yJ7_fill_d0a16.cls ≠ "java/lang/invoke/VarHandle" ∧ (parseMethodDescriptor yJ7_fill_d0a16.desc).map (fun d => d.parameters.length) = some 2 := by decide +kernel
theorem D7k_clear : Cond.instanceMethod yX7_clear ∈ wsL_law ∧ Cond.selects RX7 yX7_clear yX7_clear ∈ wsL_law ∧ Cond.initialized RX7 ∈ wsL_law ∧ Cond.code yX7_clear cX7_clear 2 none ∈ wsL_law := ⟨k_210, k_211, k_19, k_212⟩
theorem D7h_clear : yX7_clear.cls = RX7 ∧ yX7_clear.cls ≠ "java/lang/invoke/MethodHandle" ∧ yX7_clear.cls ≠ "java/lang/invoke/VarHandle" ∧ (parseMethodDescriptor yX7_clear.desc).map (fun d => d.parameters.length) = some 1 := by decide +kernel
theorem D6k_unite : Cond.instanceMethod yX6_unite ∈ wsL_law ∧ Cond.selects RX6 yX6_unite yX6_unite ∈ wsL_law ∧ Cond.initialized RX6 ∈ wsL_law ∧ Cond.code yX6_unite cX6_unite 7 none ∈ wsL_law := ⟨k_489, k_490, k_30, k_491⟩
theorem D6h_unite : yX6_unite.cls = RX6 ∧ yX6_unite.cls ≠ "java/lang/invoke/MethodHandle" ∧ yX6_unite.cls ≠ "java/lang/invoke/VarHandle" ∧ (parseMethodDescriptor yX6_unite.desc).map (fun d => d.parameters.length) = some 3 := by decide +kernel
theorem D6k_chanceOf : Cond.instanceMethod yX6_chanceOf ∈ wsL_law ∧ Cond.selects RX6 yX6_chanceOf yX6_chanceOf ∈ wsL_law ∧ Cond.initialized RX6 ∈ wsL_law ∧ Cond.code yX6_chanceOf cX6_chanceOf 10 (some .long) ∈ wsL_law := ⟨k_865, k_866, k_30, k_867⟩
theorem D6h_chanceOf : yX6_chanceOf.cls = RX6 ∧ yX6_chanceOf.cls ≠ "java/lang/invoke/MethodHandle" ∧ yX6_chanceOf.cls ≠ "java/lang/invoke/VarHandle" ∧ (parseMethodDescriptor yX6_chanceOf.desc).map (fun d => d.parameters.length) = some 4 := by decide +kernel
theorem D7k_take : Cond.instanceMethod yX7_take ∈ wsL_law ∧ Cond.selects RX7 yX7_take yX7_take ∈ wsL_law ∧ Cond.initialized RX7 ∈ wsL_law ∧ Cond.code yX7_take cX7_take 2 none ∈ wsL_law := ⟨k_525, k_526, k_19, k_527⟩
theorem D7h_take : yX7_take.cls = RX7 ∧ yX7_take.cls ≠ "java/lang/invoke/MethodHandle" ∧ yX7_take.cls ≠ "java/lang/invoke/VarHandle" ∧ (parseMethodDescriptor yX7_take.desc).map (fun d => d.parameters.length) = some 1 := by decide +kernel
theorem D7k_list : Cond.instanceMethod yX7_list ∈ wsL_law ∧ Cond.selects RX7 yX7_list yX7_list ∈ wsL_law ∧ Cond.initialized RX7 ∈ wsL_law ∧ Cond.code yX7_list cX7_list 7 (some .int) ∈ wsL_law := ⟨k_441, k_442, k_19, k_443⟩
theorem D7h_list : yX7_list.cls = RX7 ∧ yX7_list.cls ≠ "java/lang/invoke/MethodHandle" ∧ yX7_list.cls ≠ "java/lang/invoke/VarHandle" ∧ (parseMethodDescriptor yX7_list.desc).map (fun d => d.parameters.length) = some 1 := by decide +kernel
theorem D7k_size : Cond.instanceMethod yX7_size ∈ wsL_law ∧ Cond.selects RX7 yX7_size yX7_size ∈ wsL_law ∧ Cond.initialized RX7 ∈ wsL_law ∧ Cond.code yX7_size cX7_size 3 (some .int) ∈ wsL_law := ⟨k_462, k_463, k_19, k_464⟩
theorem D7h_size : yX7_size.cls = RX7 ∧ yX7_size.cls ≠ "java/lang/invoke/MethodHandle" ∧ yX7_size.cls ≠ "java/lang/invoke/VarHandle" ∧ (parseMethodDescriptor yX7_size.desc).map (fun d => d.parameters.length) = some 0 := by decide +kernel
theorem D7k_sizeAhead : Cond.instanceMethod yX7_sizeAhead ∈ wsL_law ∧ Cond.selects RX7 yX7_sizeAhead yX7_sizeAhead ∈ wsL_law ∧ Cond.initialized RX7 ∈ wsL_law ∧ Cond.code yX7_sizeAhead cX7_sizeAhead 6 (some .int) ∈ wsL_law := ⟨k_801, k_802, k_19, k_803⟩
theorem D7h_sizeAhead : yX7_sizeAhead.cls = RX7 ∧ yX7_sizeAhead.cls ≠ "java/lang/invoke/MethodHandle" ∧ yX7_sizeAhead.cls ≠ "java/lang/invoke/VarHandle" ∧ (parseMethodDescriptor yX7_sizeAhead.desc).map (fun d => d.parameters.length) = some 1 := by decide +kernel
theorem D7k_nthBit : Cond.static yX7_nthBit ∈ wsL_law ∧ Cond.initialized yX7_nthBit.cls ∈ wsL_law ∧ Cond.code yX7_nthBit cX7_nthBit 5 (some .int) ∈ wsL_law := ⟨k_780, k_19, k_781⟩
theorem D7h_nthBit : yX7_nthBit.cls ≠ "java/lang/invoke/MethodHandle" ∧ yX7_nthBit.cls ≠ "java/lang/invoke/VarHandle" ∧ (parseMethodDescriptor yX7_nthBit.desc).map (fun d => d.parameters.length) = some 2 := by decide +kernel
theorem D7k_nth : Cond.instanceMethod yX7_nth ∈ wsL_law ∧ Cond.selects RX7 yX7_nth yX7_nth ∈ wsL_law ∧ Cond.initialized RX7 ∈ wsL_law ∧ Cond.code yX7_nth cX7_nth 5 (some .int) ∈ wsL_law := ⟨k_776, k_777, k_19, k_778⟩
theorem D7h_nth : yX7_nth.cls = RX7 ∧ yX7_nth.cls ≠ "java/lang/invoke/MethodHandle" ∧ yX7_nth.cls ≠ "java/lang/invoke/VarHandle" ∧ (parseMethodDescriptor yX7_nth.desc).map (fun d => d.parameters.length) = some 1 := by decide +kernel
theorem D7k_isLike : Cond.instanceMethod yX7_isLike ∈ wsL_law ∧ Cond.selects RX7 yX7_isLike yX7_isLike ∈ wsL_law ∧ Cond.initialized RX7 ∈ wsL_law ∧ Cond.code yX7_isLike cX7_isLike 3 (some .boolean) ∈ wsL_law := ⟨k_848, k_849, k_19, k_850⟩
theorem D7h_isLike : yX7_isLike.cls = RX7 ∧ yX7_isLike.cls ≠ "java/lang/invoke/MethodHandle" ∧ yX7_isLike.cls ≠ "java/lang/invoke/VarHandle" ∧ (parseMethodDescriptor yX7_isLike.desc).map (fun d => d.parameters.length) = some 1 := by decide +kernel
theorem D7k_copy : Cond.instanceMethod yX7_copy ∈ wsL_law ∧ Cond.selects RX7 yX7_copy yX7_copy ∈ wsL_law ∧ Cond.initialized RX7 ∈ wsL_law ∧ Cond.code yX7_copy cX7_copy 2 none ∈ wsL_law := ⟨k_529, k_530, k_19, k_531⟩
theorem D7h_copy : yX7_copy.cls = RX7 ∧ yX7_copy.cls ≠ "java/lang/invoke/MethodHandle" ∧ yX7_copy.cls ≠ "java/lang/invoke/VarHandle" ∧ (parseMethodDescriptor yX7_copy.desc).map (fun d => d.parameters.length) = some 1 := by decide +kernel
theorem D7k_takeBoth : Cond.instanceMethod yX7_takeBoth ∈ wsL_law ∧ Cond.selects RX7 yX7_takeBoth yX7_takeBoth ∈ wsL_law ∧ Cond.initialized RX7 ∈ wsL_law ∧ Cond.code yX7_takeBoth cX7_takeBoth 4 none ∈ wsL_law := ⟨k_477, k_478, k_19, k_479⟩
theorem D7h_takeBoth : yX7_takeBoth.cls = RX7 ∧ yX7_takeBoth.cls ≠ "java/lang/invoke/MethodHandle" ∧ yX7_takeBoth.cls ≠ "java/lang/invoke/VarHandle" ∧ (parseMethodDescriptor yX7_takeBoth.desc).map (fun d => d.parameters.length) = some 2 := by decide +kernel
theorem D7k_takeEither : Cond.instanceMethod yX7_takeEither ∈ wsL_law ∧ Cond.selects RX7 yX7_takeEither yX7_takeEither ∈ wsL_law ∧ Cond.initialized RX7 ∈ wsL_law ∧ Cond.code yX7_takeEither cX7_takeEither 4 none ∈ wsL_law := ⟨k_481, k_482, k_19, k_483⟩
theorem D7h_takeEither : yX7_takeEither.cls = RX7 ∧ yX7_takeEither.cls ≠ "java/lang/invoke/MethodHandle" ∧ yX7_takeEither.cls ≠ "java/lang/invoke/VarHandle" ∧ (parseMethodDescriptor yX7_takeEither.desc).map (fun d => d.parameters.length) = some 2 := by decide +kernel
theorem D7k_takeFirstAlone : Cond.instanceMethod yX7_takeFirstAlone ∈ wsL_law ∧ Cond.selects RX7 yX7_takeFirstAlone yX7_takeFirstAlone ∈ wsL_law ∧ Cond.initialized RX7 ∈ wsL_law ∧ Cond.code yX7_takeFirstAlone cX7_takeFirstAlone 4 none ∈ wsL_law := ⟨k_485, k_486, k_19, k_487⟩
theorem D7h_takeFirstAlone : yX7_takeFirstAlone.cls = RX7 ∧ yX7_takeFirstAlone.cls ≠ "java/lang/invoke/MethodHandle" ∧ yX7_takeFirstAlone.cls ≠ "java/lang/invoke/VarHandle" ∧ (parseMethodDescriptor yX7_takeFirstAlone.desc).map (fun d => d.parameters.length) = some 2 := by decide +kernel
theorem D7k_takeBy : Cond.instanceMethod yX7_takeBy ∈ wsL_law ∧ Cond.selects RX7 yX7_takeBy yX7_takeBy ∈ wsL_law ∧ Cond.initialized RX7 ∈ wsL_law ∧ Cond.code yX7_takeBy cX7_takeBy 7 none ∈ wsL_law := ⟨k_617, k_618, k_19, k_619⟩
theorem D7h_takeBy : yX7_takeBy.cls = RX7 ∧ yX7_takeBy.cls ≠ "java/lang/invoke/MethodHandle" ∧ yX7_takeBy.cls ≠ "java/lang/invoke/VarHandle" ∧ (parseMethodDescriptor yX7_takeBy.desc).map (fun d => d.parameters.length) = some 3 := by decide +kernel
theorem D7k_raise : Cond.instanceMethod yX7_raise ∈ wsL_law ∧ Cond.selects RX7 yX7_raise yX7_raise ∈ wsL_law ∧ Cond.initialized RX7 ∈ wsL_law ∧ Cond.code yX7_raise cX7_raise 5 none ∈ wsL_law := ⟨k_541, k_542, k_19, k_543⟩
theorem D7h_raise : yX7_raise.cls = RX7 ∧ yX7_raise.cls ≠ "java/lang/invoke/MethodHandle" ∧ yX7_raise.cls ≠ "java/lang/invoke/VarHandle" ∧ (parseMethodDescriptor yX7_raise.desc).map (fun d => d.parameters.length) = some 2 := by decide +kernel
theorem D7k_lower : Cond.instanceMethod yX7_lower ∈ wsL_law ∧ Cond.selects RX7 yX7_lower yX7_lower ∈ wsL_law ∧ Cond.initialized RX7 ∈ wsL_law ∧ Cond.code yX7_lower cX7_lower 5 none ∈ wsL_law := ⟨k_254, k_255, k_19, k_256⟩
theorem D7h_lower : yX7_lower.cls = RX7 ∧ yX7_lower.cls ≠ "java/lang/invoke/MethodHandle" ∧ yX7_lower.cls ≠ "java/lang/invoke/VarHandle" ∧ (parseMethodDescriptor yX7_lower.desc).map (fun d => d.parameters.length) = some 2 := by decide +kernel
theorem D7k_spreadUp : Cond.instanceMethod yX7_spreadUp ∈ wsL_law ∧ Cond.selects RX7 yX7_spreadUp yX7_spreadUp ∈ wsL_law ∧ Cond.initialized RX7 ∈ wsL_law ∧ Cond.code yX7_spreadUp cX7_spreadUp 2 none ∈ wsL_law := ⟨k_537, k_538, k_19, k_539⟩
theorem D7h_spreadUp : yX7_spreadUp.cls = RX7 ∧ yX7_spreadUp.cls ≠ "java/lang/invoke/MethodHandle" ∧ yX7_spreadUp.cls ≠ "java/lang/invoke/VarHandle" ∧ (parseMethodDescriptor yX7_spreadUp.desc).map (fun d => d.parameters.length) = some 0 := by decide +kernel
theorem D7k_spreadDown : Cond.instanceMethod yX7_spreadDown ∈ wsL_law ∧ Cond.selects RX7 yX7_spreadDown yX7_spreadDown ∈ wsL_law ∧ Cond.initialized RX7 ∈ wsL_law ∧ Cond.code yX7_spreadDown cX7_spreadDown 2 none ∈ wsL_law := ⟨k_250, k_251, k_19, k_252⟩
theorem D7h_spreadDown : yX7_spreadDown.cls = RX7 ∧ yX7_spreadDown.cls ≠ "java/lang/invoke/MethodHandle" ∧ yX7_spreadDown.cls ≠ "java/lang/invoke/VarHandle" ∧ (parseMethodDescriptor yX7_spreadDown.desc).map (fun d => d.parameters.length) = some 0 := by decide +kernel
theorem D7k_takeLeast : Cond.instanceMethod yX7_takeLeast ∈ wsL_law ∧ Cond.selects RX7 yX7_takeLeast yX7_takeLeast ∈ wsL_law ∧ Cond.initialized RX7 ∈ wsL_law ∧ Cond.code yX7_takeLeast cX7_takeLeast 4 none ∈ wsL_law := ⟨k_578, k_579, k_19, k_580⟩
theorem D7h_takeLeast : yX7_takeLeast.cls = RX7 ∧ yX7_takeLeast.cls ≠ "java/lang/invoke/MethodHandle" ∧ yX7_takeLeast.cls ≠ "java/lang/invoke/VarHandle" ∧ (parseMethodDescriptor yX7_takeLeast.desc).map (fun d => d.parameters.length) = some 2 := by decide +kernel
theorem D7k_takeGreatest : Cond.instanceMethod yX7_takeGreatest ∈ wsL_law ∧ Cond.selects RX7 yX7_takeGreatest yX7_takeGreatest ∈ wsL_law ∧ Cond.initialized RX7 ∈ wsL_law ∧ Cond.code yX7_takeGreatest cX7_takeGreatest 4 none ∈ wsL_law := ⟨k_585, k_586, k_19, k_587⟩
theorem D7h_takeGreatest : yX7_takeGreatest.cls = RX7 ∧ yX7_takeGreatest.cls ≠ "java/lang/invoke/MethodHandle" ∧ yX7_takeGreatest.cls ≠ "java/lang/invoke/VarHandle" ∧ (parseMethodDescriptor yX7_takeGreatest.desc).map (fun d => d.parameters.length) = some 2 := by decide +kernel
theorem D7k_takeHitting : Cond.instanceMethod yX7_takeHitting ∈ wsL_law ∧ Cond.selects RX7 yX7_takeHitting yX7_takeHitting ∈ wsL_law ∧ Cond.initialized RX7 ∈ wsL_law ∧ Cond.code yX7_takeHitting cX7_takeHitting 6 none ∈ wsL_law := ⟨k_590, k_591, k_19, k_592⟩
theorem D7h_takeHitting : yX7_takeHitting.cls = RX7 ∧ yX7_takeHitting.cls ≠ "java/lang/invoke/MethodHandle" ∧ yX7_takeHitting.cls ≠ "java/lang/invoke/VarHandle" ∧ (parseMethodDescriptor yX7_takeHitting.desc).map (fun d => d.parameters.length) = some 2 := by decide +kernel
theorem D7k_nextWithin : Cond.static yX7_nextWithin ∈ wsL_law ∧ Cond.initialized yX7_nextWithin.cls ∈ wsL_law ∧ Cond.code yX7_nextWithin cX7_nextWithin 2 (some .int) ∈ wsL_law := ⟨k_520, k_19, k_521⟩
theorem D7h_nextWithin : yX7_nextWithin.cls ≠ "java/lang/invoke/MethodHandle" ∧ yX7_nextWithin.cls ≠ "java/lang/invoke/VarHandle" ∧ (parseMethodDescriptor yX7_nextWithin.desc).map (fun d => d.parameters.length) = some 2 := by decide +kernel
theorem D7k_takeOver : Cond.instanceMethod yX7_takeOver ∈ wsL_law ∧ Cond.selects RX7 yX7_takeOver yX7_takeOver ∈ wsL_law ∧ Cond.initialized RX7 ∈ wsL_law ∧ Cond.code yX7_takeOver cX7_takeOver 10 none ∈ wsL_law := ⟨k_513, k_514, k_19, k_515⟩
theorem D7h_takeOver : yX7_takeOver.cls = RX7 ∧ yX7_takeOver.cls ≠ "java/lang/invoke/MethodHandle" ∧ yX7_takeOver.cls ≠ "java/lang/invoke/VarHandle" ∧ (parseMethodDescriptor yX7_takeOver.desc).map (fun d => d.parameters.length) = some 3 := by decide +kernel
theorem D8k_post : Cond.instanceMethod yX8_post ∈ wsL_law ∧ Cond.selects RX8 yX8_post yX8_post ∈ wsL_law ∧ Cond.initialized RX8 ∈ wsL_law ∧ Cond.code yX8_post cX8_post 2 (some .int) ∈ wsL_law := ⟨k_127, k_128, k_2, k_129⟩
theorem D8h_post : yX8_post.cls = RX8 ∧ yX8_post.cls ≠ "java/lang/invoke/MethodHandle" ∧ yX8_post.cls ≠ "java/lang/invoke/VarHandle" ∧ (parseMethodDescriptor yX8_post.desc).map (fun d => d.parameters.length) = some 1 := by decide +kernel
theorem D8k_road : Cond.instanceMethod yX8_road ∈ wsL_law ∧ Cond.selects RX8 yX8_road yX8_road ∈ wsL_law ∧ Cond.initialized RX8 ∈ wsL_law ∧ Cond.code yX8_road cX8_road 4 (some .int) ∈ wsL_law := ⟨k_144, k_145, k_2, k_146⟩
theorem D8h_road : yX8_road.cls = RX8 ∧ yX8_road.cls ≠ "java/lang/invoke/MethodHandle" ∧ yX8_road.cls ≠ "java/lang/invoke/VarHandle" ∧ (parseMethodDescriptor yX8_road.desc).map (fun d => d.parameters.length) = some 3 := by decide +kernel
theorem D8k_odds : Cond.instanceMethod yX8_odds ∈ wsL_law ∧ Cond.selects RX8 yX8_odds yX8_odds ∈ wsL_law ∧ Cond.initialized RX8 ∈ wsL_law ∧ Cond.code yX8_odds cX8_odds 4 (some .int) ∈ wsL_law := ⟨k_173, k_174, k_2, k_175⟩
theorem D8h_odds : yX8_odds.cls = RX8 ∧ yX8_odds.cls ≠ "java/lang/invoke/MethodHandle" ∧ yX8_odds.cls ≠ "java/lang/invoke/VarHandle" ∧ (parseMethodDescriptor yX8_odds.desc).map (fun d => d.parameters.length) = some 2 := by decide +kernel
theorem D8k_roadOf : Cond.instanceMethod yX8_roadOf ∈ wsL_law ∧ Cond.selects RX8 yX8_roadOf yX8_roadOf ∈ wsL_law ∧ Cond.initialized RX8 ∈ wsL_law ∧ Cond.code yX8_roadOf cX8_roadOf 3 (some .int) ∈ wsL_law := ⟨k_186, k_187, k_2, k_188⟩
theorem D8h_roadOf : yX8_roadOf.cls = RX8 ∧ yX8_roadOf.cls ≠ "java/lang/invoke/MethodHandle" ∧ yX8_roadOf.cls ≠ "java/lang/invoke/VarHandle" ∧ (parseMethodDescriptor yX8_roadOf.desc).map (fun d => d.parameters.length) = some 2 := by decide +kernel
theorem D8k_blank : Cond.instanceMethod yX8_blank ∈ wsL_law ∧ Cond.selects RX8 yX8_blank yX8_blank ∈ wsL_law ∧ Cond.initialized RX8 ∈ wsL_law ∧ Cond.code yX8_blank cX8_blank 3 (some (.object "WayBook$Ways")) ∈ wsL_law := ⟨k_205, k_206, k_2, k_207⟩
theorem D8h_blank : yX8_blank.cls = RX8 ∧ yX8_blank.cls ≠ "java/lang/invoke/MethodHandle" ∧ yX8_blank.cls ≠ "java/lang/invoke/VarHandle" ∧ (parseMethodDescriptor yX8_blank.desc).map (fun d => d.parameters.length) = some 1 := by decide +kernel
theorem D8k_mirrored : Cond.static yX8_mirrored ∈ wsL_law ∧ Cond.initialized yX8_mirrored.cls ∈ wsL_law ∧ Cond.code yX8_mirrored cX8_mirrored 3 (some .int) ∈ wsL_law := ⟨k_218, k_2, k_219⟩
theorem D8h_mirrored : yX8_mirrored.cls ≠ "java/lang/invoke/MethodHandle" ∧ yX8_mirrored.cls ≠ "java/lang/invoke/VarHandle" ∧ (parseMethodDescriptor yX8_mirrored.desc).map (fun d => d.parameters.length) = some 1 := by decide +kernel
theorem D8k_keep : Cond.instanceMethod yX8_keep ∈ wsL_law ∧ Cond.selects RX8 yX8_keep yX8_keep ∈ wsL_law ∧ Cond.initialized RX8 ∈ wsL_law ∧ Cond.code yX8_keep cX8_keep 1 (some .int) ∈ wsL_law := ⟨k_225, k_226, k_2, k_227⟩
theorem D8h_keep : yX8_keep.cls = RX8 ∧ yX8_keep.cls ≠ "java/lang/invoke/MethodHandle" ∧ yX8_keep.cls ≠ "java/lang/invoke/VarHandle" ∧ (parseMethodDescriptor yX8_keep.desc).map (fun d => d.parameters.length) = some 0 := by decide +kernel
theorem D8k_tell : Cond.instanceMethod yX8_tell ∈ wsL_law ∧ Cond.selects RX8 yX8_tell yX8_tell ∈ wsL_law ∧ Cond.initialized RX8 ∈ wsL_law ∧ Cond.code yX8_tell cX8_tell 3 (some .int) ∈ wsL_law := ⟨k_197, k_198, k_2, k_199⟩
theorem D8h_tell : yX8_tell.cls = RX8 ∧ yX8_tell.cls ≠ "java/lang/invoke/MethodHandle" ∧ yX8_tell.cls ≠ "java/lang/invoke/VarHandle" ∧ (parseMethodDescriptor yX8_tell.desc).map (fun d => d.parameters.length) = some 1 := by decide +kernel
theorem D8k_all : Cond.instanceMethod yX8_all ∈ wsL_law ∧ Cond.selects RX8 yX8_all yX8_all ∈ wsL_law ∧ Cond.initialized RX8 ∈ wsL_law ∧ Cond.code yX8_all cX8_all 3 (some .int) ∈ wsL_law := ⟨k_246, k_247, k_2, k_248⟩
theorem D8h_all : yX8_all.cls = RX8 ∧ yX8_all.cls ≠ "java/lang/invoke/MethodHandle" ∧ yX8_all.cls ≠ "java/lang/invoke/VarHandle" ∧ (parseMethodDescriptor yX8_all.desc).map (fun d => d.parameters.length) = some 1 := by decide +kernel
theorem D8k_family : Cond.instanceMethod yX8_family ∈ wsL_law ∧ Cond.selects RX8 yX8_family yX8_family ∈ wsL_law ∧ Cond.initialized RX8 ∈ wsL_law ∧ Cond.code yX8_family cX8_family 2 (some (.object "WayBook$Ways")) ∈ wsL_law := ⟨k_431, k_432, k_2, k_433⟩
theorem D8h_family : yX8_family.cls = RX8 ∧ yX8_family.cls ≠ "java/lang/invoke/MethodHandle" ∧ yX8_family.cls ≠ "java/lang/invoke/VarHandle" ∧ (parseMethodDescriptor yX8_family.desc).map (fun d => d.parameters.length) = some 1 := by decide +kernel
theorem D8k_degrees : Cond.instanceMethod yX8_degrees ∈ wsL_law ∧ Cond.selects RX8 yX8_degrees yX8_degrees ∈ wsL_law ∧ Cond.initialized RX8 ∈ wsL_law ∧ Cond.code yX8_degrees cX8_degrees 11 (some .int) ∈ wsL_law := ⟨k_427, k_428, k_2, k_429⟩
theorem D8h_degrees : yX8_degrees.cls = RX8 ∧ yX8_degrees.cls ≠ "java/lang/invoke/MethodHandle" ∧ yX8_degrees.cls ≠ "java/lang/invoke/VarHandle" ∧ (parseMethodDescriptor yX8_degrees.desc).map (fun d => d.parameters.length) = some 4 := by decide +kernel
theorem D8k_fillJoined : Cond.instanceMethod yX8_fillJoined ∈ wsL_law ∧ Cond.selects RX8 yX8_fillJoined yX8_fillJoined ∈ wsL_law ∧ Cond.initialized RX8 ∈ wsL_law ∧ Cond.code yX8_fillJoined cX8_fillJoined 5 none ∈ wsL_law := ⟨k_473, k_474, k_2, k_475⟩
theorem D8h_fillJoined : yX8_fillJoined.cls = RX8 ∧ yX8_fillJoined.cls ≠ "java/lang/invoke/MethodHandle" ∧ yX8_fillJoined.cls ≠ "java/lang/invoke/VarHandle" ∧ (parseMethodDescriptor yX8_fillJoined.desc).map (fun d => d.parameters.length) = some 4 := by decide +kernel
theorem D8k_join : Cond.instanceMethod yX8_join ∈ wsL_law ∧ Cond.selects RX8 yX8_join yX8_join ∈ wsL_law ∧ Cond.initialized RX8 ∈ wsL_law ∧ Cond.code yX8_join cX8_join 7 (some .int) ∈ wsL_law := ⟨k_458, k_459, k_2, k_460⟩
theorem D8h_join : yX8_join.cls = RX8 ∧ yX8_join.cls ≠ "java/lang/invoke/MethodHandle" ∧ yX8_join.cls ≠ "java/lang/invoke/VarHandle" ∧ (parseMethodDescriptor yX8_join.desc).map (fun d => d.parameters.length) = some 3 := by decide +kernel
theorem D8k_thin : Cond.instanceMethod yX8_thin ∈ wsL_law ∧ Cond.selects RX8 yX8_thin yX8_thin ∈ wsL_law ∧ Cond.initialized RX8 ∈ wsL_law ∧ Cond.code yX8_thin cX8_thin 5 (some .int) ∈ wsL_law := ⟨k_573, k_574, k_2, k_575⟩
theorem D8h_thin : yX8_thin.cls = RX8 ∧ yX8_thin.cls ≠ "java/lang/invoke/MethodHandle" ∧ yX8_thin.cls ≠ "java/lang/invoke/VarHandle" ∧ (parseMethodDescriptor yX8_thin.desc).map (fun d => d.parameters.length) = some 2 := by decide +kernel
theorem D8k_by : Cond.instanceMethod yX8_by ∈ wsL_law ∧ Cond.selects RX8 yX8_by yX8_by ∈ wsL_law ∧ Cond.initialized RX8 ∈ wsL_law ∧ Cond.code yX8_by cX8_by 7 (some .int) ∈ wsL_law := ⟨k_611, k_612, k_2, k_613⟩
theorem D8h_by : yX8_by.cls = RX8 ∧ yX8_by.cls ≠ "java/lang/invoke/MethodHandle" ∧ yX8_by.cls ≠ "java/lang/invoke/VarHandle" ∧ (parseMethodDescriptor yX8_by.desc).map (fun d => d.parameters.length) = some 3 := by decide +kernel
theorem D8k_within : Cond.instanceMethod yX8_within ∈ wsL_law ∧ Cond.selects RX8 yX8_within yX8_within ∈ wsL_law ∧ Cond.initialized RX8 ∈ wsL_law ∧ Cond.code yX8_within cX8_within 9 (some .int) ∈ wsL_law := ⟨k_625, k_626, k_2, k_627⟩
theorem D8h_within : yX8_within.cls = RX8 ∧ yX8_within.cls ≠ "java/lang/invoke/MethodHandle" ∧ yX8_within.cls ≠ "java/lang/invoke/VarHandle" ∧ (parseMethodDescriptor yX8_within.desc).map (fun d => d.parameters.length) = some 3 := by decide +kernel
theorem D8k_drop : Cond.instanceMethod yX8_drop ∈ wsL_law ∧ Cond.selects RX8 yX8_drop yX8_drop ∈ wsL_law ∧ Cond.initialized RX8 ∈ wsL_law ∧ Cond.code yX8_drop cX8_drop 1 (some .int) ∈ wsL_law := ⟨k_653, k_654, k_2, k_655⟩
theorem D8h_drop : yX8_drop.cls = RX8 ∧ yX8_drop.cls ≠ "java/lang/invoke/MethodHandle" ∧ yX8_drop.cls ≠ "java/lang/invoke/VarHandle" ∧ (parseMethodDescriptor yX8_drop.desc).map (fun d => d.parameters.length) = some 0 := by decide +kernel
theorem D8k_close : Cond.instanceMethod yX8_close ∈ wsL_law ∧ Cond.selects RX8 yX8_close yX8_close ∈ wsL_law ∧ Cond.initialized RX8 ∈ wsL_law ∧ Cond.code yX8_close cX8_close 1 (some .int) ∈ wsL_law := ⟨k_661, k_662, k_2, k_663⟩
theorem D8h_close : yX8_close.cls = RX8 ∧ yX8_close.cls ≠ "java/lang/invoke/MethodHandle" ∧ yX8_close.cls ≠ "java/lang/invoke/VarHandle" ∧ (parseMethodDescriptor yX8_close.desc).map (fun d => d.parameters.length) = some 0 := by decide +kernel
theorem D8k_count : Cond.instanceMethod yX8_count ∈ wsL_law ∧ Cond.selects RX8 yX8_count yX8_count ∈ wsL_law ∧ Cond.initialized RX8 ∈ wsL_law ∧ Cond.code yX8_count cX8_count 3 (some .int) ∈ wsL_law := ⟨k_674, k_675, k_2, k_676⟩
theorem D8h_count : yX8_count.cls = RX8 ∧ yX8_count.cls ≠ "java/lang/invoke/MethodHandle" ∧ yX8_count.cls ≠ "java/lang/invoke/VarHandle" ∧ (parseMethodDescriptor yX8_count.desc).map (fun d => d.parameters.length) = some 1 := by decide +kernel
theorem D8k_told : Cond.instanceMethod yX8_told ∈ wsL_law ∧ Cond.selects RX8 yX8_told yX8_told ∈ wsL_law ∧ Cond.initialized RX8 ∈ wsL_law ∧ Cond.code yX8_told cX8_told 4 (some .int) ∈ wsL_law := ⟨k_682, k_683, k_2, k_684⟩
theorem D8h_told : yX8_told.cls = RX8 ∧ yX8_told.cls ≠ "java/lang/invoke/MethodHandle" ∧ yX8_told.cls ≠ "java/lang/invoke/VarHandle" ∧ (parseMethodDescriptor yX8_told.desc).map (fun d => d.parameters.length) = some 2 := by decide +kernel
theorem D8k_total : Cond.instanceMethod yX8_total ∈ wsL_law ∧ Cond.selects RX8 yX8_total yX8_total ∈ wsL_law ∧ Cond.initialized RX8 ∈ wsL_law ∧ Cond.code yX8_total cX8_total 6 (some .long) ∈ wsL_law := ⟨k_745, k_746, k_2, k_747⟩
theorem D8h_total : yX8_total.cls = RX8 ∧ yX8_total.cls ≠ "java/lang/invoke/MethodHandle" ∧ yX8_total.cls ≠ "java/lang/invoke/VarHandle" ∧ (parseMethodDescriptor yX8_total.desc).map (fun d => d.parameters.length) = some 1 := by decide +kernel
theorem D8k_often : Cond.instanceMethod yX8_often ∈ wsL_law ∧ Cond.selects RX8 yX8_often yX8_often ∈ wsL_law ∧ Cond.initialized RX8 ∈ wsL_law ∧ Cond.code yX8_often cX8_often 4 (some .int) ∈ wsL_law := ⟨k_755, k_756, k_2, k_757⟩
theorem D8h_often : yX8_often.cls = RX8 ∧ yX8_often.cls ≠ "java/lang/invoke/MethodHandle" ∧ yX8_often.cls ≠ "java/lang/invoke/VarHandle" ∧ (parseMethodDescriptor yX8_often.desc).map (fun d => d.parameters.length) = some 2 := by decide +kernel
theorem D8k_has : Cond.instanceMethod yX8_has ∈ wsL_law ∧ Cond.selects RX8 yX8_has yX8_has ∈ wsL_law ∧ Cond.initialized RX8 ∈ wsL_law ∧ Cond.code yX8_has cX8_has 4 (some .int) ∈ wsL_law := ⟨k_763, k_764, k_2, k_765⟩
theorem D8h_has : yX8_has.cls = RX8 ∧ yX8_has.cls ≠ "java/lang/invoke/MethodHandle" ∧ yX8_has.cls ≠ "java/lang/invoke/VarHandle" ∧ (parseMethodDescriptor yX8_has.desc).map (fun d => d.parameters.length) = some 2 := by decide +kernel
theorem D8k_maskAt : Cond.static yX8_maskAt ∈ wsL_law ∧ Cond.initialized yX8_maskAt.cls ∈ wsL_law ∧ Cond.code yX8_maskAt cX8_maskAt 1 (some .int) ∈ wsL_law := ⟨k_783, k_2, k_784⟩
theorem D8h_maskAt : yX8_maskAt.cls ≠ "java/lang/invoke/MethodHandle" ∧ yX8_maskAt.cls ≠ "java/lang/invoke/VarHandle" ∧ (parseMethodDescriptor yX8_maskAt.desc).map (fun d => d.parameters.length) = some 1 := by decide +kernel
theorem D8k_way : Cond.instanceMethod yX8_way ∈ wsL_law ∧ Cond.selects RX8 yX8_way yX8_way ∈ wsL_law ∧ Cond.initialized RX8 ∈ wsL_law ∧ Cond.code yX8_way cX8_way 4 (some .int) ∈ wsL_law := ⟨k_772, k_773, k_2, k_774⟩
theorem D8h_way : yX8_way.cls = RX8 ∧ yX8_way.cls ≠ "java/lang/invoke/MethodHandle" ∧ yX8_way.cls ≠ "java/lang/invoke/VarHandle" ∧ (parseMethodDescriptor yX8_way.desc).map (fun d => d.parameters.length) = some 2 := by decide +kernel
theorem D8k_rank : Cond.instanceMethod yX8_rank ∈ wsL_law ∧ Cond.selects RX8 yX8_rank yX8_rank ∈ wsL_law ∧ Cond.initialized RX8 ∈ wsL_law ∧ Cond.code yX8_rank cX8_rank 4 (some .int) ∈ wsL_law := ⟨k_797, k_798, k_2, k_799⟩
theorem D8h_rank : yX8_rank.cls = RX8 ∧ yX8_rank.cls ≠ "java/lang/invoke/MethodHandle" ∧ yX8_rank.cls ≠ "java/lang/invoke/VarHandle" ∧ (parseMethodDescriptor yX8_rank.desc).map (fun d => d.parameters.length) = some 2 := by decide +kernel
theorem D8k_best : Cond.instanceMethod yX8_best ∈ wsL_law ∧ Cond.selects RX8 yX8_best yX8_best ∈ wsL_law ∧ Cond.initialized RX8 ∈ wsL_law ∧ Cond.code yX8_best cX8_best 5 (some .int) ∈ wsL_law := ⟨k_809, k_810, k_2, k_811⟩
theorem D8h_best : yX8_best.cls = RX8 ∧ yX8_best.cls ≠ "java/lang/invoke/MethodHandle" ∧ yX8_best.cls ≠ "java/lang/invoke/VarHandle" ∧ (parseMethodDescriptor yX8_best.desc).map (fun d => d.parameters.length) = some 3 := by decide +kernel
theorem D8k_drawn : Cond.static yX8_drawn ∈ wsL_law ∧ Cond.initialized yX8_drawn.cls ∈ wsL_law ∧ Cond.code yX8_drawn cX8_drawn 6 (some .int) ∈ wsL_law := ⟨k_835, k_2, k_836⟩
theorem D8h_drawn : yX8_drawn.cls ≠ "java/lang/invoke/MethodHandle" ∧ yX8_drawn.cls ≠ "java/lang/invoke/VarHandle" ∧ (parseMethodDescriptor yX8_drawn.desc).map (fun d => d.parameters.length) = some 2 := by decide +kernel
theorem D8k_draw : Cond.instanceMethod yX8_draw ∈ wsL_law ∧ Cond.selects RX8 yX8_draw yX8_draw ∈ wsL_law ∧ Cond.initialized RX8 ∈ wsL_law ∧ Cond.code yX8_draw cX8_draw 5 (some .int) ∈ wsL_law := ⟨k_831, k_832, k_2, k_833⟩
theorem D8h_draw : yX8_draw.cls = RX8 ∧ yX8_draw.cls ≠ "java/lang/invoke/MethodHandle" ∧ yX8_draw.cls ≠ "java/lang/invoke/VarHandle" ∧ (parseMethodDescriptor yX8_draw.desc).map (fun d => d.parameters.length) = some 2 := by decide +kernel
theorem D8k_same : Cond.instanceMethod yX8_same ∈ wsL_law ∧ Cond.selects RX8 yX8_same yX8_same ∈ wsL_law ∧ Cond.initialized RX8 ∈ wsL_law ∧ Cond.code yX8_same cX8_same 5 (some .int) ∈ wsL_law := ⟨k_844, k_845, k_2, k_846⟩
theorem D8h_same : yX8_same.cls = RX8 ∧ yX8_same.cls ≠ "java/lang/invoke/MethodHandle" ∧ yX8_same.cls ≠ "java/lang/invoke/VarHandle" ∧ (parseMethodDescriptor yX8_same.desc).map (fun d => d.parameters.length) = some 2 := by decide +kernel
theorem D8k_chanceIf : Cond.instanceMethod yX8_chanceIf ∈ wsL_law ∧ Cond.selects RX8 yX8_chanceIf yX8_chanceIf ∈ wsL_law ∧ Cond.initialized RX8 ∈ wsL_law ∧ Cond.code yX8_chanceIf cX8_chanceIf 4 (some .long) ∈ wsL_law := ⟨k_861, k_862, k_2, k_863⟩
theorem D8h_chanceIf : yX8_chanceIf.cls = RX8 ∧ yX8_chanceIf.cls ≠ "java/lang/invoke/MethodHandle" ∧ yX8_chanceIf.cls ≠ "java/lang/invoke/VarHandle" ∧ (parseMethodDescriptor yX8_chanceIf.desc).map (fun d => d.parameters.length) = some 3 := by decide +kernel
theorem D8k_chance : Cond.instanceMethod yX8_chance ∈ wsL_law ∧ Cond.selects RX8 yX8_chance yX8_chance ∈ wsL_law ∧ Cond.initialized RX8 ∈ wsL_law ∧ Cond.code yX8_chance cX8_chance 3 (some .long) ∈ wsL_law := ⟨k_856, k_857, k_2, k_858⟩
theorem D8h_chance : yX8_chance.cls = RX8 ∧ yX8_chance.cls ≠ "java/lang/invoke/MethodHandle" ∧ yX8_chance.cls ≠ "java/lang/invoke/VarHandle" ∧ (parseMethodDescriptor yX8_chance.desc).map (fun d => d.parameters.length) = some 1 := by decide +kernel
theorem D8k_matters : Cond.instanceMethod yX8_matters ∈ wsL_law ∧ Cond.selects RX8 yX8_matters yX8_matters ∈ wsL_law ∧ Cond.initialized RX8 ∈ wsL_law ∧ Cond.code yX8_matters cX8_matters 4 (some .long) ∈ wsL_law := ⟨k_883, k_884, k_2, k_885⟩
theorem D8h_matters : yX8_matters.cls = RX8 ∧ yX8_matters.cls ≠ "java/lang/invoke/MethodHandle" ∧ yX8_matters.cls ≠ "java/lang/invoke/VarHandle" ∧ (parseMethodDescriptor yX8_matters.desc).map (fun d => d.parameters.length) = some 2 := by decide +kernel
theorem D8k_turned : Cond.instanceMethod yX8_turned ∈ wsL_law ∧ Cond.selects RX8 yX8_turned yX8_turned ∈ wsL_law ∧ Cond.initialized RX8 ∈ wsL_law ∧ Cond.code yX8_turned cX8_turned 6 (some .int) ∈ wsL_law := ⟨k_891, k_892, k_2, k_893⟩
theorem D8h_turned : yX8_turned.cls = RX8 ∧ yX8_turned.cls ≠ "java/lang/invoke/MethodHandle" ∧ yX8_turned.cls ≠ "java/lang/invoke/VarHandle" ∧ (parseMethodDescriptor yX8_turned.desc).map (fun d => d.parameters.length) = some 2 := by decide +kernel
theorem D8k_write : Cond.instanceMethod yX8_write ∈ wsL_law ∧ Cond.selects RX8 yX8_write yX8_write ∈ wsL_law ∧ Cond.initialized RX8 ∈ wsL_law ∧ Cond.code yX8_write cX8_write 3 (some .int) ∈ wsL_law := ⟨k_904, k_905, k_2, k_906⟩
theorem D8h_write : yX8_write.cls = RX8 ∧ yX8_write.cls ≠ "java/lang/invoke/MethodHandle" ∧ yX8_write.cls ≠ "java/lang/invoke/VarHandle" ∧ (parseMethodDescriptor yX8_write.desc).map (fun d => d.parameters.length) = some 1 := by decide +kernel
theorem D8k_row : Cond.instanceMethod yX8_row ∈ wsL_law ∧ Cond.selects RX8 yX8_row yX8_row ∈ wsL_law ∧ Cond.initialized RX8 ∈ wsL_law ∧ Cond.code yX8_row cX8_row 3 (some .int) ∈ wsL_law := ⟨k_930, k_931, k_2, k_932⟩
theorem D8h_row : yX8_row.cls = RX8 ∧ yX8_row.cls ≠ "java/lang/invoke/MethodHandle" ∧ yX8_row.cls ≠ "java/lang/invoke/VarHandle" ∧ (parseMethodDescriptor yX8_row.desc).map (fun d => d.parameters.length) = some 2 := by decide +kernel
theorem D8k_forge : Cond.instanceMethod yX8_forge ∈ wsL_law ∧ Cond.selects RX8 yX8_forge yX8_forge ∈ wsL_law ∧ Cond.initialized RX8 ∈ wsL_law ∧ Cond.code yX8_forge cX8_forge 4 (some .int) ∈ wsL_law := ⟨k_940, k_941, k_2, k_942⟩
theorem D8h_forge : yX8_forge.cls = RX8 ∧ yX8_forge.cls ≠ "java/lang/invoke/MethodHandle" ∧ yX8_forge.cls ≠ "java/lang/invoke/VarHandle" ∧ (parseMethodDescriptor yX8_forge.desc).map (fun d => d.parameters.length) = some 3 := by decide +kernel
theorem D8k_check : Cond.instanceMethod yX8_check ∈ wsL_law ∧ Cond.selects RX8 yX8_check yX8_check ∈ wsL_law ∧ Cond.initialized RX8 ∈ wsL_law ∧ Cond.code yX8_check cX8_check 4 (some .int) ∈ wsL_law := ⟨k_948, k_949, k_2, k_950⟩
theorem D8h_check : yX8_check.cls = RX8 ∧ yX8_check.cls ≠ "java/lang/invoke/MethodHandle" ∧ yX8_check.cls ≠ "java/lang/invoke/VarHandle" ∧ (parseMethodDescriptor yX8_check.desc).map (fun d => d.parameters.length) = some 1 := by decide +kernel
theorem D8k_sheet : Cond.instanceMethod yX8_sheet ∈ wsL_law ∧ Cond.selects RX8 yX8_sheet yX8_sheet ∈ wsL_law ∧ Cond.initialized RX8 ∈ wsL_law ∧ Cond.code yX8_sheet cX8_sheet 4 (some .int) ∈ wsL_law := ⟨k_987, k_988, k_2, k_989⟩
theorem D8h_sheet : yX8_sheet.cls = RX8 ∧ yX8_sheet.cls ≠ "java/lang/invoke/MethodHandle" ∧ yX8_sheet.cls ≠ "java/lang/invoke/VarHandle" ∧ (parseMethodDescriptor yX8_sheet.desc).map (fun d => d.parameters.length) = some 3 := by decide +kernel
theorem D8k_cell : Cond.instanceMethod yX8_cell ∈ wsL_law ∧ Cond.selects RX8 yX8_cell yX8_cell ∈ wsL_law ∧ Cond.initialized RX8 ∈ wsL_law ∧ Cond.code yX8_cell cX8_cell 4 (some .int) ∈ wsL_law := ⟨k_1003, k_1004, k_2, k_1005⟩
theorem D8h_cell : yX8_cell.cls = RX8 ∧ yX8_cell.cls ≠ "java/lang/invoke/MethodHandle" ∧ yX8_cell.cls ≠ "java/lang/invoke/VarHandle" ∧ (parseMethodDescriptor yX8_cell.desc).map (fun d => d.parameters.length) = some 3 := by decide +kernel
theorem D8k_lay : Cond.instanceMethod yX8_lay ∈ wsL_law ∧ Cond.selects RX8 yX8_lay yX8_lay ∈ wsL_law ∧ Cond.initialized RX8 ∈ wsL_law ∧ Cond.code yX8_lay cX8_lay 5 (some .int) ∈ wsL_law := ⟨k_1022, k_1023, k_2, k_1024⟩
theorem D8h_lay : yX8_lay.cls = RX8 ∧ yX8_lay.cls ≠ "java/lang/invoke/MethodHandle" ∧ yX8_lay.cls ≠ "java/lang/invoke/VarHandle" ∧ (parseMethodDescriptor yX8_lay.desc).map (fun d => d.parameters.length) = some 3 := by decide +kernel
theorem D8k_shelf : Cond.instanceMethod yX8_shelf ∈ wsL_law ∧ Cond.selects RX8 yX8_shelf yX8_shelf ∈ wsL_law ∧ Cond.initialized RX8 ∈ wsL_law ∧ Cond.code yX8_shelf cX8_shelf 5 (some .int) ∈ wsL_law := ⟨k_1040, k_1041, k_2, k_1042⟩
theorem D8h_shelf : yX8_shelf.cls = RX8 ∧ yX8_shelf.cls ≠ "java/lang/invoke/MethodHandle" ∧ yX8_shelf.cls ≠ "java/lang/invoke/VarHandle" ∧ (parseMethodDescriptor yX8_shelf.desc).map (fun d => d.parameters.length) = some 3 := by decide +kernel
theorem D8k_taken : Cond.instanceMethod yX8_taken ∈ wsL_law ∧ Cond.selects RX8 yX8_taken yX8_taken ∈ wsL_law ∧ Cond.initialized RX8 ∈ wsL_law ∧ Cond.code yX8_taken cX8_taken 3 (some .int) ∈ wsL_law := ⟨k_1058, k_1059, k_2, k_1060⟩
theorem D8h_taken : yX8_taken.cls = RX8 ∧ yX8_taken.cls ≠ "java/lang/invoke/MethodHandle" ∧ yX8_taken.cls ≠ "java/lang/invoke/VarHandle" ∧ (parseMethodDescriptor yX8_taken.desc).map (fun d => d.parameters.length) = some 2 := by decide +kernel
theorem D8k_act : Cond.instanceMethod yX8_act ∈ wsL_law ∧ Cond.selects RX8 yX8_act yX8_act ∈ wsL_law ∧ Cond.initialized RX8 ∈ wsL_law ∧ Cond.code yX8_act cX8_act 5 (some .int) ∈ wsL_law := ⟨k_1076, k_1077, k_2, k_1078⟩
theorem D8h_act : yX8_act.cls = RX8 ∧ yX8_act.cls ≠ "java/lang/invoke/MethodHandle" ∧ yX8_act.cls ≠ "java/lang/invoke/VarHandle" ∧ (parseMethodDescriptor yX8_act.desc).map (fun d => d.parameters.length) = some 3 := by decide +kernel
theorem D8k_trace : Cond.instanceMethod yX8_trace ∈ wsL_law ∧ Cond.selects RX8 yX8_trace yX8_trace ∈ wsL_law ∧ Cond.initialized RX8 ∈ wsL_law ∧ Cond.code yX8_trace cX8_trace 2 (some .int) ∈ wsL_law := ⟨k_1135, k_1136, k_2, k_1137⟩
theorem D8h_trace : yX8_trace.cls = RX8 ∧ yX8_trace.cls ≠ "java/lang/invoke/MethodHandle" ∧ yX8_trace.cls ≠ "java/lang/invoke/VarHandle" ∧ (parseMethodDescriptor yX8_trace.desc).map (fun d => d.parameters.length) = some 1 := by decide +kernel
theorem D8k_there : Cond.instanceMethod yX8_there ∈ wsL_law ∧ Cond.selects RX8 yX8_there yX8_there ∈ wsL_law ∧ Cond.initialized RX8 ∈ wsL_law ∧ Cond.code yX8_there cX8_there 2 (some .int) ∈ wsL_law := ⟨k_1147, k_1148, k_2, k_1149⟩
theorem D8h_there : yX8_there.cls = RX8 ∧ yX8_there.cls ≠ "java/lang/invoke/MethodHandle" ∧ yX8_there.cls ≠ "java/lang/invoke/VarHandle" ∧ (parseMethodDescriptor yX8_there.desc).map (fun d => d.parameters.length) = some 1 := by decide +kernel
