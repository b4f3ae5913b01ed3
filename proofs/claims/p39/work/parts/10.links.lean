/-! printed: words by their places, constants, fields, calls -/
theorem tb_0 {w : Cond} (h : w ∈ k2_sels lw_privs) (g : goodWord w = true) : w ∈ lwg := List.mem_filter.mpr ⟨List.mem_append_left _ h, g⟩
theorem tb_1 {w : Cond} (h : w ∈ tables_1_1) (g : goodWord w = true) : w ∈ lwg := List.mem_filter.mpr ⟨List.mem_append_right _ (List.mem_append_left _ h), g⟩
theorem tb_2 {w : Cond} (h : w ∈ tables_1_2) (g : goodWord w = true) : w ∈ lwg := List.mem_filter.mpr ⟨List.mem_append_right _ (List.mem_append_right _ (List.mem_append_left _ h)), g⟩
theorem tb_3 {w : Cond} (h : w ∈ tables_1_3) (g : goodWord w = true) : w ∈ lwg := List.mem_filter.mpr ⟨List.mem_append_right _ (List.mem_append_right _ (List.mem_append_right _ (List.mem_append_left _ h))), g⟩
theorem tb_4 {w : Cond} (h : w ∈ tables_1_4) (g : goodWord w = true) : w ∈ lwg := List.mem_filter.mpr ⟨List.mem_append_right _ (List.mem_append_right _ (List.mem_append_right _ (List.mem_append_right _ (List.mem_append_left _ h)))), g⟩
theorem tb_5 {w : Cond} (h : w ∈ tables_1_5) (g : goodWord w = true) : w ∈ lwg := List.mem_filter.mpr ⟨List.mem_append_right _ (List.mem_append_right _ (List.mem_append_right _ (List.mem_append_right _ (List.mem_append_right _ (h))))), g⟩
theorem wd_5 : Cond.selects yX10_giveUp.cls yX10_giveUp yX10_giveUp ∈ lwg := tb_0 (List.mem_of_getElem? (i := 5) rfl) rfl
theorem wd_6 : Cond.selects yX6_advanceActive.cls yX6_advanceActive yX6_advanceActive ∈ lwg := tb_0 (List.mem_of_getElem? (i := 6) rfl) rfl
theorem wd_7 : Cond.selects yX6_isPartner.cls yX6_isPartner yX6_isPartner ∈ lwg := tb_0 (List.mem_of_getElem? (i := 7) rfl) rfl
theorem wd_8 : Cond.selects yX6_isNew.cls yX6_isNew yX6_isNew ∈ lwg := tb_0 (List.mem_of_getElem? (i := 8) rfl) rfl
theorem wd_9 : Cond.selects yX6_isMatch.cls yX6_isMatch yX6_isMatch ∈ lwg := tb_0 (List.mem_of_getElem? (i := 9) rfl) rfl
theorem wd_10 : Cond.selects yX6_fire.cls yX6_fire yX6_fire ∈ lwg := tb_0 (List.mem_of_getElem? (i := 10) rfl) rfl
theorem wd_11 : Cond.selects yX6_remember.cls yX6_remember yX6_remember ∈ lwg := tb_0 (List.mem_of_getElem? (i := 11) rfl) rfl
theorem wd_12 : Cond.selects yX6_push.cls yX6_push yX6_push ∈ lwg := tb_0 (List.mem_of_getElem? (i := 12) rfl) rfl
theorem wd_13 : Cond.selects yX6_advanceWaking.cls yX6_advanceWaking yX6_advanceWaking ∈ lwg := tb_0 (List.mem_of_getElem? (i := 13) rfl) rfl
theorem wd_14 : Cond.selects yX6_advanceBodies.cls yX6_advanceBodies yX6_advanceBodies ∈ lwg := tb_0 (List.mem_of_getElem? (i := 14) rfl) rfl
theorem wd_15 : Cond.selects yX8_rootOf.cls yX8_rootOf yX8_rootOf ∈ lwg := tb_0 (List.mem_of_getElem? (i := 15) rfl) rfl
theorem wd_16 : Cond.selects yX8_join.cls yX8_join yX8_join ∈ lwg := tb_0 (List.mem_of_getElem? (i := 16) rfl) rfl
theorem wd_17 : Cond.selects yX10_act.cls yX10_act yX10_act ∈ lwg := tb_0 (List.mem_of_getElem? (i := 17) rfl) rfl
theorem wd_18 : Cond.selects yX10_sideOf.cls yX10_sideOf yX10_sideOf ∈ lwg := tb_0 (List.mem_of_getElem? (i := 18) rfl) rfl
theorem wd_19 : Cond.selects yX10_isEntailed.cls yX10_isEntailed yX10_isEntailed ∈ lwg := tb_0 (List.mem_of_getElem? (i := 19) rfl) rfl
theorem wd_20 : Cond.selects yX10_ask.cls yX10_ask yX10_ask ∈ lwg := tb_0 (List.mem_of_getElem? (i := 20) rfl) rfl
theorem wd_21 : Cond.selects yX10_conceal.cls yX10_conceal yX10_conceal ∈ lwg := tb_0 (List.mem_of_getElem? (i := 21) rfl) rfl
theorem wd_22 : Cond.selects yX10_enter.cls yX10_enter yX10_enter ∈ lwg := tb_0 (List.mem_of_getElem? (i := 22) rfl) rfl
theorem wd_23 : Cond.selects yX2_multiply.cls yX2_multiply yX2_multiply ∈ lwg := tb_0 (List.mem_of_getElem? (i := 23) rfl) rfl
theorem wd_24 : Cond.selects yX10_dare.cls yX10_dare yX10_dare ∈ lwg := tb_0 (List.mem_of_getElem? (i := 24) rfl) rfl
theorem wd_25 : Cond.selects yX10_goOn.cls yX10_goOn yX10_goOn ∈ lwg := tb_0 (List.mem_of_getElem? (i := 25) rfl) rfl
theorem wd_26 : Cond.selects yX10_assume.cls yX10_assume yX10_assume ∈ lwg := tb_0 (List.mem_of_getElem? (i := 26) rfl) rfl
theorem wd_27 : Cond.selects yX10_finish.cls yX10_finish yX10_finish ∈ lwg := tb_0 (List.mem_of_getElem? (i := 27) rfl) rfl
theorem wd_28 : Cond.selects yX9_recordTokens.cls yX9_recordTokens yX9_recordTokens ∈ lwg := tb_0 (List.mem_of_getElem? (i := 28) rfl) rfl
theorem wd_29 : Cond.selects yX9_isSame.cls yX9_isSame yX9_isSame ∈ lwg := tb_0 (List.mem_of_getElem? (i := 29) rfl) rfl
theorem wd_33 : Cond.initialized yX11_isSlot.cls ∈ lwg := tb_1 (List.mem_of_getElem? (i := 1) rfl) rfl
theorem wd_35 : Cond.initialized yX9_restart.cls ∈ lwg := tb_1 (List.mem_of_getElem? (i := 3) rfl) rfl
theorem wd_36 : Cond.initialized yX7_removesNone.cls ∈ lwg := tb_1 (List.mem_of_getElem? (i := 4) rfl) rfl
theorem wd_37 : Cond.initialized yX10_forNext.cls ∈ lwg := tb_1 (List.mem_of_getElem? (i := 5) rfl) rfl
theorem wd_38 : Cond.initialized yX8_makeVariable.cls ∈ lwg := tb_1 (List.mem_of_getElem? (i := 6) rfl) rfl
theorem wd_39 : Cond.initialized yX2_line.cls ∈ lwg := tb_1 (List.mem_of_getElem? (i := 7) rfl) rfl
theorem wd_40 : Cond.initialized yX0_include.cls ∈ lwg := tb_1 (List.mem_of_getElem? (i := 8) rfl) rfl
theorem wd_41 : Cond.initialized yX6_advance.cls ∈ lwg := tb_1 (List.mem_of_getElem? (i := 9) rfl) rfl
theorem wd_43 : Cond.initialized yX4_open.cls ∈ lwg := tb_1 (List.mem_of_getElem? (i := 11) rfl) rfl
theorem wd_44 : Cond.initialized yX1_drop.cls ∈ lwg := tb_1 (List.mem_of_getElem? (i := 12) rfl) rfl
theorem wd_45 : Cond.initialized yJ7_fill_53178.cls ∈ lwg := tb_1 (List.mem_of_getElem? (i := 13) rfl) rfl
theorem wd_52 : Cond.initialized "java/lang/System" ∈ lwg := tb_1 (List.mem_of_getElem? (i := 20) rfl) rfl
theorem wd_53 : Cond.initialized "java/lang/Math" ∈ lwg := tb_1 (List.mem_of_getElem? (i := 21) rfl) rfl
theorem wd_68 : Cond.fieldLink RX5 9 "Tellcourt$Nodes" "kind" "[I" ∈ lwg := tb_1 (List.mem_of_getElem? (i := 36) rfl) rfl
theorem wd_69 : Cond.fieldLink RX10 209 "Tellcourt$Nodes" "kind" "[I" ∈ lwg := tb_1 (List.mem_of_getElem? (i := 37) rfl) rfl
theorem wd_70 : Cond.fieldLink RX5 15 "Tellcourt$Nodes" "what" "[I" ∈ lwg := tb_1 (List.mem_of_getElem? (i := 38) rfl) rfl
theorem wd_71 : Cond.fieldLink RX10 214 "Tellcourt$Nodes" "what" "[I" ∈ lwg := tb_1 (List.mem_of_getElem? (i := 39) rfl) rfl
theorem wd_72 : Cond.fieldLink RX5 18 "Tellcourt$Nodes" "a" "[I" ∈ lwg := tb_1 (List.mem_of_getElem? (i := 40) rfl) rfl
theorem wd_73 : Cond.fieldLink RX10 217 "Tellcourt$Nodes" "a" "[I" ∈ lwg := tb_1 (List.mem_of_getElem? (i := 41) rfl) rfl
theorem wd_74 : Cond.fieldLink RX5 21 "Tellcourt$Nodes" "b" "[I" ∈ lwg := tb_1 (List.mem_of_getElem? (i := 42) rfl) rfl
theorem wd_75 : Cond.fieldLink RX10 223 "Tellcourt$Nodes" "b" "[I" ∈ lwg := tb_1 (List.mem_of_getElem? (i := 43) rfl) rfl
theorem wd_76 : Cond.fieldLink RX5 24 "Tellcourt$Nodes" "one" "[I" ∈ lwg := tb_1 (List.mem_of_getElem? (i := 44) rfl) rfl
theorem wd_77 : Cond.fieldLink RX10 226 "Tellcourt$Nodes" "one" "[I" ∈ lwg := tb_1 (List.mem_of_getElem? (i := 45) rfl) rfl
theorem wd_78 : Cond.fieldLink RX5 27 "Tellcourt$Nodes" "other" "[I" ∈ lwg := tb_1 (List.mem_of_getElem? (i := 46) rfl) rfl
theorem wd_79 : Cond.fieldLink RX10 229 "Tellcourt$Nodes" "other" "[I" ∈ lwg := tb_1 (List.mem_of_getElem? (i := 47) rfl) rfl
theorem wd_80 : Cond.fieldLink RX5 30 "Tellcourt$Nodes" "count" "I" ∈ lwg := tb_1 (List.mem_of_getElem? (i := 48) rfl) rfl
theorem wd_106 : Cond.fieldLink RX9 9 "Tellcourt$Survey" "choice" "[I" ∈ lwg := tb_1 (List.mem_of_getElem? (i := 74) rfl) rfl
theorem wd_107 : Cond.fieldLink RX9 15 "Tellcourt$Survey" "choices" "[I" ∈ lwg := tb_1 (List.mem_of_getElem? (i := 75) rfl) rfl
theorem wd_108 : Cond.fieldLink RX9 21 "Tellcourt$Survey" "planned" "I" ∈ lwg := tb_1 (List.mem_of_getElem? (i := 76) rfl) rfl
theorem wd_109 : Cond.fieldLink RX9 25 "Tellcourt$Survey" "chosen" "I" ∈ lwg := tb_1 (List.mem_of_getElem? (i := 77) rfl) rfl
theorem wd_110 : Cond.fieldLink RX9 18 "Tellcourt$Survey" "rows" "[I" ∈ lwg := tb_1 (List.mem_of_getElem? (i := 78) rfl) rfl
theorem wd_111 : Cond.fieldLink RX9 28 "Tellcourt$Survey" "found" "I" ∈ lwg := tb_1 (List.mem_of_getElem? (i := 79) rfl) rfl
theorem wd_132 : Cond.fieldLink RX6 135 "Tellcourt$Rule" "sorts" "[I" ∈ lwg := tb_1 (List.mem_of_getElem? (i := 100) rfl) rfl
theorem wd_134 : Cond.fieldLink RX6 163 "Tellcourt$Rule" "patterns" "[I" ∈ lwg := tb_1 (List.mem_of_getElem? (i := 102) rfl) rfl
theorem wd_135 : Cond.fieldLink RX7 18 "Tellcourt$Rule" "stays" "[Z" ∈ lwg := tb_1 (List.mem_of_getElem? (i := 103) rfl) rfl
theorem wd_136 : Cond.fieldLink RX6 224 "Tellcourt$Rule" "stays" "[Z" ∈ lwg := tb_1 (List.mem_of_getElem? (i := 104) rfl) rfl
theorem wd_138 : Cond.fieldLink RX6 243 "Tellcourt$Rule" "bodySorts" "[I" ∈ lwg := tb_1 (List.mem_of_getElem? (i := 106) rfl) rfl
theorem wd_140 : Cond.fieldLink RX6 240 "Tellcourt$Rule" "bodyTerms" "[I" ∈ lwg := tb_1 (List.mem_of_getElem? (i := 108) rfl) rfl
theorem wd_141 : Cond.fieldLink RX7 28 "Tellcourt$Rule" "heads" "I" ∈ lwg := tb_1 (List.mem_of_getElem? (i := 109) rfl) rfl
theorem wd_142 : Cond.fieldLink RX6 130 "Tellcourt$Rule" "heads" "I" ∈ lwg := tb_1 (List.mem_of_getElem? (i := 110) rfl) rfl
theorem wd_143 : Cond.fieldLink RX6 237 "Tellcourt$Rule" "bodies" "I" ∈ lwg := tb_1 (List.mem_of_getElem? (i := 111) rfl) rfl
theorem wd_144 : Cond.fieldLink RX6 178 "Tellcourt$Rule" "isGuarded" "Z" ∈ lwg := tb_1 (List.mem_of_getElem? (i := 112) rfl) rfl
theorem wd_145 : Cond.fieldLink RX6 181 "Tellcourt$Rule" "condition" "I" ∈ lwg := tb_1 (List.mem_of_getElem? (i := 113) rfl) rfl
theorem wd_146 : Cond.fieldLink RX6 184 "Tellcourt$Rule" "guardA" "I" ∈ lwg := tb_1 (List.mem_of_getElem? (i := 114) rfl) rfl
theorem wd_147 : Cond.fieldLink RX6 187 "Tellcourt$Rule" "guardB" "I" ∈ lwg := tb_1 (List.mem_of_getElem? (i := 115) rfl) rfl
theorem wd_186 : Cond.fieldLink RX8 9 "Tellcourt$Store" "classOf" "[I" ∈ lwg := tb_1 (List.mem_of_getElem? (i := 154) rfl) rfl
theorem wd_187 : Cond.fieldLink RX8 15 "Tellcourt$Store" "values" "[I" ∈ lwg := tb_1 (List.mem_of_getElem? (i := 155) rfl) rfl
theorem wd_188 : Cond.fieldLink RX11 50 "Tellcourt$Store" "variables" "I" ∈ lwg := tb_1 (List.mem_of_getElem? (i := 156) rfl) rfl
theorem wd_189 : Cond.fieldLink RX8 48 "Tellcourt$Store" "variables" "I" ∈ lwg := tb_1 (List.mem_of_getElem? (i := 157) rfl) rfl
theorem wd_190 : Cond.fieldLink RX8 18 "Tellcourt$Store" "sort" "[I" ∈ lwg := tb_1 (List.mem_of_getElem? (i := 158) rfl) rfl
theorem wd_191 : Cond.fieldLink RX9 66 "Tellcourt$Store" "sort" "[I" ∈ lwg := tb_1 (List.mem_of_getElem? (i := 159) rfl) rfl
theorem wd_192 : Cond.fieldLink RX6 138 "Tellcourt$Store" "sort" "[I" ∈ lwg := tb_1 (List.mem_of_getElem? (i := 160) rfl) rfl
theorem wd_194 : Cond.fieldLink RX8 21 "Tellcourt$Store" "first" "[I" ∈ lwg := tb_1 (List.mem_of_getElem? (i := 162) rfl) rfl
theorem wd_195 : Cond.fieldLink RX9 72 "Tellcourt$Store" "first" "[I" ∈ lwg := tb_1 (List.mem_of_getElem? (i := 163) rfl) rfl
theorem wd_196 : Cond.fieldLink RX6 157 "Tellcourt$Store" "first" "[I" ∈ lwg := tb_1 (List.mem_of_getElem? (i := 164) rfl) rfl
theorem wd_198 : Cond.fieldLink RX8 24 "Tellcourt$Store" "second" "[I" ∈ lwg := tb_1 (List.mem_of_getElem? (i := 166) rfl) rfl
theorem wd_199 : Cond.fieldLink RX9 75 "Tellcourt$Store" "second" "[I" ∈ lwg := tb_1 (List.mem_of_getElem? (i := 167) rfl) rfl
theorem wd_200 : Cond.fieldLink RX6 160 "Tellcourt$Store" "second" "[I" ∈ lwg := tb_1 (List.mem_of_getElem? (i := 168) rfl) rfl
theorem wd_202 : Cond.fieldLink RX8 27 "Tellcourt$Store" "lasts" "[Z" ∈ lwg := tb_1 (List.mem_of_getElem? (i := 170) rfl) rfl
theorem wd_203 : Cond.fieldLink RX9 69 "Tellcourt$Store" "lasts" "[Z" ∈ lwg := tb_1 (List.mem_of_getElem? (i := 171) rfl) rfl
theorem wd_204 : Cond.fieldLink RX6 227 "Tellcourt$Store" "lasts" "[Z" ∈ lwg := tb_1 (List.mem_of_getElem? (i := 172) rfl) rfl
theorem wd_206 : Cond.fieldLink RX8 31 "Tellcourt$Store" "stands" "[Z" ∈ lwg := tb_1 (List.mem_of_getElem? (i := 174) rfl) rfl
theorem wd_207 : Cond.fieldLink RX9 62 "Tellcourt$Store" "stands" "[Z" ∈ lwg := tb_1 (List.mem_of_getElem? (i := 175) rfl) rfl
theorem wd_208 : Cond.fieldLink RX6 126 "Tellcourt$Store" "stands" "[Z" ∈ lwg := tb_1 (List.mem_of_getElem? (i := 176) rfl) rfl
theorem wd_210 : Cond.fieldLink RX8 34 "Tellcourt$Store" "low" "[J" ∈ lwg := tb_1 (List.mem_of_getElem? (i := 178) rfl) rfl
theorem wd_211 : Cond.fieldLink RX0 36 "Tellcourt$Store" "low" "[J" ∈ lwg := tb_1 (List.mem_of_getElem? (i := 179) rfl) rfl
theorem wd_212 : Cond.fieldLink RX6 229 "Tellcourt$Store" "low" "[J" ∈ lwg := tb_1 (List.mem_of_getElem? (i := 180) rfl) rfl
theorem wd_214 : Cond.fieldLink RX8 38 "Tellcourt$Store" "high" "[J" ∈ lwg := tb_1 (List.mem_of_getElem? (i := 182) rfl) rfl
theorem wd_215 : Cond.fieldLink RX0 45 "Tellcourt$Store" "high" "[J" ∈ lwg := tb_1 (List.mem_of_getElem? (i := 183) rfl) rfl
theorem wd_216 : Cond.fieldLink RX6 231 "Tellcourt$Store" "high" "[J" ∈ lwg := tb_1 (List.mem_of_getElem? (i := 184) rfl) rfl
theorem wd_218 : Cond.fieldLink RX0 23 "Tellcourt$Store" "tokens" "I" ∈ lwg := tb_1 (List.mem_of_getElem? (i := 186) rfl) rfl
theorem wd_219 : Cond.fieldLink RX8 52 "Tellcourt$Store" "tokens" "I" ∈ lwg := tb_1 (List.mem_of_getElem? (i := 187) rfl) rfl
theorem wd_220 : Cond.fieldLink RX9 59 "Tellcourt$Store" "tokens" "I" ∈ lwg := tb_1 (List.mem_of_getElem? (i := 188) rfl) rfl
theorem wd_221 : Cond.fieldLink RX6 102 "Tellcourt$Store" "tokens" "I" ∈ lwg := tb_1 (List.mem_of_getElem? (i := 189) rfl) rfl
theorem wd_222 : Cond.fieldLink RX11 248 "Tellcourt$Store" "tokens" "I" ∈ lwg := tb_1 (List.mem_of_getElem? (i := 190) rfl) rfl
theorem wd_223 : Cond.fieldLink RX8 55 "Tellcourt$Store" "acts" "I" ∈ lwg := tb_1 (List.mem_of_getElem? (i := 191) rfl) rfl
theorem wd_224 : Cond.fieldLink RX10 136 "Tellcourt$Store" "acts" "I" ∈ lwg := tb_1 (List.mem_of_getElem? (i := 192) rfl) rfl
theorem wd_226 : Cond.fieldLink RX11 56 "Tellcourt$Store" "hasFailed" "Z" ∈ lwg := tb_1 (List.mem_of_getElem? (i := 194) rfl) rfl
theorem wd_227 : Cond.fieldLink RX8 58 "Tellcourt$Store" "hasFailed" "Z" ∈ lwg := tb_1 (List.mem_of_getElem? (i := 195) rfl) rfl
theorem wd_228 : Cond.fieldLink RX9 37 "Tellcourt$Store" "hasFailed" "Z" ∈ lwg := tb_1 (List.mem_of_getElem? (i := 196) rfl) rfl
theorem wd_229 : Cond.fieldLink RX10 147 "Tellcourt$Store" "hasFailed" "Z" ∈ lwg := tb_1 (List.mem_of_getElem? (i := 197) rfl) rfl
theorem wd_230 : Cond.fieldLink RX6 65 "Tellcourt$Store" "hasFailed" "Z" ∈ lwg := tb_1 (List.mem_of_getElem? (i := 198) rfl) rfl
theorem wd_265 : Cond.fieldLink RX2 9 "Tellcourt$Draws" "PRIMES" "[I" ∈ lwg := tb_1 (List.mem_of_getElem? (i := 233) rfl) rfl
theorem wd_267 : Cond.fieldLink RX2 15 "Tellcourt$Draws" "powers" "[I" ∈ lwg := tb_1 (List.mem_of_getElem? (i := 235) rfl) rfl
theorem wd_268 : Cond.fieldLink RX2 18 "Tellcourt$Draws" "x" "I" ∈ lwg := tb_1 (List.mem_of_getElem? (i := 236) rfl) rfl
theorem wd_269 : Cond.fieldLink RX11 213 "Tellcourt$Draws" "x" "I" ∈ lwg := tb_1 (List.mem_of_getElem? (i := 237) rfl) rfl
theorem wd_283 : Cond.fieldLink RX0 9 "Tellcourt$Agent" "frame" "[I" ∈ lwg := tb_2 (List.mem_of_getElem? (i := 11) rfl) rfl
theorem wd_284 : Cond.fieldLink RX1 29 "Tellcourt$Agent" "frame" "[I" ∈ lwg := tb_2 (List.mem_of_getElem? (i := 12) rfl) rfl
theorem wd_285 : Cond.fieldLink RX10 265 "Tellcourt$Agent" "frame" "[I" ∈ lwg := tb_2 (List.mem_of_getElem? (i := 13) rfl) rfl
theorem wd_286 : Cond.fieldLink RX0 15 "Tellcourt$Agent" "node" "I" ∈ lwg := tb_2 (List.mem_of_getElem? (i := 14) rfl) rfl
theorem wd_287 : Cond.fieldLink RX1 53 "Tellcourt$Agent" "node" "I" ∈ lwg := tb_2 (List.mem_of_getElem? (i := 15) rfl) rfl
theorem wd_288 : Cond.fieldLink RX10 200 "Tellcourt$Agent" "node" "I" ∈ lwg := tb_2 (List.mem_of_getElem? (i := 16) rfl) rfl
theorem wd_289 : Cond.fieldLink RX1 40 "Tellcourt$Agent" "low" "J" ∈ lwg := tb_2 (List.mem_of_getElem? (i := 17) rfl) rfl
theorem wd_290 : Cond.fieldLink RX0 28 "Tellcourt$Agent" "low" "J" ∈ lwg := tb_2 (List.mem_of_getElem? (i := 18) rfl) rfl
theorem wd_291 : Cond.fieldLink RX10 113 "Tellcourt$Agent" "low" "J" ∈ lwg := tb_2 (List.mem_of_getElem? (i := 19) rfl) rfl
theorem wd_292 : Cond.fieldLink RX1 44 "Tellcourt$Agent" "high" "J" ∈ lwg := tb_2 (List.mem_of_getElem? (i := 20) rfl) rfl
theorem wd_293 : Cond.fieldLink RX0 39 "Tellcourt$Agent" "high" "J" ∈ lwg := tb_2 (List.mem_of_getElem? (i := 21) rfl) rfl
theorem wd_294 : Cond.fieldLink RX10 117 "Tellcourt$Agent" "high" "J" ∈ lwg := tb_2 (List.mem_of_getElem? (i := 22) rfl) rfl
theorem wd_318 : Cond.fieldLink RX6 223 "Tellcourt$Frame" "binds" "[I" ∈ lwg := tb_2 (List.mem_of_getElem? (i := 46) rfl) rfl
theorem wd_319 : Cond.fieldLink RX6 71 "Tellcourt$Frame" "kind" "I" ∈ lwg := tb_2 (List.mem_of_getElem? (i := 47) rfl) rfl
theorem wd_320 : Cond.fieldLink RX6 74 "Tellcourt$Frame" "token" "I" ∈ lwg := tb_2 (List.mem_of_getElem? (i := 48) rfl) rfl
theorem wd_321 : Cond.fieldLink RX6 77 "Tellcourt$Frame" "place" "I" ∈ lwg := tb_2 (List.mem_of_getElem? (i := 49) rfl) rfl
theorem wd_322 : Cond.fieldLink RX6 217 "Tellcourt$Frame" "rule" "I" ∈ lwg := tb_2 (List.mem_of_getElem? (i := 50) rfl) rfl
theorem wd_323 : Cond.fieldLink RX6 80 "Tellcourt$Frame" "body" "I" ∈ lwg := tb_2 (List.mem_of_getElem? (i := 51) rfl) rfl
theorem wd_324 : Cond.fieldLink RX6 220 "Tellcourt$Frame" "lasts" "Z" ∈ lwg := tb_2 (List.mem_of_getElem? (i := 52) rfl) rfl
theorem wd_325 : Cond.fieldLink RX6 83 "Tellcourt$Frame" "low" "J" ∈ lwg := tb_2 (List.mem_of_getElem? (i := 53) rfl) rfl
theorem wd_326 : Cond.fieldLink RX6 87 "Tellcourt$Frame" "high" "J" ∈ lwg := tb_2 (List.mem_of_getElem? (i := 54) rfl) rfl
theorem wd_346 : Cond.fieldLink RX6 31 "Tellcourt$Rewriter" "store" "LTellcourt$Store;" ∈ lwg := tb_2 (List.mem_of_getElem? (i := 74) rfl) rfl
theorem wd_347 : Cond.fieldLink RX6 35 "Tellcourt$Rewriter" "rules" "[LTellcourt$Rule;" ∈ lwg := tb_2 (List.mem_of_getElem? (i := 75) rfl) rfl
theorem wd_348 : Cond.fieldLink RX6 13 "Tellcourt$Rewriter" "frames" "[LTellcourt$Frame;" ∈ lwg := tb_2 (List.mem_of_getElem? (i := 76) rfl) rfl
theorem wd_349 : Cond.fieldLink RX6 40 "Tellcourt$Rewriter" "depth" "I" ∈ lwg := tb_2 (List.mem_of_getElem? (i := 77) rfl) rfl
theorem wd_350 : Cond.fieldLink RX6 17 "Tellcourt$Rewriter" "binds" "[I" ∈ lwg := tb_2 (List.mem_of_getElem? (i := 78) rfl) rfl
theorem wd_351 : Cond.fieldLink RX6 21 "Tellcourt$Rewriter" "history" "[J" ∈ lwg := tb_2 (List.mem_of_getElem? (i := 79) rfl) rfl
theorem wd_352 : Cond.fieldLink RX6 25 "Tellcourt$Rewriter" "recent" "[I" ∈ lwg := tb_2 (List.mem_of_getElem? (i := 80) rfl) rfl
theorem wd_353 : Cond.fieldLink RX6 47 "Tellcourt$Rewriter" "remembered" "I" ∈ lwg := tb_2 (List.mem_of_getElem? (i := 81) rfl) rfl
theorem wd_354 : Cond.fieldLink RX10 271 "Tellcourt$Rewriter" "remembered" "I" ∈ lwg := tb_2 (List.mem_of_getElem? (i := 82) rfl) rfl
theorem wd_355 : Cond.fieldLink RX6 28 "Tellcourt$Rewriter" "firings" "[I" ∈ lwg := tb_2 (List.mem_of_getElem? (i := 83) rfl) rfl
theorem wd_356 : Cond.fieldLink RX6 44 "Tellcourt$Rewriter" "made" "I" ∈ lwg := tb_2 (List.mem_of_getElem? (i := 84) rfl) rfl
theorem wd_357 : Cond.fieldLink RX11 164 "Tellcourt$Rewriter" "made" "I" ∈ lwg := tb_2 (List.mem_of_getElem? (i := 85) rfl) rfl
theorem wd_390 : Cond.fieldLink RX1 9 "Tellcourt$AgentList" "room" "I" ∈ lwg := tb_2 (List.mem_of_getElem? (i := 118) rfl) rfl
theorem wd_391 : Cond.fieldLink RX1 15 "Tellcourt$AgentList" "nodeOf" "[I" ∈ lwg := tb_2 (List.mem_of_getElem? (i := 119) rfl) rfl
theorem wd_392 : Cond.fieldLink RX1 19 "Tellcourt$AgentList" "frames" "[I" ∈ lwg := tb_2 (List.mem_of_getElem? (i := 120) rfl) rfl
theorem wd_393 : Cond.fieldLink RX1 22 "Tellcourt$AgentList" "slices" "[J" ∈ lwg := tb_2 (List.mem_of_getElem? (i := 121) rfl) rfl
theorem wd_394 : Cond.fieldLink RX1 26 "Tellcourt$AgentList" "size" "I" ∈ lwg := tb_2 (List.mem_of_getElem? (i := 122) rfl) rfl
theorem wd_395 : Cond.fieldLink RX4 43 "Tellcourt$AgentList" "size" "I" ∈ lwg := tb_2 (List.mem_of_getElem? (i := 123) rfl) rfl
theorem wd_396 : Cond.fieldLink RX10 106 "Tellcourt$AgentList" "size" "I" ∈ lwg := tb_2 (List.mem_of_getElem? (i := 124) rfl) rfl
theorem wd_408 : Cond.fieldLink RX4 14 "Tellcourt$Level" "queue" "LTellcourt$AgentList;" ∈ lwg := tb_2 (List.mem_of_getElem? (i := 136) rfl) rfl
theorem wd_409 : Cond.fieldLink RX10 124 "Tellcourt$Level" "queue" "LTellcourt$AgentList;" ∈ lwg := tb_2 (List.mem_of_getElem? (i := 137) rfl) rfl
theorem wd_410 : Cond.fieldLink RX4 20 "Tellcourt$Level" "waits" "LTellcourt$AgentList;" ∈ lwg := tb_2 (List.mem_of_getElem? (i := 138) rfl) rfl
theorem wd_411 : Cond.fieldLink RX10 127 "Tellcourt$Level" "waits" "LTellcourt$AgentList;" ∈ lwg := tb_2 (List.mem_of_getElem? (i := 139) rfl) rfl
theorem wd_412 : Cond.fieldLink RX4 23 "Tellcourt$Level" "assumed" "LTellcourt$AgentList;" ∈ lwg := tb_2 (List.mem_of_getElem? (i := 140) rfl) rfl
theorem wd_413 : Cond.fieldLink RX10 130 "Tellcourt$Level" "assumed" "LTellcourt$AgentList;" ∈ lwg := tb_2 (List.mem_of_getElem? (i := 141) rfl) rfl
theorem wd_414 : Cond.fieldLink RX4 26 "Tellcourt$Level" "next" "LTellcourt$AgentList;" ∈ lwg := tb_2 (List.mem_of_getElem? (i := 142) rfl) rfl
theorem wd_415 : Cond.fieldLink RX10 96 "Tellcourt$Level" "next" "LTellcourt$AgentList;" ∈ lwg := tb_2 (List.mem_of_getElem? (i := 143) rfl) rfl
theorem wd_417 : Cond.fieldLink RX10 194 "Tellcourt$Level" "otherwise" "LTellcourt$AgentList;" ∈ lwg := tb_2 (List.mem_of_getElem? (i := 145) rfl) rfl
theorem wd_419 : Cond.fieldLink RX8 72 "Tellcourt$Level" "classOf" "[I" ∈ lwg := tb_2 (List.mem_of_getElem? (i := 147) rfl) rfl
theorem wd_421 : Cond.fieldLink RX8 73 "Tellcourt$Level" "values" "[I" ∈ lwg := tb_2 (List.mem_of_getElem? (i := 149) rfl) rfl
theorem wd_423 : Cond.fieldLink RX8 74 "Tellcourt$Level" "stands" "[Z" ∈ lwg := tb_2 (List.mem_of_getElem? (i := 151) rfl) rfl
theorem wd_424 : Cond.fieldLink RX8 68 "Tellcourt$Level" "variables" "I" ∈ lwg := tb_2 (List.mem_of_getElem? (i := 152) rfl) rfl
theorem wd_425 : Cond.fieldLink RX8 71 "Tellcourt$Level" "tokens" "I" ∈ lwg := tb_2 (List.mem_of_getElem? (i := 153) rfl) rfl
theorem wd_426 : Cond.fieldLink RX10 187 "Tellcourt$Level" "remembered" "I" ∈ lwg := tb_2 (List.mem_of_getElem? (i := 154) rfl) rfl
theorem wd_450 : Cond.methodLink RX10 59 yJ7_fill_53178 ∈ lwg := tb_2 (List.mem_of_getElem? (i := 178) rfl) rfl
theorem wd_451 : Cond.static yJ7_fill_53178 ∈ lwg := tb_2 (List.mem_of_getElem? (i := 179) rfl) rfl
theorem wd_452 : Cond.code yJ7_fill_53178 cJ7_fill_53178 4 none ∈ lwg := tb_2 (List.mem_of_getElem? (i := 180) rfl) rfl
theorem wd_453 : Cond.fieldLink RX10 45 "Tellcourt$World" "nodes" "LTellcourt$Nodes;" ∈ lwg := tb_2 (List.mem_of_getElem? (i := 181) rfl) rfl
theorem wd_454 : Cond.fieldLink RX10 12 "Tellcourt$World" "store" "LTellcourt$Store;" ∈ lwg := tb_2 (List.mem_of_getElem? (i := 182) rfl) rfl
theorem wd_455 : Cond.fieldLink RX11 46 "Tellcourt$World" "store" "LTellcourt$Store;" ∈ lwg := tb_2 (List.mem_of_getElem? (i := 183) rfl) rfl
theorem wd_456 : Cond.fieldLink RX10 54 "Tellcourt$World" "rewriter" "LTellcourt$Rewriter;" ∈ lwg := tb_2 (List.mem_of_getElem? (i := 184) rfl) rfl
theorem wd_457 : Cond.fieldLink RX11 160 "Tellcourt$World" "rewriter" "LTellcourt$Rewriter;" ∈ lwg := tb_2 (List.mem_of_getElem? (i := 185) rfl) rfl
theorem wd_458 : Cond.fieldLink RX10 21 "Tellcourt$World" "draws" "LTellcourt$Draws;" ∈ lwg := tb_2 (List.mem_of_getElem? (i := 186) rfl) rfl
theorem wd_459 : Cond.fieldLink RX11 209 "Tellcourt$World" "draws" "LTellcourt$Draws;" ∈ lwg := tb_2 (List.mem_of_getElem? (i := 187) rfl) rfl
theorem wd_460 : Cond.fieldLink RX10 25 "Tellcourt$World" "definitions" "[I" ∈ lwg := tb_2 (List.mem_of_getElem? (i := 188) rfl) rfl
theorem wd_461 : Cond.fieldLink RX11 115 "Tellcourt$World" "definitions" "[I" ∈ lwg := tb_2 (List.mem_of_getElem? (i := 189) rfl) rfl
theorem wd_462 : Cond.fieldLink RX10 29 "Tellcourt$World" "taken" "[I" ∈ lwg := tb_2 (List.mem_of_getElem? (i := 190) rfl) rfl
theorem wd_463 : Cond.fieldLink RX10 34 "Tellcourt$World" "levels" "[LTellcourt$Level;" ∈ lwg := tb_2 (List.mem_of_getElem? (i := 191) rfl) rfl
theorem wd_464 : Cond.fieldLink RX10 41 "Tellcourt$World" "hand" "LTellcourt$Agent;" ∈ lwg := tb_2 (List.mem_of_getElem? (i := 192) rfl) rfl
theorem wd_465 : Cond.fieldLink RX10 139 "Tellcourt$World" "depth" "I" ∈ lwg := tb_2 (List.mem_of_getElem? (i := 193) rfl) rfl
theorem wd_466 : Cond.fieldLink RX10 142 "Tellcourt$World" "isOver" "Z" ∈ lwg := tb_2 (List.mem_of_getElem? (i := 194) rfl) rfl
theorem wd_467 : Cond.fieldLink RX10 73 "Tellcourt$World" "steps" "I" ∈ lwg := tb_2 (List.mem_of_getElem? (i := 195) rfl) rfl
theorem wd_469 : Cond.fieldLink RX10 77 "Tellcourt$World" "clock" "I" ∈ lwg := tb_2 (List.mem_of_getElem? (i := 197) rfl) rfl
theorem wd_470 : Cond.fieldLink RX11 235 "Tellcourt$World" "clock" "I" ∈ lwg := tb_2 (List.mem_of_getElem? (i := 198) rfl) rfl
theorem wd_498 : Cond.fieldLink RX11 39 "Tellcourt" "world" "LTellcourt$World;" ∈ lwg := tb_2 (List.mem_of_getElem? (i := 226) rfl) rfl
theorem wd_499 : Cond.fieldLink RX11 43 "Tellcourt" "scratch" "LTellcourt$World;" ∈ lwg := tb_2 (List.mem_of_getElem? (i := 227) rfl) rfl
theorem wd_500 : Cond.fieldLink RX11 25 "Tellcourt" "survey" "LTellcourt$Survey;" ∈ lwg := tb_2 (List.mem_of_getElem? (i := 228) rfl) rfl
theorem wd_501 : Cond.fieldLink RX11 29 "Tellcourt" "journal" "[I" ∈ lwg := tb_2 (List.mem_of_getElem? (i := 229) rfl) rfl
theorem wd_502 : Cond.fieldLink RX11 287 "Tellcourt" "entries" "I" ∈ lwg := tb_2 (List.mem_of_getElem? (i := 230) rfl) rfl
theorem wd_596 : Cond.methodLink RX11 71 yX8_makeVariable ∈ lwg := tb_3 (List.mem_of_getElem? (i := 84) rfl) rfl
theorem wd_597 : Cond.instanceMethod yX8_makeVariable ∈ lwg := tb_3 (List.mem_of_getElem? (i := 85) rfl) rfl
theorem wd_598 : Cond.selects yX8_makeVariable.cls yX8_makeVariable yX8_makeVariable ∈ lwg := tb_3 (List.mem_of_getElem? (i := 86) rfl) rfl
theorem wd_599 : Cond.code yX8_makeVariable cX8_makeVariable 1 (some .int) ∈ lwg := tb_3 (List.mem_of_getElem? (i := 87) rfl) rfl
theorem wd_610 : Cond.methodLink RX11 180 yX11_isValue ∈ lwg := tb_3 (List.mem_of_getElem? (i := 98) rfl) rfl
theorem wd_611 : Cond.static yX11_isValue ∈ lwg := tb_3 (List.mem_of_getElem? (i := 99) rfl) rfl
theorem wd_612 : Cond.code yX11_isValue cX11_isValue 1 (some .boolean) ∈ lwg := tb_3 (List.mem_of_getElem? (i := 100) rfl) rfl
theorem wd_613 : Cond.methodLink RX11 327 yX11_isSlot ∈ lwg := tb_3 (List.mem_of_getElem? (i := 101) rfl) rfl
theorem wd_614 : Cond.static yX11_isSlot ∈ lwg := tb_3 (List.mem_of_getElem? (i := 102) rfl) rfl
theorem wd_615 : Cond.code yX11_isSlot cX11_isSlot 1 (some .boolean) ∈ lwg := tb_3 (List.mem_of_getElem? (i := 103) rfl) rfl
theorem wd_704 : Cond.methodLink RX11 185 yX10_forNext ∈ lwg := tb_3 (List.mem_of_getElem? (i := 192) rfl) rfl
theorem wd_705 : Cond.instanceMethod yX10_forNext ∈ lwg := tb_3 (List.mem_of_getElem? (i := 193) rfl) rfl
theorem wd_706 : Cond.selects yX10_forNext.cls yX10_forNext yX10_forNext ∈ lwg := tb_3 (List.mem_of_getElem? (i := 194) rfl) rfl
theorem wd_707 : Cond.code yX10_forNext cX10_forNext 1 (some .int) ∈ lwg := tb_3 (List.mem_of_getElem? (i := 195) rfl) rfl
theorem wd_709 : Cond.methodLink RX11 190 yX10_admit ∈ lwg := tb_3 (List.mem_of_getElem? (i := 197) rfl) rfl
theorem wd_710 : Cond.instanceMethod yX10_admit ∈ lwg := tb_3 (List.mem_of_getElem? (i := 198) rfl) rfl
theorem wd_711 : Cond.selects yX10_admit.cls yX10_admit yX10_admit ∈ lwg := tb_3 (List.mem_of_getElem? (i := 199) rfl) rfl
theorem wd_712 : Cond.code yX10_admit cX10_admit 4 none ∈ lwg := tb_3 (List.mem_of_getElem? (i := 200) rfl) rfl
theorem wd_713 : Cond.methodLink RX10 109 yX0_take ∈ lwg := tb_3 (List.mem_of_getElem? (i := 201) rfl) rfl
theorem wd_714 : Cond.instanceMethod yX0_take ∈ lwg := tb_3 (List.mem_of_getElem? (i := 202) rfl) rfl
theorem wd_715 : Cond.selects yX0_take.cls yX0_take yX0_take ∈ lwg := tb_3 (List.mem_of_getElem? (i := 203) rfl) rfl
theorem wd_716 : Cond.code yX0_take cX0_take 4 none ∈ lwg := tb_3 (List.mem_of_getElem? (i := 204) rfl) rfl
theorem wd_717 : Cond.methodLink RX10 120 yX1_add ∈ lwg := tb_3 (List.mem_of_getElem? (i := 205) rfl) rfl
theorem wd_718 : Cond.instanceMethod yX1_add ∈ lwg := tb_3 (List.mem_of_getElem? (i := 206) rfl) rfl
theorem wd_719 : Cond.selects yX1_add.cls yX1_add yX1_add ∈ lwg := tb_3 (List.mem_of_getElem? (i := 207) rfl) rfl
theorem wd_720 : Cond.code yX1_add cX1_add 3 none ∈ lwg := tb_3 (List.mem_of_getElem? (i := 208) rfl) rfl
theorem wd_721 : Cond.methodLink RX1 34 arraycopyName ∈ lwg := tb_3 (List.mem_of_getElem? (i := 209) rfl) rfl
theorem wd_722 : Cond.static arraycopyName ∈ lwg := tb_3 (List.mem_of_getElem? (i := 210) rfl) rfl
theorem wd_723 : Cond.native arraycopyName ∈ lwg := tb_3 (List.mem_of_getElem? (i := 211) rfl) rfl
theorem wd_729 : Cond.methodLink RX11 198 yX9_restart ∈ lwg := tb_3 (List.mem_of_getElem? (i := 217) rfl) rfl
theorem wd_730 : Cond.instanceMethod yX9_restart ∈ lwg := tb_3 (List.mem_of_getElem? (i := 218) rfl) rfl
theorem wd_731 : Cond.selects yX9_restart.cls yX9_restart yX9_restart ∈ lwg := tb_3 (List.mem_of_getElem? (i := 219) rfl) rfl
theorem wd_732 : Cond.code yX9_restart cX9_restart 1 none ∈ lwg := tb_3 (List.mem_of_getElem? (i := 220) rfl) rfl
theorem wd_733 : Cond.methodLink RX11 201 yX10_doStep ∈ lwg := tb_3 (List.mem_of_getElem? (i := 221) rfl) rfl
theorem wd_734 : Cond.instanceMethod yX10_doStep ∈ lwg := tb_3 (List.mem_of_getElem? (i := 222) rfl) rfl
theorem wd_735 : Cond.selects yX10_doStep.cls yX10_doStep yX10_doStep ∈ lwg := tb_3 (List.mem_of_getElem? (i := 223) rfl) rfl
theorem wd_736 : Cond.code yX10_doStep cX10_doStep 7 none ∈ lwg := tb_3 (List.mem_of_getElem? (i := 224) rfl) rfl
theorem wd_737 : Cond.methodLink RX10 100 yX1_addAll ∈ lwg := tb_3 (List.mem_of_getElem? (i := 225) rfl) rfl
theorem wd_738 : Cond.instanceMethod yX1_addAll ∈ lwg := tb_3 (List.mem_of_getElem? (i := 226) rfl) rfl
theorem wd_739 : Cond.selects yX1_addAll.cls yX1_addAll yX1_addAll ∈ lwg := tb_3 (List.mem_of_getElem? (i := 227) rfl) rfl
theorem wd_740 : Cond.code yX1_addAll cX1_addAll 3 none ∈ lwg := tb_3 (List.mem_of_getElem? (i := 228) rfl) rfl
theorem wd_741 : Cond.methodLink RX1 47 Lib.Math.min.name ∈ lwg := tb_3 (List.mem_of_getElem? (i := 229) rfl) rfl
theorem wd_742 : Cond.static Lib.Math.min.name ∈ lwg := tb_3 (List.mem_of_getElem? (i := 230) rfl) rfl
theorem wd_743 : Cond.code Lib.Math.min.name Lib.Math.min.code 2 (some .int) ∈ lwg := tb_3 (List.mem_of_getElem? (i := 231) rfl) rfl
theorem wd_744 : Cond.methodLink RX10 133 yX6_startStep ∈ lwg := tb_3 (List.mem_of_getElem? (i := 232) rfl) rfl
theorem wd_745 : Cond.instanceMethod yX6_startStep ∈ lwg := tb_3 (List.mem_of_getElem? (i := 233) rfl) rfl
theorem wd_746 : Cond.selects yX6_startStep.cls yX6_startStep yX6_startStep ∈ lwg := tb_3 (List.mem_of_getElem? (i := 234) rfl) rfl
theorem wd_747 : Cond.code yX6_startStep cX6_startStep 1 none ∈ lwg := tb_3 (List.mem_of_getElem? (i := 235) rfl) rfl
theorem wd_748 : Jvm.Cond.constant RX10 146 (1000000) ∈ lwg := tb_3 (List.mem_of_getElem? (i := 236) rfl) rfl
theorem wd_749 : Cond.methodLink RX10 150 yX10_giveUp ∈ lwg := tb_3 (List.mem_of_getElem? (i := 237) rfl) rfl
theorem wd_751 : Cond.instanceMethod yX10_giveUp ∈ lwg := tb_3 (List.mem_of_getElem? (i := 239) rfl) rfl
theorem wd_752 : Cond.code yX10_giveUp cX10_giveUp 2 none ∈ lwg := tb_4 (List.mem_of_getElem? (i := 0) rfl) rfl
theorem wd_753 : Cond.methodLink RX10 181 yX6_stop ∈ lwg := tb_4 (List.mem_of_getElem? (i := 1) rfl) rfl
theorem wd_754 : Cond.instanceMethod yX6_stop ∈ lwg := tb_4 (List.mem_of_getElem? (i := 2) rfl) rfl
theorem wd_755 : Cond.selects yX6_stop.cls yX6_stop yX6_stop ∈ lwg := tb_4 (List.mem_of_getElem? (i := 3) rfl) rfl
theorem wd_756 : Cond.code yX6_stop cX6_stop 1 none ∈ lwg := tb_4 (List.mem_of_getElem? (i := 4) rfl) rfl
theorem wd_757 : Cond.methodLink RX10 184 yX8_restore ∈ lwg := tb_4 (List.mem_of_getElem? (i := 5) rfl) rfl
theorem wd_758 : Cond.instanceMethod yX8_restore ∈ lwg := tb_4 (List.mem_of_getElem? (i := 6) rfl) rfl
theorem wd_759 : Cond.selects yX8_restore.cls yX8_restore yX8_restore ∈ lwg := tb_4 (List.mem_of_getElem? (i := 7) rfl) rfl
theorem wd_760 : Cond.code yX8_restore cX8_restore 4 none ∈ lwg := tb_4 (List.mem_of_getElem? (i := 8) rfl) rfl
theorem wd_761 : Cond.methodLink RX10 190 yX6_forget ∈ lwg := tb_4 (List.mem_of_getElem? (i := 9) rfl) rfl
theorem wd_762 : Cond.instanceMethod yX6_forget ∈ lwg := tb_4 (List.mem_of_getElem? (i := 10) rfl) rfl
theorem wd_763 : Cond.selects yX6_forget.cls yX6_forget yX6_forget ∈ lwg := tb_4 (List.mem_of_getElem? (i := 11) rfl) rfl
theorem wd_764 : Cond.code yX6_forget cX6_forget 5 none ∈ lwg := tb_4 (List.mem_of_getElem? (i := 12) rfl) rfl
theorem wd_765 : Cond.methodLink RX6 193 yX6_historyRow ∈ lwg := tb_4 (List.mem_of_getElem? (i := 13) rfl) rfl
theorem wd_766 : Cond.static yX6_historyRow ∈ lwg := tb_4 (List.mem_of_getElem? (i := 14) rfl) rfl
theorem wd_767 : Cond.code yX6_historyRow cX6_historyRow 3 (some .int) ∈ lwg := tb_4 (List.mem_of_getElem? (i := 15) rfl) rfl
theorem wd_768 : Cond.methodLink RX6 197 yX6_historyBit ∈ lwg := tb_4 (List.mem_of_getElem? (i := 16) rfl) rfl
theorem wd_769 : Cond.static yX6_historyBit ∈ lwg := tb_4 (List.mem_of_getElem? (i := 17) rfl) rfl
theorem wd_770 : Cond.code yX6_historyBit cX6_historyBit 1 (some .long) ∈ lwg := tb_4 (List.mem_of_getElem? (i := 18) rfl) rfl
theorem wd_771 : Jvm.Cond.constantLong RX6 205 (-1) ∈ lwg := tb_4 (List.mem_of_getElem? (i := 19) rfl) rfl
theorem wd_772 : Cond.methodLink RX10 197 yX1_read ∈ lwg := tb_4 (List.mem_of_getElem? (i := 20) rfl) rfl
theorem wd_773 : Cond.instanceMethod yX1_read ∈ lwg := tb_4 (List.mem_of_getElem? (i := 21) rfl) rfl
theorem wd_774 : Cond.selects yX1_read.cls yX1_read yX1_read ∈ lwg := tb_4 (List.mem_of_getElem? (i := 22) rfl) rfl
theorem wd_775 : Cond.code yX1_read cX1_read 3 none ∈ lwg := tb_4 (List.mem_of_getElem? (i := 23) rfl) rfl
theorem wd_776 : Cond.methodLink RX10 154 yX6_isBusy ∈ lwg := tb_4 (List.mem_of_getElem? (i := 24) rfl) rfl
theorem wd_777 : Cond.instanceMethod yX6_isBusy ∈ lwg := tb_4 (List.mem_of_getElem? (i := 25) rfl) rfl
theorem wd_778 : Cond.selects yX6_isBusy.cls yX6_isBusy yX6_isBusy ∈ lwg := tb_4 (List.mem_of_getElem? (i := 26) rfl) rfl
theorem wd_779 : Cond.code yX6_isBusy cX6_isBusy 1 (some .boolean) ∈ lwg := tb_4 (List.mem_of_getElem? (i := 27) rfl) rfl
theorem wd_780 : Cond.methodLink RX10 158 yX6_advance ∈ lwg := tb_4 (List.mem_of_getElem? (i := 28) rfl) rfl
theorem wd_781 : Cond.instanceMethod yX6_advance ∈ lwg := tb_4 (List.mem_of_getElem? (i := 29) rfl) rfl
theorem wd_782 : Cond.selects yX6_advance.cls yX6_advance yX6_advance ∈ lwg := tb_4 (List.mem_of_getElem? (i := 30) rfl) rfl
theorem wd_783 : Cond.code yX6_advance cX6_advance 2 none ∈ lwg := tb_4 (List.mem_of_getElem? (i := 31) rfl) rfl
theorem wd_784 : Cond.methodLink RX6 116 yX6_advanceActive ∈ lwg := tb_4 (List.mem_of_getElem? (i := 32) rfl) rfl
theorem wd_786 : Cond.instanceMethod yX6_advanceActive ∈ lwg := tb_4 (List.mem_of_getElem? (i := 34) rfl) rfl
theorem wd_787 : Cond.code yX6_advanceActive cX6_advanceActive 13 none ∈ lwg := tb_4 (List.mem_of_getElem? (i := 35) rfl) rfl
theorem wd_788 : Cond.methodLink RX6 141 yX6_isPartner ∈ lwg := tb_4 (List.mem_of_getElem? (i := 36) rfl) rfl
theorem wd_790 : Cond.instanceMethod yX6_isPartner ∈ lwg := tb_4 (List.mem_of_getElem? (i := 38) rfl) rfl
theorem wd_791 : Cond.code yX6_isPartner cX6_isPartner 5 (some .boolean) ∈ lwg := tb_4 (List.mem_of_getElem? (i := 39) rfl) rfl
theorem wd_792 : Cond.methodLink RX6 145 yX6_isNew ∈ lwg := tb_4 (List.mem_of_getElem? (i := 40) rfl) rfl
theorem wd_794 : Cond.instanceMethod yX6_isNew ∈ lwg := tb_4 (List.mem_of_getElem? (i := 42) rfl) rfl
theorem wd_795 : Cond.code yX6_isNew cX6_isNew 4 (some .boolean) ∈ lwg := tb_4 (List.mem_of_getElem? (i := 43) rfl) rfl
theorem wd_796 : Cond.methodLink RX6 149 yX6_isMatch ∈ lwg := tb_4 (List.mem_of_getElem? (i := 44) rfl) rfl
theorem wd_798 : Cond.instanceMethod yX6_isMatch ∈ lwg := tb_4 (List.mem_of_getElem? (i := 46) rfl) rfl
theorem wd_799 : Cond.code yX6_isMatch cX6_isMatch 8 (some .boolean) ∈ lwg := tb_4 (List.mem_of_getElem? (i := 47) rfl) rfl
theorem wd_800 : Cond.methodLink RX6 56 yJ7_fill_53178 ∈ lwg := tb_4 (List.mem_of_getElem? (i := 48) rfl) rfl
theorem wd_802 : Cond.methodLink RX6 170 yX6_resolve ∈ lwg := tb_4 (List.mem_of_getElem? (i := 50) rfl) rfl
theorem wd_803 : Cond.static yX6_resolve ∈ lwg := tb_4 (List.mem_of_getElem? (i := 51) rfl) rfl
theorem wd_804 : Cond.code yX6_resolve cX6_resolve 2 (some .int) ∈ lwg := tb_4 (List.mem_of_getElem? (i := 52) rfl) rfl
theorem wd_805 : Cond.methodLink RX6 174 yX8_form ∈ lwg := tb_4 (List.mem_of_getElem? (i := 53) rfl) rfl
theorem wd_806 : Cond.instanceMethod yX8_form ∈ lwg := tb_4 (List.mem_of_getElem? (i := 54) rfl) rfl
theorem wd_807 : Cond.selects yX8_form.cls yX8_form yX8_form ∈ lwg := tb_4 (List.mem_of_getElem? (i := 55) rfl) rfl
theorem wd_808 : Cond.code yX8_form cX8_form 4 (some .int) ∈ lwg := tb_4 (List.mem_of_getElem? (i := 56) rfl) rfl
theorem wd_809 : Cond.methodLink RX6 190 yX8_isEntailed ∈ lwg := tb_4 (List.mem_of_getElem? (i := 57) rfl) rfl
theorem wd_810 : Cond.instanceMethod yX8_isEntailed ∈ lwg := tb_4 (List.mem_of_getElem? (i := 58) rfl) rfl
theorem wd_811 : Cond.selects yX8_isEntailed.cls yX8_isEntailed yX8_isEntailed ∈ lwg := tb_4 (List.mem_of_getElem? (i := 59) rfl) rfl
theorem wd_812 : Cond.code yX8_isEntailed cX8_isEntailed 7 (some .boolean) ∈ lwg := tb_4 (List.mem_of_getElem? (i := 60) rfl) rfl
theorem wd_813 : Cond.methodLink RX8 75 yX8_lowest ∈ lwg := tb_4 (List.mem_of_getElem? (i := 61) rfl) rfl
theorem wd_814 : Cond.instanceMethod yX8_lowest ∈ lwg := tb_4 (List.mem_of_getElem? (i := 62) rfl) rfl
theorem wd_815 : Cond.selects yX8_lowest.cls yX8_lowest yX8_lowest ∈ lwg := tb_4 (List.mem_of_getElem? (i := 63) rfl) rfl
theorem wd_816 : Cond.code yX8_lowest cX8_lowest 7 (some .int) ∈ lwg := tb_4 (List.mem_of_getElem? (i := 64) rfl) rfl
theorem wd_817 : Cond.methodLink RX8 79 yX8_form ∈ lwg := tb_4 (List.mem_of_getElem? (i := 65) rfl) rfl
theorem wd_818 : Cond.methodLink RX6 153 yX6_fire ∈ lwg := tb_4 (List.mem_of_getElem? (i := 66) rfl) rfl
theorem wd_820 : Cond.instanceMethod yX6_fire ∈ lwg := tb_4 (List.mem_of_getElem? (i := 68) rfl) rfl
theorem wd_821 : Cond.code yX6_fire cX6_fire 8 none ∈ lwg := tb_4 (List.mem_of_getElem? (i := 69) rfl) rfl
theorem wd_822 : Cond.methodLink RX6 207 yX8_mayAct ∈ lwg := tb_4 (List.mem_of_getElem? (i := 70) rfl) rfl
theorem wd_823 : Cond.instanceMethod yX8_mayAct ∈ lwg := tb_4 (List.mem_of_getElem? (i := 71) rfl) rfl
theorem wd_824 : Cond.selects yX8_mayAct.cls yX8_mayAct yX8_mayAct ∈ lwg := tb_4 (List.mem_of_getElem? (i := 72) rfl) rfl
theorem wd_825 : Cond.code yX8_mayAct cX8_mayAct 1 (some .boolean) ∈ lwg := tb_4 (List.mem_of_getElem? (i := 73) rfl) rfl
theorem wd_826 : Cond.methodLink RX6 211 yX7_removesNone ∈ lwg := tb_4 (List.mem_of_getElem? (i := 74) rfl) rfl
theorem wd_827 : Cond.instanceMethod yX7_removesNone ∈ lwg := tb_4 (List.mem_of_getElem? (i := 75) rfl) rfl
theorem wd_828 : Cond.selects yX7_removesNone.cls yX7_removesNone yX7_removesNone ∈ lwg := tb_4 (List.mem_of_getElem? (i := 76) rfl) rfl
theorem wd_829 : Cond.code yX7_removesNone cX7_removesNone 1 (some .boolean) ∈ lwg := tb_4 (List.mem_of_getElem? (i := 77) rfl) rfl
theorem wd_830 : Cond.methodLink RX6 214 yX6_remember ∈ lwg := tb_4 (List.mem_of_getElem? (i := 78) rfl) rfl
theorem wd_832 : Cond.instanceMethod yX6_remember ∈ lwg := tb_4 (List.mem_of_getElem? (i := 80) rfl) rfl
theorem wd_833 : Cond.code yX6_remember cX6_remember 4 none ∈ lwg := tb_4 (List.mem_of_getElem? (i := 81) rfl) rfl
theorem wd_834 : Cond.methodLink RX6 200 Lib.Math.max.name ∈ lwg := tb_4 (List.mem_of_getElem? (i := 82) rfl) rfl
theorem wd_835 : Cond.static Lib.Math.max.name ∈ lwg := tb_4 (List.mem_of_getElem? (i := 83) rfl) rfl
theorem wd_836 : Cond.code Lib.Math.max.name Lib.Math.max.code 2 (some .int) ∈ lwg := tb_4 (List.mem_of_getElem? (i := 84) rfl) rfl
theorem wd_837 : Cond.methodLink RX6 94 yX6_push ∈ lwg := tb_4 (List.mem_of_getElem? (i := 85) rfl) rfl
theorem wd_839 : Cond.instanceMethod yX6_push ∈ lwg := tb_4 (List.mem_of_getElem? (i := 87) rfl) rfl
theorem wd_840 : Cond.code yX6_push cX6_push 3 (some (.object "Tellcourt$Frame")) ∈ lwg := tb_4 (List.mem_of_getElem? (i := 88) rfl) rfl
theorem wd_841 : Cond.methodLink RX6 59 arraycopyName ∈ lwg := tb_4 (List.mem_of_getElem? (i := 89) rfl) rfl
theorem wd_842 : Cond.methodLink RX6 109 yX8_lowBit ∈ lwg := tb_4 (List.mem_of_getElem? (i := 90) rfl) rfl
theorem wd_843 : Cond.static yX8_lowBit ∈ lwg := tb_4 (List.mem_of_getElem? (i := 91) rfl) rfl
theorem wd_844 : Cond.code yX8_lowBit cX8_lowBit 1 (some .long) ∈ lwg := tb_4 (List.mem_of_getElem? (i := 92) rfl) rfl
theorem wd_845 : Cond.methodLink RX6 113 yX8_highBit ∈ lwg := tb_4 (List.mem_of_getElem? (i := 93) rfl) rfl
theorem wd_846 : Cond.static yX8_highBit ∈ lwg := tb_4 (List.mem_of_getElem? (i := 94) rfl) rfl
theorem wd_847 : Cond.code yX8_highBit cX8_highBit 1 (some .long) ∈ lwg := tb_4 (List.mem_of_getElem? (i := 95) rfl) rfl
theorem wd_848 : Cond.methodLink RX6 120 yX6_advanceWaking ∈ lwg := tb_4 (List.mem_of_getElem? (i := 96) rfl) rfl
theorem wd_850 : Cond.instanceMethod yX6_advanceWaking ∈ lwg := tb_4 (List.mem_of_getElem? (i := 98) rfl) rfl
theorem wd_851 : Cond.code yX6_advanceWaking cX6_advanceWaking 3 none ∈ lwg := tb_4 (List.mem_of_getElem? (i := 99) rfl) rfl
theorem wd_852 : Cond.methodLink RX6 233 yX8_isIn ∈ lwg := tb_4 (List.mem_of_getElem? (i := 100) rfl) rfl
theorem wd_853 : Cond.static yX8_isIn ∈ lwg := tb_4 (List.mem_of_getElem? (i := 101) rfl) rfl
theorem wd_854 : Cond.code yX8_isIn cX8_isIn 5 (some .boolean) ∈ lwg := tb_4 (List.mem_of_getElem? (i := 102) rfl) rfl
theorem wd_855 : Cond.methodLink RX8 41 yX8_lowBit ∈ lwg := tb_4 (List.mem_of_getElem? (i := 103) rfl) rfl
theorem wd_856 : Cond.methodLink RX8 45 yX8_highBit ∈ lwg := tb_4 (List.mem_of_getElem? (i := 104) rfl) rfl
theorem wd_857 : Cond.methodLink RX6 123 yX6_advanceBodies ∈ lwg := tb_4 (List.mem_of_getElem? (i := 105) rfl) rfl
theorem wd_859 : Cond.instanceMethod yX6_advanceBodies ∈ lwg := tb_4 (List.mem_of_getElem? (i := 107) rfl) rfl
theorem wd_860 : Cond.code yX6_advanceBodies cX6_advanceBodies 6 none ∈ lwg := tb_4 (List.mem_of_getElem? (i := 108) rfl) rfl
theorem wd_861 : Cond.methodLink RX6 246 yX6_tellEqual ∈ lwg := tb_4 (List.mem_of_getElem? (i := 109) rfl) rfl
theorem wd_862 : Cond.instanceMethod yX6_tellEqual ∈ lwg := tb_4 (List.mem_of_getElem? (i := 110) rfl) rfl
theorem wd_863 : Cond.selects yX6_tellEqual.cls yX6_tellEqual yX6_tellEqual ∈ lwg := tb_4 (List.mem_of_getElem? (i := 111) rfl) rfl
theorem wd_864 : Cond.code yX6_tellEqual cX6_tellEqual 6 none ∈ lwg := tb_4 (List.mem_of_getElem? (i := 112) rfl) rfl
theorem wd_865 : Cond.methodLink RX6 98 yX8_unite ∈ lwg := tb_4 (List.mem_of_getElem? (i := 113) rfl) rfl
theorem wd_866 : Cond.instanceMethod yX8_unite ∈ lwg := tb_4 (List.mem_of_getElem? (i := 114) rfl) rfl
theorem wd_867 : Cond.selects yX8_unite.cls yX8_unite yX8_unite ∈ lwg := tb_4 (List.mem_of_getElem? (i := 115) rfl) rfl
theorem wd_868 : Cond.code yX8_unite cX8_unite 9 (some .int) ∈ lwg := tb_4 (List.mem_of_getElem? (i := 116) rfl) rfl
theorem wd_869 : Cond.methodLink RX8 83 yX8_rootOf ∈ lwg := tb_4 (List.mem_of_getElem? (i := 117) rfl) rfl
theorem wd_871 : Cond.instanceMethod yX8_rootOf ∈ lwg := tb_4 (List.mem_of_getElem? (i := 119) rfl) rfl
theorem wd_872 : Cond.code yX8_rootOf cX8_rootOf 3 (some .int) ∈ lwg := tb_4 (List.mem_of_getElem? (i := 120) rfl) rfl
theorem wd_873 : Cond.methodLink RX8 86 Lib.Math.min.name ∈ lwg := tb_4 (List.mem_of_getElem? (i := 121) rfl) rfl
theorem wd_874 : Cond.methodLink RX8 92 Lib.Math.max.name ∈ lwg := tb_4 (List.mem_of_getElem? (i := 122) rfl) rfl
theorem wd_875 : Cond.methodLink RX8 95 yX8_join ∈ lwg := tb_4 (List.mem_of_getElem? (i := 123) rfl) rfl
theorem wd_877 : Cond.instanceMethod yX8_join ∈ lwg := tb_4 (List.mem_of_getElem? (i := 125) rfl) rfl
theorem wd_878 : Cond.code yX8_join cX8_join 5 (some .int) ∈ lwg := tb_4 (List.mem_of_getElem? (i := 126) rfl) rfl
theorem wd_879 : Cond.methodLink RX6 105 yX8_isTouched ∈ lwg := tb_4 (List.mem_of_getElem? (i := 127) rfl) rfl
theorem wd_880 : Cond.instanceMethod yX8_isTouched ∈ lwg := tb_4 (List.mem_of_getElem? (i := 128) rfl) rfl
theorem wd_881 : Cond.selects yX8_isTouched.cls yX8_isTouched yX8_isTouched ∈ lwg := tb_4 (List.mem_of_getElem? (i := 129) rfl) rfl
theorem wd_882 : Cond.code yX8_isTouched cX8_isTouched 3 (some .boolean) ∈ lwg := tb_4 (List.mem_of_getElem? (i := 130) rfl) rfl
theorem wd_883 : Cond.methodLink RX6 250 yX6_tellToken ∈ lwg := tb_4 (List.mem_of_getElem? (i := 131) rfl) rfl
theorem wd_884 : Cond.instanceMethod yX6_tellToken ∈ lwg := tb_4 (List.mem_of_getElem? (i := 132) rfl) rfl
theorem wd_885 : Cond.selects yX6_tellToken.cls yX6_tellToken yX6_tellToken ∈ lwg := tb_4 (List.mem_of_getElem? (i := 133) rfl) rfl
theorem wd_886 : Cond.code yX6_tellToken cX6_tellToken 10 none ∈ lwg := tb_4 (List.mem_of_getElem? (i := 134) rfl) rfl
theorem wd_887 : Cond.methodLink RX6 90 yX8_addToken ∈ lwg := tb_4 (List.mem_of_getElem? (i := 135) rfl) rfl
theorem wd_888 : Cond.instanceMethod yX8_addToken ∈ lwg := tb_4 (List.mem_of_getElem? (i := 136) rfl) rfl
theorem wd_889 : Cond.selects yX8_addToken.cls yX8_addToken yX8_addToken ∈ lwg := tb_4 (List.mem_of_getElem? (i := 137) rfl) rfl
theorem wd_890 : Cond.code yX8_addToken cX8_addToken 9 (some .int) ∈ lwg := tb_4 (List.mem_of_getElem? (i := 138) rfl) rfl
theorem wd_891 : Cond.methodLink RX10 161 yX9_choose ∈ lwg := tb_4 (List.mem_of_getElem? (i := 139) rfl) rfl
theorem wd_892 : Cond.instanceMethod yX9_choose ∈ lwg := tb_4 (List.mem_of_getElem? (i := 140) rfl) rfl
theorem wd_893 : Cond.selects yX9_choose.cls yX9_choose yX9_choose ∈ lwg := tb_4 (List.mem_of_getElem? (i := 141) rfl) rfl
theorem wd_894 : Cond.code yX9_choose cX9_choose 3 (some .int) ∈ lwg := tb_4 (List.mem_of_getElem? (i := 142) rfl) rfl
theorem wd_895 : Cond.methodLink RX10 167 yX10_act ∈ lwg := tb_4 (List.mem_of_getElem? (i := 143) rfl) rfl
theorem wd_897 : Cond.instanceMethod yX10_act ∈ lwg := tb_4 (List.mem_of_getElem? (i := 145) rfl) rfl
theorem wd_898 : Cond.code yX10_act cX10_act 11 none ∈ lwg := tb_4 (List.mem_of_getElem? (i := 146) rfl) rfl
theorem wd_899 : Cond.methodLink RX10 203 yX1_drop ∈ lwg := tb_4 (List.mem_of_getElem? (i := 147) rfl) rfl
theorem wd_900 : Cond.instanceMethod yX1_drop ∈ lwg := tb_4 (List.mem_of_getElem? (i := 148) rfl) rfl
theorem wd_901 : Cond.selects yX1_drop.cls yX1_drop yX1_drop ∈ lwg := tb_4 (List.mem_of_getElem? (i := 149) rfl) rfl
theorem wd_902 : Cond.code yX1_drop cX1_drop 3 none ∈ lwg := tb_4 (List.mem_of_getElem? (i := 150) rfl) rfl
theorem wd_903 : Cond.methodLink RX10 206 yX8_mayAct ∈ lwg := tb_4 (List.mem_of_getElem? (i := 151) rfl) rfl
theorem wd_904 : Cond.methodLink RX10 220 yX0_look ∈ lwg := tb_4 (List.mem_of_getElem? (i := 152) rfl) rfl
theorem wd_905 : Cond.instanceMethod yX0_look ∈ lwg := tb_4 (List.mem_of_getElem? (i := 153) rfl) rfl
theorem wd_906 : Cond.selects yX0_look.cls yX0_look yX0_look ∈ lwg := tb_4 (List.mem_of_getElem? (i := 154) rfl) rfl
theorem wd_907 : Cond.code yX0_look cX0_look 2 (some .int) ∈ lwg := tb_4 (List.mem_of_getElem? (i := 155) rfl) rfl
theorem wd_909 : Cond.methodLink RX10 232 yX6_tellEqual ∈ lwg := tb_4 (List.mem_of_getElem? (i := 157) rfl) rfl
theorem wd_910 : Cond.methodLink RX10 236 yX6_tellToken ∈ lwg := tb_4 (List.mem_of_getElem? (i := 158) rfl) rfl
theorem wd_911 : Cond.methodLink RX10 240 yX10_sideOf ∈ lwg := tb_4 (List.mem_of_getElem? (i := 159) rfl) rfl
theorem wd_913 : Cond.instanceMethod yX10_sideOf ∈ lwg := tb_4 (List.mem_of_getElem? (i := 161) rfl) rfl
theorem wd_914 : Cond.code yX10_sideOf cX10_sideOf 5 (some .int) ∈ lwg := tb_4 (List.mem_of_getElem? (i := 162) rfl) rfl
theorem wd_915 : Cond.methodLink RX10 280 yX10_isEntailed ∈ lwg := tb_4 (List.mem_of_getElem? (i := 163) rfl) rfl
theorem wd_917 : Cond.instanceMethod yX10_isEntailed ∈ lwg := tb_4 (List.mem_of_getElem? (i := 165) rfl) rfl
theorem wd_918 : Cond.code yX10_isEntailed cX10_isEntailed 2 (some .boolean) ∈ lwg := tb_4 (List.mem_of_getElem? (i := 166) rfl) rfl
theorem wd_919 : Cond.methodLink RX10 284 yX8_isEntailed ∈ lwg := tb_4 (List.mem_of_getElem? (i := 167) rfl) rfl
theorem wd_920 : Cond.methodLink RX10 243 yX10_ask ∈ lwg := tb_4 (List.mem_of_getElem? (i := 168) rfl) rfl
theorem wd_922 : Cond.instanceMethod yX10_ask ∈ lwg := tb_4 (List.mem_of_getElem? (i := 170) rfl) rfl
theorem wd_923 : Cond.code yX10_ask cX10_ask 8 none ∈ lwg := tb_4 (List.mem_of_getElem? (i := 171) rfl) rfl
theorem wd_924 : Cond.methodLink RX10 272 yX8_lowest ∈ lwg := tb_4 (List.mem_of_getElem? (i := 172) rfl) rfl
theorem wd_925 : Cond.methodLink RX10 276 yX0_include ∈ lwg := tb_4 (List.mem_of_getElem? (i := 173) rfl) rfl
theorem wd_926 : Cond.instanceMethod yX0_include ∈ lwg := tb_4 (List.mem_of_getElem? (i := 174) rfl) rfl
theorem wd_927 : Cond.selects yX0_include.cls yX0_include yX0_include ∈ lwg := tb_4 (List.mem_of_getElem? (i := 175) rfl) rfl
theorem wd_928 : Cond.code yX0_include cX0_include 3 none ∈ lwg := tb_4 (List.mem_of_getElem? (i := 176) rfl) rfl
theorem wd_929 : Cond.methodLink RX0 32 yX8_lowBit ∈ lwg := tb_4 (List.mem_of_getElem? (i := 177) rfl) rfl
theorem wd_930 : Cond.methodLink RX0 42 yX8_highBit ∈ lwg := tb_4 (List.mem_of_getElem? (i := 178) rfl) rfl
theorem wd_931 : Cond.methodLink RX10 247 yX10_conceal ∈ lwg := tb_4 (List.mem_of_getElem? (i := 179) rfl) rfl
theorem wd_933 : Cond.instanceMethod yX10_conceal ∈ lwg := tb_4 (List.mem_of_getElem? (i := 181) rfl) rfl
theorem wd_934 : Cond.code yX10_conceal cX10_conceal 5 none ∈ lwg := tb_4 (List.mem_of_getElem? (i := 182) rfl) rfl
theorem wd_935 : Cond.methodLink RX10 261 yX8_makeVariable ∈ lwg := tb_4 (List.mem_of_getElem? (i := 183) rfl) rfl
theorem wd_936 : Cond.methodLink RX10 250 yX10_enter ∈ lwg := tb_4 (List.mem_of_getElem? (i := 184) rfl) rfl
theorem wd_938 : Cond.instanceMethod yX10_enter ∈ lwg := tb_4 (List.mem_of_getElem? (i := 186) rfl) rfl
theorem wd_939 : Cond.code yX10_enter cX10_enter 5 none ∈ lwg := tb_4 (List.mem_of_getElem? (i := 187) rfl) rfl
theorem wd_940 : Cond.methodLink RX10 254 yX2_isFirst ∈ lwg := tb_4 (List.mem_of_getElem? (i := 188) rfl) rfl
theorem wd_941 : Cond.instanceMethod yX2_isFirst ∈ lwg := tb_4 (List.mem_of_getElem? (i := 189) rfl) rfl
theorem wd_942 : Cond.selects yX2_isFirst.cls yX2_isFirst yX2_isFirst ∈ lwg := tb_4 (List.mem_of_getElem? (i := 190) rfl) rfl
theorem wd_943 : Cond.code yX2_isFirst cX2_isFirst 5 (some .boolean) ∈ lwg := tb_4 (List.mem_of_getElem? (i := 191) rfl) rfl
theorem wd_944 : Jvm.Cond.constant RX2 34 (65537) ∈ lwg := tb_4 (List.mem_of_getElem? (i := 192) rfl) rfl
theorem wd_945 : Cond.methodLink RX2 35 yX2_multiply ∈ lwg := tb_4 (List.mem_of_getElem? (i := 193) rfl) rfl
theorem wd_947 : Cond.instanceMethod yX2_multiply ∈ lwg := tb_4 (List.mem_of_getElem? (i := 195) rfl) rfl
theorem wd_948 : Cond.code yX2_multiply cX2_multiply 5 none ∈ lwg := tb_4 (List.mem_of_getElem? (i := 196) rfl) rfl
theorem wd_949 : Cond.methodLink RX10 258 yX10_dare ∈ lwg := tb_4 (List.mem_of_getElem? (i := 197) rfl) rfl
theorem wd_951 : Cond.instanceMethod yX10_dare ∈ lwg := tb_4 (List.mem_of_getElem? (i := 199) rfl) rfl
theorem wd_952 : Cond.code yX10_dare cX10_dare 5 none ∈ lwg := tb_4 (List.mem_of_getElem? (i := 200) rfl) rfl
theorem wd_953 : Cond.methodLink RX10 70 yX4_open ∈ lwg := tb_4 (List.mem_of_getElem? (i := 201) rfl) rfl
theorem wd_954 : Cond.instanceMethod yX4_open ∈ lwg := tb_4 (List.mem_of_getElem? (i := 202) rfl) rfl
theorem wd_955 : Cond.selects yX4_open.cls yX4_open yX4_open ∈ lwg := tb_4 (List.mem_of_getElem? (i := 203) rfl) rfl
theorem wd_956 : Cond.code yX4_open cX4_open 1 none ∈ lwg := tb_4 (List.mem_of_getElem? (i := 204) rfl) rfl
theorem wd_957 : Cond.methodLink RX10 268 yX8_save ∈ lwg := tb_4 (List.mem_of_getElem? (i := 205) rfl) rfl
theorem wd_958 : Cond.instanceMethod yX8_save ∈ lwg := tb_4 (List.mem_of_getElem? (i := 206) rfl) rfl
theorem wd_959 : Cond.selects yX8_save.cls yX8_save yX8_save ∈ lwg := tb_4 (List.mem_of_getElem? (i := 207) rfl) rfl
theorem wd_960 : Cond.code yX8_save cX8_save 2 none ∈ lwg := tb_4 (List.mem_of_getElem? (i := 208) rfl) rfl
theorem wd_961 : Cond.methodLink RX8 62 arraycopyName ∈ lwg := tb_4 (List.mem_of_getElem? (i := 209) rfl) rfl
theorem wd_962 : Cond.methodLink RX10 171 yX10_goOn ∈ lwg := tb_4 (List.mem_of_getElem? (i := 210) rfl) rfl
theorem wd_964 : Cond.instanceMethod yX10_goOn ∈ lwg := tb_4 (List.mem_of_getElem? (i := 212) rfl) rfl
theorem wd_965 : Cond.code yX10_goOn cX10_goOn 5 (some .boolean) ∈ lwg := tb_4 (List.mem_of_getElem? (i := 213) rfl) rfl
theorem wd_966 : Cond.methodLink RX10 175 yX10_assume ∈ lwg := tb_4 (List.mem_of_getElem? (i := 214) rfl) rfl
theorem wd_968 : Cond.instanceMethod yX10_assume ∈ lwg := tb_4 (List.mem_of_getElem? (i := 216) rfl) rfl
theorem wd_969 : Cond.code yX10_assume cX10_assume 4 (some .boolean) ∈ lwg := tb_4 (List.mem_of_getElem? (i := 217) rfl) rfl
theorem wd_970 : Cond.methodLink RX10 178 yX10_finish ∈ lwg := tb_4 (List.mem_of_getElem? (i := 218) rfl) rfl
theorem wd_972 : Cond.instanceMethod yX10_finish ∈ lwg := tb_4 (List.mem_of_getElem? (i := 220) rfl) rfl
theorem wd_973 : Cond.code yX10_finish cX10_finish 3 none ∈ lwg := tb_4 (List.mem_of_getElem? (i := 221) rfl) rfl
theorem wd_974 : Cond.methodLink RX10 287 yX8_dropPassing ∈ lwg := tb_4 (List.mem_of_getElem? (i := 222) rfl) rfl
theorem wd_975 : Cond.instanceMethod yX8_dropPassing ∈ lwg := tb_4 (List.mem_of_getElem? (i := 223) rfl) rfl
theorem wd_976 : Cond.selects yX8_dropPassing.cls yX8_dropPassing yX8_dropPassing ∈ lwg := tb_4 (List.mem_of_getElem? (i := 224) rfl) rfl
theorem wd_977 : Cond.code yX8_dropPassing cX8_dropPassing 2 none ∈ lwg := tb_4 (List.mem_of_getElem? (i := 225) rfl) rfl
theorem wd_992 : Cond.methodLink RX10 80 yX8_copyFrom ∈ lwg := tb_5 (List.mem_of_getElem? (i := 0) rfl) rfl
theorem wd_993 : Cond.instanceMethod yX8_copyFrom ∈ lwg := tb_5 (List.mem_of_getElem? (i := 1) rfl) rfl
theorem wd_994 : Cond.selects yX8_copyFrom.cls yX8_copyFrom yX8_copyFrom ∈ lwg := tb_5 (List.mem_of_getElem? (i := 2) rfl) rfl
theorem wd_995 : Cond.code yX8_copyFrom cX8_copyFrom 2 none ∈ lwg := tb_5 (List.mem_of_getElem? (i := 3) rfl) rfl
theorem wd_996 : Cond.methodLink RX10 84 yX6_copyFrom ∈ lwg := tb_5 (List.mem_of_getElem? (i := 4) rfl) rfl
theorem wd_997 : Cond.instanceMethod yX6_copyFrom ∈ lwg := tb_5 (List.mem_of_getElem? (i := 5) rfl) rfl
theorem wd_998 : Cond.selects yX6_copyFrom.cls yX6_copyFrom yX6_copyFrom ∈ lwg := tb_5 (List.mem_of_getElem? (i := 6) rfl) rfl
theorem wd_999 : Cond.code yX6_copyFrom cX6_copyFrom 2 none ∈ lwg := tb_5 (List.mem_of_getElem? (i := 7) rfl) rfl
theorem wd_1000 : Cond.methodLink RX10 87 yX2_copyFrom ∈ lwg := tb_5 (List.mem_of_getElem? (i := 8) rfl) rfl
theorem wd_1001 : Cond.instanceMethod yX2_copyFrom ∈ lwg := tb_5 (List.mem_of_getElem? (i := 9) rfl) rfl
theorem wd_1002 : Cond.selects yX2_copyFrom.cls yX2_copyFrom yX2_copyFrom ∈ lwg := tb_5 (List.mem_of_getElem? (i := 10) rfl) rfl
theorem wd_1003 : Cond.code yX2_copyFrom cX2_copyFrom 2 none ∈ lwg := tb_5 (List.mem_of_getElem? (i := 11) rfl) rfl
theorem wd_1004 : Cond.methodLink RX2 28 arraycopyName ∈ lwg := tb_5 (List.mem_of_getElem? (i := 12) rfl) rfl
theorem wd_1005 : Cond.methodLink RX10 90 arraycopyName ∈ lwg := tb_5 (List.mem_of_getElem? (i := 13) rfl) rfl
theorem wd_1010 : Cond.methodLink RX9 31 yJ7_fill_fda19 ∈ lwg := tb_5 (List.mem_of_getElem? (i := 18) rfl) rfl
theorem wd_1011 : Cond.static yJ7_fill_fda19 ∈ lwg := tb_5 (List.mem_of_getElem? (i := 19) rfl) rfl
theorem wd_1012 : Cond.code yJ7_fill_fda19 cJ7_fill_fda19 5 none ∈ lwg := tb_5 (List.mem_of_getElem? (i := 20) rfl) rfl
theorem wd_1013 : Cond.methodLink RJ7 13 yJ7_rangeCheck_23922 ∈ lwg := tb_5 (List.mem_of_getElem? (i := 21) rfl) rfl
theorem wd_1014 : Cond.static yJ7_rangeCheck_23922 ∈ lwg := tb_5 (List.mem_of_getElem? (i := 22) rfl) rfl
theorem wd_1015 : Cond.code yJ7_rangeCheck_23922 cJ7_rangeCheck_23922 3 none ∈ lwg := tb_5 (List.mem_of_getElem? (i := 23) rfl) rfl
theorem wd_1016 : Cond.methodLink RX9 43 yX8_countStanding ∈ lwg := tb_5 (List.mem_of_getElem? (i := 24) rfl) rfl
theorem wd_1017 : Cond.instanceMethod yX8_countStanding ∈ lwg := tb_5 (List.mem_of_getElem? (i := 25) rfl) rfl
theorem wd_1018 : Cond.selects yX8_countStanding.cls yX8_countStanding yX8_countStanding ∈ lwg := tb_5 (List.mem_of_getElem? (i := 26) rfl) rfl
theorem wd_1019 : Cond.code yX8_countStanding cX8_countStanding 3 (some .int) ∈ lwg := tb_5 (List.mem_of_getElem? (i := 27) rfl) rfl
theorem wd_1020 : Cond.methodLink RX9 47 yX8_form ∈ lwg := tb_5 (List.mem_of_getElem? (i := 28) rfl) rfl
theorem wd_1021 : Cond.methodLink RX9 51 yX9_recordTokens ∈ lwg := tb_5 (List.mem_of_getElem? (i := 29) rfl) rfl
theorem wd_1023 : Cond.instanceMethod yX9_recordTokens ∈ lwg := tb_5 (List.mem_of_getElem? (i := 31) rfl) rfl
theorem wd_1024 : Cond.code yX9_recordTokens cX9_recordTokens 7 none ∈ lwg := tb_5 (List.mem_of_getElem? (i := 32) rfl) rfl
theorem wd_1025 : Cond.methodLink RX9 55 yX9_isSame ∈ lwg := tb_5 (List.mem_of_getElem? (i := 33) rfl) rfl
theorem wd_1027 : Cond.instanceMethod yX9_isSame ∈ lwg := tb_5 (List.mem_of_getElem? (i := 35) rfl) rfl
theorem wd_1028 : Cond.code yX9_isSame cX9_isSame 4 (some .boolean) ∈ lwg := tb_5 (List.mem_of_getElem? (i := 36) rfl) rfl
theorem wd_1073 : Cond.methodLink RX11 283 yX8_countStanding ∈ lwg := tb_5 (List.mem_of_getElem? (i := 81) rfl) rfl
theorem wd_1078 : Cond.methodLink RX11 286 yX10_clear ∈ lwg := tb_5 (List.mem_of_getElem? (i := 86) rfl) rfl
theorem wd_1079 : Cond.instanceMethod yX10_clear ∈ lwg := tb_5 (List.mem_of_getElem? (i := 87) rfl) rfl
theorem wd_1080 : Cond.selects yX10_clear.cls yX10_clear yX10_clear ∈ lwg := tb_5 (List.mem_of_getElem? (i := 88) rfl) rfl
theorem wd_1081 : Cond.code yX10_clear cX10_clear 1 none ∈ lwg := tb_5 (List.mem_of_getElem? (i := 89) rfl) rfl
theorem wd_1082 : Cond.methodLink RX10 65 yX8_clear ∈ lwg := tb_5 (List.mem_of_getElem? (i := 90) rfl) rfl
theorem wd_1083 : Cond.instanceMethod yX8_clear ∈ lwg := tb_5 (List.mem_of_getElem? (i := 91) rfl) rfl
theorem wd_1084 : Cond.selects yX8_clear.cls yX8_clear yX8_clear ∈ lwg := tb_5 (List.mem_of_getElem? (i := 92) rfl) rfl
theorem wd_1085 : Cond.code yX8_clear cX8_clear 1 none ∈ lwg := tb_5 (List.mem_of_getElem? (i := 93) rfl) rfl
theorem wd_1086 : Cond.methodLink RX10 68 yX6_clear ∈ lwg := tb_5 (List.mem_of_getElem? (i := 94) rfl) rfl
theorem wd_1087 : Cond.instanceMethod yX6_clear ∈ lwg := tb_5 (List.mem_of_getElem? (i := 95) rfl) rfl
theorem wd_1088 : Cond.selects yX6_clear.cls yX6_clear yX6_clear ∈ lwg := tb_5 (List.mem_of_getElem? (i := 96) rfl) rfl
theorem wd_1089 : Cond.code yX6_clear cX6_clear 1 none ∈ lwg := tb_5 (List.mem_of_getElem? (i := 97) rfl) rfl
theorem wd_1090 : Cond.methodLink RX6 50 yJ7_fill_d0a16 ∈ lwg := tb_5 (List.mem_of_getElem? (i := 98) rfl) rfl
theorem wd_1091 : Cond.static yJ7_fill_d0a16 ∈ lwg := tb_5 (List.mem_of_getElem? (i := 99) rfl) rfl
theorem wd_1092 : Cond.code yJ7_fill_d0a16 cJ7_fill_d0a16 5 none ∈ lwg := tb_5 (List.mem_of_getElem? (i := 100) rfl) rfl
theorem wd_1093 : Cond.methodLink RX10 69 yX2_clear ∈ lwg := tb_5 (List.mem_of_getElem? (i := 101) rfl) rfl
theorem wd_1094 : Cond.instanceMethod yX2_clear ∈ lwg := tb_5 (List.mem_of_getElem? (i := 102) rfl) rfl
theorem wd_1095 : Cond.selects yX2_clear.cls yX2_clear yX2_clear ∈ lwg := tb_5 (List.mem_of_getElem? (i := 103) rfl) rfl
theorem wd_1096 : Cond.code yX2_clear cX2_clear 1 none ∈ lwg := tb_5 (List.mem_of_getElem? (i := 104) rfl) rfl
theorem wd_1097 : Cond.methodLink RX2 22 yJ7_fill_53178 ∈ lwg := tb_5 (List.mem_of_getElem? (i := 105) rfl) rfl
theorem wd_1106 : Cond.methodLink RX11 295 yX2_line ∈ lwg := tb_5 (List.mem_of_getElem? (i := 114) rfl) rfl
theorem wd_1107 : Cond.instanceMethod yX2_line ∈ lwg := tb_5 (List.mem_of_getElem? (i := 115) rfl) rfl
theorem wd_1108 : Cond.selects yX2_line.cls yX2_line yX2_line ∈ lwg := tb_5 (List.mem_of_getElem? (i := 116) rfl) rfl
theorem wd_1109 : Cond.code yX2_line cX2_line 7 (some .int) ∈ lwg := tb_5 (List.mem_of_getElem? (i := 117) rfl) rfl
theorem wd_1110 : Jvm.Cond.constantLong RX2 39 (1000003) ∈ lwg := tb_5 (List.mem_of_getElem? (i := 118) rfl) rfl
theorem ic_0 : Int32.ofInt (0) = 0 := by decide +kernel
theorem ic_1 : Int32.ofInt (1) = 1 := by decide +kernel
theorem ic_2 : Int32.ofInt (2) = 2 := by decide +kernel
theorem ic_3 : Int32.ofInt (3) = 3 := by decide +kernel
theorem is_200 : (Int16.ofInt (200)).toInt32 = 200 := by decide +kernel
theorem is_204 : (Int16.ofInt (204)).toInt32 = 204 := by decide +kernel
theorem ib_64 : (Int8.ofInt (64)).toInt32 = 64 := by decide +kernel
theorem ic_4 : Int32.ofInt (4) = 4 := by decide +kernel
theorem ib_75 : (Int8.ofInt (75)).toInt32 = 75 := by decide +kernel
theorem ib_74 : (Int8.ofInt (74)).toInt32 = 74 := by decide +kernel
theorem ic_m1 : Int32.ofInt (-1) = -1 := by decide +kernel
theorem ib_60 : (Int8.ofInt (60)).toInt32 = 60 := by decide +kernel
theorem is_183 : (Int16.ofInt (183)).toInt32 = 183 := by decide +kernel
theorem is_182 : (Int16.ofInt (182)).toInt32 = 182 := by decide +kernel
theorem ib_100 : (Int8.ofInt (100)).toInt32 = 100 := by decide +kernel
theorem is_400 : (Int16.ofInt (400)).toInt32 = 400 := by decide +kernel
theorem ib_63 : (Int8.ofInt (63)).toInt32 = 63 := by decide +kernel
theorem ib_10 : (Int8.ofInt (10)).toInt32 = 10 := by decide +kernel
theorem is_1000 : (Int16.ofInt (1000)).toInt32 = 1000 := by decide +kernel
theorem is_300 : (Int16.ofInt (300)).toInt32 = 300 := by decide +kernel
theorem ib_99 : (Int8.ofInt (99)).toInt32 = 99 := by decide +kernel
theorem is_162 : (Int16.ofInt (162)).toInt32 = 162 := by decide +kernel
theorem ib_8 : (Int8.ofInt (8)).toInt32 = 8 := by decide +kernel
theorem ib_6 : (Int8.ofInt (6)).toInt32 = 6 := by decide +kernel
theorem ic_5 : Int32.ofInt (5) = 5 := by decide +kernel
theorem ib_11 : (Int8.ofInt (11)).toInt32 = 11 := by decide +kernel
theorem ib_m99 : (Int8.ofInt (-99)).toInt32 = -99 := by decide +kernel
theorem is_512 : (Int16.ofInt (512)).toInt32 = 512 := by decide +kernel
theorem hc_0 : tkCl[0]? = some (clC 0) ∧ (clC 0).1 = RX0 ∧ 0 < 100 := ⟨rfl, rfl, by decide⟩
theorem cf_0 : CF 0 := ⟨rfl, fun w hw => List.mem_filter.mpr ⟨(by decide +kernel : ∀ w ∈ wsX00, w ∈ lw_tbl) w hw, (by decide +kernel : ∀ w ∈ wsX00, goodWord w = true) w hw⟩, ⟨tyX0, tyX0_ok⟩, nmX0⟩
theorem hc_1 : tkCl[1]? = some (clC 1) ∧ (clC 1).1 = RX1 ∧ 1 < 100 := ⟨rfl, rfl, by decide⟩
theorem cf_1 : CF 1 := ⟨rfl, fun w hw => List.mem_filter.mpr ⟨(by decide +kernel : ∀ w ∈ wsX10, w ∈ lw_tbl) w hw, (by decide +kernel : ∀ w ∈ wsX10, goodWord w = true) w hw⟩, ⟨tyX1, tyX1_ok⟩, nmX1⟩
theorem hc_2 : tkCl[2]? = some (clC 2) ∧ (clC 2).1 = RX2 ∧ 2 < 100 := ⟨rfl, rfl, by decide⟩
theorem cf_2 : CF 2 := ⟨rfl, fun w hw => List.mem_filter.mpr ⟨(by decide +kernel : ∀ w ∈ wsX20, w ∈ lw_tbl) w hw, (by decide +kernel : ∀ w ∈ wsX20, goodWord w = true) w hw⟩, ⟨tyX2, tyX2_ok⟩, nmX2⟩
theorem hc_3 : tkCl[3]? = some (clC 3) ∧ (clC 3).1 = RX3 ∧ 3 < 100 := ⟨rfl, rfl, by decide⟩
theorem cf_3 : CF 3 := ⟨rfl, fun w hw => List.mem_filter.mpr ⟨(by decide +kernel : ∀ w ∈ wsX30, w ∈ lw_tbl) w hw, (by decide +kernel : ∀ w ∈ wsX30, goodWord w = true) w hw⟩, ⟨tyX3, tyX3_ok⟩, nmX3⟩
theorem hc_4 : tkCl[4]? = some (clC 4) ∧ (clC 4).1 = RX4 ∧ 4 < 100 := ⟨rfl, rfl, by decide⟩
theorem cf_4 : CF 4 := ⟨rfl, fun w hw => List.mem_filter.mpr ⟨(by decide +kernel : ∀ w ∈ wsX40, w ∈ lw_tbl) w hw, (by decide +kernel : ∀ w ∈ wsX40, goodWord w = true) w hw⟩, ⟨tyX4, tyX4_ok⟩, nmX4⟩
theorem hc_5 : tkCl[5]? = some (clC 5) ∧ (clC 5).1 = RX5 ∧ 5 < 100 := ⟨rfl, rfl, by decide⟩
theorem cf_5 : CF 5 := ⟨rfl, fun w hw => List.mem_filter.mpr ⟨(by decide +kernel : ∀ w ∈ wsX50, w ∈ lw_tbl) w hw, (by decide +kernel : ∀ w ∈ wsX50, goodWord w = true) w hw⟩, ⟨tyX5, tyX5_ok⟩, nmX5⟩
theorem hc_6 : tkCl[6]? = some (clC 6) ∧ (clC 6).1 = RX6 ∧ 6 < 100 := ⟨rfl, rfl, by decide⟩
theorem cf_6 : CF 6 := ⟨rfl, fun w hw => List.mem_filter.mpr ⟨(by decide +kernel : ∀ w ∈ wsX60, w ∈ lw_tbl) w hw, (by decide +kernel : ∀ w ∈ wsX60, goodWord w = true) w hw⟩, ⟨tyX6, tyX6_ok⟩, nmX6⟩
theorem hc_7 : tkCl[7]? = some (clC 7) ∧ (clC 7).1 = RX7 ∧ 7 < 100 := ⟨rfl, rfl, by decide⟩
theorem cf_7 : CF 7 := ⟨rfl, fun w hw => List.mem_filter.mpr ⟨(by decide +kernel : ∀ w ∈ wsX70, w ∈ lw_tbl) w hw, (by decide +kernel : ∀ w ∈ wsX70, goodWord w = true) w hw⟩, ⟨tyX7, tyX7_ok⟩, nmX7⟩
theorem hc_8 : tkCl[8]? = some (clC 8) ∧ (clC 8).1 = RX8 ∧ 8 < 100 := ⟨rfl, rfl, by decide⟩
theorem cf_8 : CF 8 := ⟨rfl, fun w hw => List.mem_filter.mpr ⟨(by decide +kernel : ∀ w ∈ wsX80, w ∈ lw_tbl) w hw, (by decide +kernel : ∀ w ∈ wsX80, goodWord w = true) w hw⟩, ⟨tyX8, tyX8_ok⟩, nmX8⟩
theorem hc_9 : tkCl[9]? = some (clC 9) ∧ (clC 9).1 = RX9 ∧ 9 < 100 := ⟨rfl, rfl, by decide⟩
theorem cf_9 : CF 9 := ⟨rfl, fun w hw => List.mem_filter.mpr ⟨(by decide +kernel : ∀ w ∈ wsX90, w ∈ lw_tbl) w hw, (by decide +kernel : ∀ w ∈ wsX90, goodWord w = true) w hw⟩, ⟨tyX9, tyX9_ok⟩, nmX9⟩
theorem hc_10 : tkCl[10]? = some (clC 10) ∧ (clC 10).1 = RX10 ∧ 10 < 100 := ⟨rfl, rfl, by decide⟩
theorem cf_10 : CF 10 := ⟨rfl, fun w hw => List.mem_filter.mpr ⟨(by decide +kernel : ∀ w ∈ wsX100, w ∈ lw_tbl) w hw, (by decide +kernel : ∀ w ∈ wsX100, goodWord w = true) w hw⟩, ⟨tyX10, tyX10_ok⟩, nmX10⟩
theorem hc_11 : tkCl[11]? = some (clC 11) ∧ (clC 11).1 = RX11 ∧ 11 < 100 := ⟨rfl, rfl, by decide⟩
theorem cf_11 : CF 11 := ⟨rfl, fun w hw => List.mem_filter.mpr ⟨(by decide +kernel : ∀ w ∈ wsX110, w ∈ lw_tbl) w hw, (by decide +kernel : ∀ w ∈ wsX110, goodWord w = true) w hw⟩, ⟨tyX11, tyX11_ok⟩, nmX11⟩
theorem fl_X0_15 : FL RX0 15 0 1 0 := ⟨cf_0, by decide, by decide, wd_286, by decide +kernel⟩
theorem fl_X0_9 : FL RX0 9 0 0 3 := ⟨cf_0, by decide, by decide, wd_283, by decide +kernel⟩
theorem fl_X0_23 : FL RX0 23 8 10 0 := ⟨cf_8, by decide, by decide, wd_218, by decide +kernel⟩
theorem fl_X0_28 : FL RX0 28 0 2 2 := ⟨cf_0, by decide, by decide, wd_290, by decide +kernel⟩
theorem fl_X0_36 : FL RX0 36 8 8 3 := ⟨cf_8, by decide, by decide, wd_211, by decide +kernel⟩
theorem fl_X0_39 : FL RX0 39 0 3 2 := ⟨cf_0, by decide, by decide, wd_293, by decide +kernel⟩
theorem fl_X0_45 : FL RX0 45 8 9 3 := ⟨cf_8, by decide, by decide, wd_215, by decide +kernel⟩
theorem fl_X1_26 : FL RX1 26 1 4 0 := ⟨cf_1, by decide, by decide, wd_394, by decide +kernel⟩
theorem fl_X1_9 : FL RX1 9 1 0 0 := ⟨cf_1, by decide, by decide, wd_390, by decide +kernel⟩
theorem fl_X1_15 : FL RX1 15 1 1 3 := ⟨cf_1, by decide, by decide, wd_391, by decide +kernel⟩
theorem fl_X1_29 : FL RX1 29 0 0 3 := ⟨cf_0, by decide, by decide, wd_284, by decide +kernel⟩
theorem fl_X1_19 : FL RX1 19 1 2 3 := ⟨cf_1, by decide, by decide, wd_392, by decide +kernel⟩
theorem fl_X1_22 : FL RX1 22 1 3 3 := ⟨cf_1, by decide, by decide, wd_393, by decide +kernel⟩
theorem fl_X1_40 : FL RX1 40 0 2 2 := ⟨cf_0, by decide, by decide, wd_289, by decide +kernel⟩
theorem fl_X1_44 : FL RX1 44 0 3 2 := ⟨cf_0, by decide, by decide, wd_292, by decide +kernel⟩
theorem fl_X1_53 : FL RX1 53 0 1 0 := ⟨cf_0, by decide, by decide, wd_287, by decide +kernel⟩
theorem fl_X2_18 : FL RX2 18 2 1 0 := ⟨cf_2, by decide, by decide, wd_268, by decide +kernel⟩
theorem fl_X2_15 : FL RX2 15 2 0 3 := ⟨cf_2, by decide, by decide, wd_267, by decide +kernel⟩
theorem fl_X4_14 : FL RX4 14 4 0 3 := ⟨cf_4, by decide, by decide, wd_408, by decide +kernel⟩
theorem fl_X4_43 : FL RX4 43 1 4 0 := ⟨cf_1, by decide, by decide, wd_395, by decide +kernel⟩
theorem fl_X4_20 : FL RX4 20 4 1 3 := ⟨cf_4, by decide, by decide, wd_410, by decide +kernel⟩
theorem fl_X4_23 : FL RX4 23 4 2 3 := ⟨cf_4, by decide, by decide, wd_412, by decide +kernel⟩
theorem fl_X4_26 : FL RX4 26 4 3 3 := ⟨cf_4, by decide, by decide, wd_414, by decide +kernel⟩
theorem fl_X5_30 : FL RX5 30 5 6 0 := ⟨cf_5, by decide, by decide, wd_80, by decide +kernel⟩
theorem fl_X5_9 : FL RX5 9 5 0 3 := ⟨cf_5, by decide, by decide, wd_68, by decide +kernel⟩
theorem fl_X5_15 : FL RX5 15 5 1 3 := ⟨cf_5, by decide, by decide, wd_70, by decide +kernel⟩
theorem fl_X5_18 : FL RX5 18 5 2 3 := ⟨cf_5, by decide, by decide, wd_72, by decide +kernel⟩
theorem fl_X5_21 : FL RX5 21 5 3 3 := ⟨cf_5, by decide, by decide, wd_74, by decide +kernel⟩
theorem fl_X5_24 : FL RX5 24 5 4 3 := ⟨cf_5, by decide, by decide, wd_76, by decide +kernel⟩
theorem fl_X5_27 : FL RX5 27 5 5 3 := ⟨cf_5, by decide, by decide, wd_78, by decide +kernel⟩
theorem fl_X6_40 : FL RX6 40 6 3 0 := ⟨cf_6, by decide, by decide, wd_349, by decide +kernel⟩
theorem fl_X6_44 : FL RX6 44 6 9 0 := ⟨cf_6, by decide, by decide, wd_356, by decide +kernel⟩
theorem fl_X6_47 : FL RX6 47 6 7 0 := ⟨cf_6, by decide, by decide, wd_353, by decide +kernel⟩
theorem fl_X6_21 : FL RX6 21 6 5 3 := ⟨cf_6, by decide, by decide, wd_351, by decide +kernel⟩
theorem fl_X6_28 : FL RX6 28 6 8 3 := ⟨cf_6, by decide, by decide, wd_355, by decide +kernel⟩
theorem fl_X6_13 : FL RX6 13 6 2 3 := ⟨cf_6, by decide, by decide, wd_348, by decide +kernel⟩
theorem fl_X6_71 : FL RX6 71 3 1 0 := ⟨cf_3, by decide, by decide, wd_319, by decide +kernel⟩
theorem fl_X6_74 : FL RX6 74 3 2 0 := ⟨cf_3, by decide, by decide, wd_320, by decide +kernel⟩
theorem fl_X6_77 : FL RX6 77 3 3 0 := ⟨cf_3, by decide, by decide, wd_321, by decide +kernel⟩
theorem fl_X6_80 : FL RX6 80 3 5 0 := ⟨cf_3, by decide, by decide, wd_323, by decide +kernel⟩
theorem fl_X6_83 : FL RX6 83 3 7 2 := ⟨cf_3, by decide, by decide, wd_325, by decide +kernel⟩
theorem fl_X6_87 : FL RX6 87 3 8 2 := ⟨cf_3, by decide, by decide, wd_326, by decide +kernel⟩
theorem fl_X6_31 : FL RX6 31 6 0 3 := ⟨cf_6, by decide, by decide, wd_346, by decide +kernel⟩
theorem fl_X6_65 : FL RX6 65 8 12 1 := ⟨cf_8, by decide, by decide, wd_230, by decide +kernel⟩
theorem fl_X8_52 : FL RX8 52 8 10 0 := ⟨cf_8, by decide, by decide, wd_219, by decide +kernel⟩
theorem fl_X8_18 : FL RX8 18 8 3 3 := ⟨cf_8, by decide, by decide, wd_190, by decide +kernel⟩
theorem fl_X8_21 : FL RX8 21 8 4 3 := ⟨cf_8, by decide, by decide, wd_194, by decide +kernel⟩
theorem fl_X8_24 : FL RX8 24 8 5 3 := ⟨cf_8, by decide, by decide, wd_198, by decide +kernel⟩
theorem fl_X8_27 : FL RX8 27 8 6 3 := ⟨cf_8, by decide, by decide, wd_202, by decide +kernel⟩
theorem fl_X8_31 : FL RX8 31 8 7 3 := ⟨cf_8, by decide, by decide, wd_206, by decide +kernel⟩
theorem fl_X8_34 : FL RX8 34 8 8 3 := ⟨cf_8, by decide, by decide, wd_210, by decide +kernel⟩
theorem fl_X8_38 : FL RX8 38 8 9 3 := ⟨cf_8, by decide, by decide, wd_214, by decide +kernel⟩
theorem fl_X8_58 : FL RX8 58 8 12 1 := ⟨cf_8, by decide, by decide, wd_227, by decide +kernel⟩
theorem fl_X8_48 : FL RX8 48 8 2 0 := ⟨cf_8, by decide, by decide, wd_189, by decide +kernel⟩
theorem fl_X8_9 : FL RX8 9 8 0 3 := ⟨cf_8, by decide, by decide, wd_186, by decide +kernel⟩
theorem fl_X8_15 : FL RX8 15 8 1 3 := ⟨cf_8, by decide, by decide, wd_187, by decide +kernel⟩
theorem fl_X6_102 : FL RX6 102 8 10 0 := ⟨cf_8, by decide, by decide, wd_221, by decide +kernel⟩
theorem fl_X6_126 : FL RX6 126 8 7 3 := ⟨cf_8, by decide, by decide, wd_208, by decide +kernel⟩
theorem fl_X6_130 : FL RX6 130 7 5 0 := ⟨cf_7, by decide, by decide, wd_142, by decide +kernel⟩
theorem fl_X6_138 : FL RX6 138 8 3 3 := ⟨cf_8, by decide, by decide, wd_192, by decide +kernel⟩
theorem fl_X6_135 : FL RX6 135 7 0 3 := ⟨cf_7, by decide, by decide, wd_132, by decide +kernel⟩
theorem fl_X6_17 : FL RX6 17 6 4 3 := ⟨cf_6, by decide, by decide, wd_350, by decide +kernel⟩
theorem fl_X6_178 : FL RX6 178 7 8 1 := ⟨cf_7, by decide, by decide, wd_144, by decide +kernel⟩
theorem fl_X6_181 : FL RX6 181 7 9 0 := ⟨cf_7, by decide, by decide, wd_145, by decide +kernel⟩
theorem fl_X6_184 : FL RX6 184 7 10 0 := ⟨cf_7, by decide, by decide, wd_146, by decide +kernel⟩
theorem fl_X6_187 : FL RX6 187 7 11 0 := ⟨cf_7, by decide, by decide, wd_147, by decide +kernel⟩
theorem fl_X6_157 : FL RX6 157 8 4 3 := ⟨cf_8, by decide, by decide, wd_196, by decide +kernel⟩
theorem fl_X6_163 : FL RX6 163 7 1 3 := ⟨cf_7, by decide, by decide, wd_134, by decide +kernel⟩
theorem fl_X6_160 : FL RX6 160 8 5 3 := ⟨cf_8, by decide, by decide, wd_200, by decide +kernel⟩
theorem fl_X8_55 : FL RX8 55 8 11 0 := ⟨cf_8, by decide, by decide, wd_223, by decide +kernel⟩
theorem fl_X7_18 : FL RX7 18 7 2 3 := ⟨cf_7, by decide, by decide, wd_135, by decide +kernel⟩
theorem fl_X7_28 : FL RX7 28 7 5 0 := ⟨cf_7, by decide, by decide, wd_141, by decide +kernel⟩
theorem fl_X6_25 : FL RX6 25 6 6 3 := ⟨cf_6, by decide, by decide, wd_352, by decide +kernel⟩
theorem fl_X6_35 : FL RX6 35 6 1 3 := ⟨cf_6, by decide, by decide, wd_347, by decide +kernel⟩
theorem fl_X6_217 : FL RX6 217 3 4 0 := ⟨cf_3, by decide, by decide, wd_322, by decide +kernel⟩
theorem fl_X6_220 : FL RX6 220 3 6 1 := ⟨cf_3, by decide, by decide, wd_324, by decide +kernel⟩
theorem fl_X6_223 : FL RX6 223 3 0 3 := ⟨cf_3, by decide, by decide, wd_318, by decide +kernel⟩
theorem fl_X6_224 : FL RX6 224 7 2 3 := ⟨cf_7, by decide, by decide, wd_136, by decide +kernel⟩
theorem fl_X6_229 : FL RX6 229 8 8 3 := ⟨cf_8, by decide, by decide, wd_212, by decide +kernel⟩
theorem fl_X6_231 : FL RX6 231 8 9 3 := ⟨cf_8, by decide, by decide, wd_216, by decide +kernel⟩
theorem fl_X6_227 : FL RX6 227 8 6 3 := ⟨cf_8, by decide, by decide, wd_204, by decide +kernel⟩
theorem fl_X6_237 : FL RX6 237 7 6 0 := ⟨cf_7, by decide, by decide, wd_143, by decide +kernel⟩
theorem fl_X6_240 : FL RX6 240 7 4 3 := ⟨cf_7, by decide, by decide, wd_140, by decide +kernel⟩
theorem fl_X6_243 : FL RX6 243 7 3 3 := ⟨cf_7, by decide, by decide, wd_138, by decide +kernel⟩
theorem fl_X8_68 : FL RX8 68 4 8 0 := ⟨cf_4, by decide, by decide, wd_424, by decide +kernel⟩
theorem fl_X8_71 : FL RX8 71 4 9 0 := ⟨cf_4, by decide, by decide, wd_425, by decide +kernel⟩
theorem fl_X8_72 : FL RX8 72 4 5 3 := ⟨cf_4, by decide, by decide, wd_419, by decide +kernel⟩
theorem fl_X8_73 : FL RX8 73 4 6 3 := ⟨cf_4, by decide, by decide, wd_421, by decide +kernel⟩
theorem fl_X8_74 : FL RX8 74 4 7 3 := ⟨cf_4, by decide, by decide, wd_423, by decide +kernel⟩
theorem fl_X9_21 : FL RX9 21 9 2 0 := ⟨cf_9, by decide, by decide, wd_108, by decide +kernel⟩
theorem fl_X9_25 : FL RX9 25 9 3 0 := ⟨cf_9, by decide, by decide, wd_109, by decide +kernel⟩
theorem fl_X9_28 : FL RX9 28 9 5 0 := ⟨cf_9, by decide, by decide, wd_111, by decide +kernel⟩
theorem fl_X9_9 : FL RX9 9 9 0 3 := ⟨cf_9, by decide, by decide, wd_106, by decide +kernel⟩
theorem fl_X9_15 : FL RX9 15 9 1 3 := ⟨cf_9, by decide, by decide, wd_107, by decide +kernel⟩
theorem fl_X9_59 : FL RX9 59 8 10 0 := ⟨cf_8, by decide, by decide, wd_220, by decide +kernel⟩
theorem fl_X9_62 : FL RX9 62 8 7 3 := ⟨cf_8, by decide, by decide, wd_207, by decide +kernel⟩
theorem fl_X9_66 : FL RX9 66 8 3 3 := ⟨cf_8, by decide, by decide, wd_191, by decide +kernel⟩
theorem fl_X9_69 : FL RX9 69 8 6 3 := ⟨cf_8, by decide, by decide, wd_203, by decide +kernel⟩
theorem fl_X9_72 : FL RX9 72 8 4 3 := ⟨cf_8, by decide, by decide, wd_195, by decide +kernel⟩
theorem fl_X9_75 : FL RX9 75 8 5 3 := ⟨cf_8, by decide, by decide, wd_199, by decide +kernel⟩
theorem fl_X9_18 : FL RX9 18 9 4 3 := ⟨cf_9, by decide, by decide, wd_110, by decide +kernel⟩
theorem fl_X9_37 : FL RX9 37 8 12 1 := ⟨cf_8, by decide, by decide, wd_228, by decide +kernel⟩
theorem fl_X10_12 : FL RX10 12 10 1 3 := ⟨cf_10, by decide, by decide, wd_454, by decide +kernel⟩
theorem fl_X10_54 : FL RX10 54 10 2 3 := ⟨cf_10, by decide, by decide, wd_456, by decide +kernel⟩
theorem fl_X10_21 : FL RX10 21 10 3 3 := ⟨cf_10, by decide, by decide, wd_458, by decide +kernel⟩
theorem fl_X10_25 : FL RX10 25 10 4 3 := ⟨cf_10, by decide, by decide, wd_460, by decide +kernel⟩
theorem fl_X10_29 : FL RX10 29 10 5 3 := ⟨cf_10, by decide, by decide, wd_462, by decide +kernel⟩
theorem fl_X10_34 : FL RX10 34 10 6 3 := ⟨cf_10, by decide, by decide, wd_463, by decide +kernel⟩
theorem fl_X10_73 : FL RX10 73 10 10 0 := ⟨cf_10, by decide, by decide, wd_467, by decide +kernel⟩
theorem fl_X10_77 : FL RX10 77 10 11 0 := ⟨cf_10, by decide, by decide, wd_469, by decide +kernel⟩
theorem fl_X10_96 : FL RX10 96 4 3 3 := ⟨cf_4, by decide, by decide, wd_415, by decide +kernel⟩
theorem fl_X10_106 : FL RX10 106 1 4 0 := ⟨cf_1, by decide, by decide, wd_396, by decide +kernel⟩
theorem fl_X10_41 : FL RX10 41 10 7 3 := ⟨cf_10, by decide, by decide, wd_464, by decide +kernel⟩
theorem fl_X10_113 : FL RX10 113 0 2 2 := ⟨cf_0, by decide, by decide, wd_291, by decide +kernel⟩
theorem fl_X10_117 : FL RX10 117 0 3 2 := ⟨cf_0, by decide, by decide, wd_294, by decide +kernel⟩
theorem fl_X10_139 : FL RX10 139 10 8 0 := ⟨cf_10, by decide, by decide, wd_465, by decide +kernel⟩
theorem fl_X10_142 : FL RX10 142 10 9 1 := ⟨cf_10, by decide, by decide, wd_466, by decide +kernel⟩
theorem fl_X10_187 : FL RX10 187 4 10 0 := ⟨cf_4, by decide, by decide, wd_426, by decide +kernel⟩
theorem fl_X10_194 : FL RX10 194 4 4 3 := ⟨cf_4, by decide, by decide, wd_417, by decide +kernel⟩
theorem fl_X10_124 : FL RX10 124 4 0 3 := ⟨cf_4, by decide, by decide, wd_409, by decide +kernel⟩
theorem fl_X10_200 : FL RX10 200 0 1 0 := ⟨cf_0, by decide, by decide, wd_288, by decide +kernel⟩
theorem fl_X10_271 : FL RX10 271 6 7 0 := ⟨cf_6, by decide, by decide, wd_354, by decide +kernel⟩
theorem fl_X10_265 : FL RX10 265 0 0 3 := ⟨cf_0, by decide, by decide, wd_285, by decide +kernel⟩
theorem fl_X10_45 : FL RX10 45 10 0 3 := ⟨cf_10, by decide, by decide, wd_453, by decide +kernel⟩
theorem fl_X10_214 : FL RX10 214 5 1 3 := ⟨cf_5, by decide, by decide, wd_71, by decide +kernel⟩
theorem fl_X10_217 : FL RX10 217 5 2 3 := ⟨cf_5, by decide, by decide, wd_73, by decide +kernel⟩
theorem fl_X10_223 : FL RX10 223 5 3 3 := ⟨cf_5, by decide, by decide, wd_75, by decide +kernel⟩
theorem fl_X10_209 : FL RX10 209 5 0 3 := ⟨cf_5, by decide, by decide, wd_69, by decide +kernel⟩
theorem fl_X10_229 : FL RX10 229 5 5 3 := ⟨cf_5, by decide, by decide, wd_79, by decide +kernel⟩
theorem fl_X10_226 : FL RX10 226 5 4 3 := ⟨cf_5, by decide, by decide, wd_77, by decide +kernel⟩
theorem fl_X10_127 : FL RX10 127 4 1 3 := ⟨cf_4, by decide, by decide, wd_411, by decide +kernel⟩
theorem fl_X10_130 : FL RX10 130 4 2 3 := ⟨cf_4, by decide, by decide, wd_413, by decide +kernel⟩
theorem fl_X10_147 : FL RX10 147 8 12 1 := ⟨cf_8, by decide, by decide, wd_229, by decide +kernel⟩
theorem fl_X10_136 : FL RX10 136 8 11 0 := ⟨cf_8, by decide, by decide, wd_224, by decide +kernel⟩
theorem fl_X11_39 : FL RX11 39 11 2 3 := ⟨cf_11, by decide, by decide, wd_498, by decide +kernel⟩
theorem fl_X11_235 : FL RX11 235 10 11 0 := ⟨cf_10, by decide, by decide, wd_470, by decide +kernel⟩
theorem fl_X11_46 : FL RX11 46 10 1 3 := ⟨cf_10, by decide, by decide, wd_455, by decide +kernel⟩
theorem fl_X11_56 : FL RX11 56 8 12 1 := ⟨cf_8, by decide, by decide, wd_226, by decide +kernel⟩
theorem fl_X11_248 : FL RX11 248 8 10 0 := ⟨cf_8, by decide, by decide, wd_222, by decide +kernel⟩
theorem fl_X11_43 : FL RX11 43 11 3 3 := ⟨cf_11, by decide, by decide, wd_499, by decide +kernel⟩
theorem fl_X11_287 : FL RX11 287 11 6 0 := ⟨cf_11, by decide, by decide, wd_502, by decide +kernel⟩
theorem fl_X11_29 : FL RX11 29 11 5 3 := ⟨cf_11, by decide, by decide, wd_501, by decide +kernel⟩
theorem fl_X11_115 : FL RX11 115 10 4 3 := ⟨cf_10, by decide, by decide, wd_461, by decide +kernel⟩
theorem fl_X11_160 : FL RX11 160 10 2 3 := ⟨cf_10, by decide, by decide, wd_457, by decide +kernel⟩
theorem fl_X11_164 : FL RX11 164 6 9 0 := ⟨cf_6, by decide, by decide, wd_357, by decide +kernel⟩
theorem fl_X11_25 : FL RX11 25 11 4 3 := ⟨cf_11, by decide, by decide, wd_500, by decide +kernel⟩
theorem fl_X11_209 : FL RX11 209 10 3 3 := ⟨cf_10, by decide, by decide, wd_459, by decide +kernel⟩
theorem fl_X11_213 : FL RX11 213 2 1 0 := ⟨cf_2, by decide, by decide, wd_269, by decide +kernel⟩
theorem fl_X11_50 : FL RX11 50 8 2 0 := ⟨cf_8, by decide, by decide, wd_188, by decide +kernel⟩
theorem ml_X0_19 : MLSN RX0 19 yX11_isSlot cX11_isSlot 1 (some .boolean) 1 := ⟨⟨List.mem_of_getElem? (i := 9) rfl, wd_614, wd_33, wd_615⟩, by decide +kernel, by decide +kernel, by decide +kernel⟩
theorem ml_X0_32 : MLS RX0 32 yX8_lowBit cX8_lowBit 1 (some .long) 1 := ⟨⟨wd_929, wd_843, wd_38, wd_844⟩, by decide +kernel, by decide +kernel, by decide +kernel⟩
theorem ml_X0_42 : MLS RX0 42 yX8_highBit cX8_highBit 1 (some .long) 1 := ⟨⟨wd_930, wd_846, wd_38, wd_847⟩, by decide +kernel, by decide +kernel, by decide +kernel⟩
theorem ml_X2_22 : MLS RX2 22 yJ7_fill_53178 cJ7_fill_53178 4 none 2 := ⟨⟨wd_1097, wd_451, wd_45, wd_452⟩, by decide +kernel, by decide +kernel, by decide +kernel⟩
theorem ml_X2_35 : MLV RX2 35 yX2_multiply cX2_multiply 5 none 2 := ⟨⟨wd_945, wd_947, wd_23, wd_39, wd_948⟩, by decide +kernel, by decide +kernel, by decide +kernel⟩
theorem ml_X6_50 : MLS RX6 50 yJ7_fill_d0a16 cJ7_fill_d0a16 5 none 2 := ⟨⟨wd_1090, wd_1091, wd_45, wd_1092⟩, by decide +kernel, by decide +kernel, by decide +kernel⟩
theorem ml_X6_56 : MLS RX6 56 yJ7_fill_53178 cJ7_fill_53178 4 none 2 := ⟨⟨wd_800, wd_451, wd_45, wd_452⟩, by decide +kernel, by decide +kernel, by decide +kernel⟩
theorem ml_X6_90 : MLV RX6 90 yX8_addToken cX8_addToken 9 (some .int) 6 := ⟨⟨wd_887, wd_888, wd_889, wd_38, wd_890⟩, by decide +kernel, by decide +kernel, by decide +kernel⟩
theorem ml_X6_94 : MLV RX6 94 yX6_push cX6_push 3 (some (.object "Tellcourt$Frame")) 1 := ⟨⟨wd_837, wd_839, wd_12, wd_41, wd_840⟩, by decide +kernel, by decide +kernel, by decide +kernel⟩
theorem ml_X8_79 : MLV RX8 79 yX8_form cX8_form 4 (some .int) 1 := ⟨⟨wd_817, wd_806, wd_807, wd_38, wd_808⟩, by decide +kernel, by decide +kernel, by decide +kernel⟩
theorem ml_X8_83 : MLV RX8 83 yX8_rootOf cX8_rootOf 3 (some .int) 1 := ⟨⟨wd_869, wd_871, wd_15, wd_38, wd_872⟩, by decide +kernel, by decide +kernel, by decide +kernel⟩
theorem ml_X8_95 : MLV RX8 95 yX8_join cX8_join 5 (some .int) 3 := ⟨⟨wd_875, wd_877, wd_16, wd_38, wd_878⟩, by decide +kernel, by decide +kernel, by decide +kernel⟩
theorem ml_X6_98 : MLV RX6 98 yX8_unite cX8_unite 9 (some .int) 2 := ⟨⟨wd_865, wd_866, wd_867, wd_38, wd_868⟩, by decide +kernel, by decide +kernel, by decide +kernel⟩
theorem ml_X6_105 : MLV RX6 105 yX8_isTouched cX8_isTouched 3 (some .boolean) 2 := ⟨⟨wd_879, wd_880, wd_881, wd_38, wd_882⟩, by decide +kernel, by decide +kernel, by decide +kernel⟩
theorem ml_X6_109 : MLS RX6 109 yX8_lowBit cX8_lowBit 1 (some .long) 1 := ⟨⟨wd_842, wd_843, wd_38, wd_844⟩, by decide +kernel, by decide +kernel, by decide +kernel⟩
theorem ml_X6_113 : MLS RX6 113 yX8_highBit cX8_highBit 1 (some .long) 1 := ⟨⟨wd_845, wd_846, wd_38, wd_847⟩, by decide +kernel, by decide +kernel, by decide +kernel⟩
theorem ml_X8_41 : MLS RX8 41 yX8_lowBit cX8_lowBit 1 (some .long) 1 := ⟨⟨wd_855, wd_843, wd_38, wd_844⟩, by decide +kernel, by decide +kernel, by decide +kernel⟩
theorem ml_X8_45 : MLS RX8 45 yX8_highBit cX8_highBit 1 (some .long) 1 := ⟨⟨wd_856, wd_846, wd_38, wd_847⟩, by decide +kernel, by decide +kernel, by decide +kernel⟩
theorem ml_X6_233 : MLS RX6 233 yX8_isIn cX8_isIn 5 (some .boolean) 3 := ⟨⟨wd_852, wd_853, wd_38, wd_854⟩, by decide +kernel, by decide +kernel, by decide +kernel⟩
theorem ml_X6_193 : MLS RX6 193 yX6_historyRow cX6_historyRow 3 (some .int) 3 := ⟨⟨wd_765, wd_766, wd_41, wd_767⟩, by decide +kernel, by decide +kernel, by decide +kernel⟩
theorem ml_X6_197 : MLS RX6 197 yX6_historyBit cX6_historyBit 1 (some .long) 1 := ⟨⟨wd_768, wd_769, wd_41, wd_770⟩, by decide +kernel, by decide +kernel, by decide +kernel⟩
theorem ml_X6_166 : MLSN RX6 166 yX11_isSlot cX11_isSlot 1 (some .boolean) 1 := ⟨⟨List.mem_of_getElem? (i := 8) rfl, wd_614, wd_33, wd_615⟩, by decide +kernel, by decide +kernel, by decide +kernel⟩
theorem ml_X8_75 : MLV RX8 75 yX8_lowest cX8_lowest 7 (some .int) 3 := ⟨⟨wd_813, wd_814, wd_815, wd_38, wd_816⟩, by decide +kernel, by decide +kernel, by decide +kernel⟩
theorem ml_X6_170 : MLS RX6 170 yX6_resolve cX6_resolve 2 (some .int) 2 := ⟨⟨wd_802, wd_803, wd_41, wd_804⟩, by decide +kernel, by decide +kernel, by decide +kernel⟩
theorem ml_X6_190 : MLV RX6 190 yX8_isEntailed cX8_isEntailed 7 (some .boolean) 3 := ⟨⟨wd_809, wd_810, wd_811, wd_38, wd_812⟩, by decide +kernel, by decide +kernel, by decide +kernel⟩
theorem ml_X6_174 : MLV RX6 174 yX8_form cX8_form 4 (some .int) 1 := ⟨⟨wd_805, wd_806, wd_807, wd_38, wd_808⟩, by decide +kernel, by decide +kernel, by decide +kernel⟩
theorem ml_X6_207 : MLV RX6 207 yX8_mayAct cX8_mayAct 1 (some .boolean) 0 := ⟨⟨wd_822, wd_823, wd_824, wd_38, wd_825⟩, by decide +kernel, by decide +kernel, by decide +kernel⟩
theorem ml_X6_211 : MLV RX6 211 yX7_removesNone cX7_removesNone 1 (some .boolean) 0 := ⟨⟨wd_826, wd_827, wd_828, wd_36, wd_829⟩, by decide +kernel, by decide +kernel, by decide +kernel⟩
theorem ml_X6_214 : MLV RX6 214 yX6_remember cX6_remember 4 none 3 := ⟨⟨wd_830, wd_832, wd_11, wd_41, wd_833⟩, by decide +kernel, by decide +kernel, by decide +kernel⟩
theorem ml_X6_141 : MLV RX6 141 yX6_isPartner cX6_isPartner 5 (some .boolean) 4 := ⟨⟨wd_788, wd_790, wd_7, wd_41, wd_791⟩, by decide +kernel, by decide +kernel, by decide +kernel⟩
theorem ml_X6_145 : MLV RX6 145 yX6_isNew cX6_isNew 4 (some .boolean) 3 := ⟨⟨wd_792, wd_794, wd_8, wd_41, wd_795⟩, by decide +kernel, by decide +kernel, by decide +kernel⟩
theorem ml_X6_149 : MLV RX6 149 yX6_isMatch cX6_isMatch 8 (some .boolean) 3 := ⟨⟨wd_796, wd_798, wd_9, wd_41, wd_799⟩, by decide +kernel, by decide +kernel, by decide +kernel⟩
theorem ml_X6_153 : MLV RX6 153 yX6_fire cX6_fire 8 none 3 := ⟨⟨wd_818, wd_820, wd_10, wd_41, wd_821⟩, by decide +kernel, by decide +kernel, by decide +kernel⟩
theorem ml_X6_246 : MLV RX6 246 yX6_tellEqual cX6_tellEqual 6 none 2 := ⟨⟨wd_861, wd_862, wd_863, wd_41, wd_864⟩, by decide +kernel, by decide +kernel, by decide +kernel⟩
theorem ml_X6_250 : MLV RX6 250 yX6_tellToken cX6_tellToken 10 none 6 := ⟨⟨wd_883, wd_884, wd_885, wd_41, wd_886⟩, by decide +kernel, by decide +kernel, by decide +kernel⟩
theorem ml_X6_116 : MLV RX6 116 yX6_advanceActive cX6_advanceActive 13 none 1 := ⟨⟨wd_784, wd_786, wd_6, wd_41, wd_787⟩, by decide +kernel, by decide +kernel, by decide +kernel⟩
theorem ml_X6_120 : MLV RX6 120 yX6_advanceWaking cX6_advanceWaking 3 none 1 := ⟨⟨wd_848, wd_850, wd_13, wd_41, wd_851⟩, by decide +kernel, by decide +kernel, by decide +kernel⟩
theorem ml_X6_123 : MLV RX6 123 yX6_advanceBodies cX6_advanceBodies 6 none 1 := ⟨⟨wd_857, wd_859, wd_14, wd_41, wd_860⟩, by decide +kernel, by decide +kernel, by decide +kernel⟩
theorem ml_J7_13 : MLS RJ7 13 yJ7_rangeCheck_23922 cJ7_rangeCheck_23922 3 none 3 := ⟨⟨wd_1013, wd_1014, wd_45, wd_1015⟩, by decide +kernel, by decide +kernel, by decide +kernel⟩
theorem ml_X9_47 : MLV RX9 47 yX8_form cX8_form 4 (some .int) 1 := ⟨⟨wd_1020, wd_806, wd_807, wd_38, wd_808⟩, by decide +kernel, by decide +kernel, by decide +kernel⟩
theorem ml_X9_31 : MLS RX9 31 yJ7_fill_fda19 cJ7_fill_fda19 5 none 4 := ⟨⟨wd_1010, wd_1011, wd_45, wd_1012⟩, by decide +kernel, by decide +kernel, by decide +kernel⟩
theorem ml_X9_43 : MLV RX9 43 yX8_countStanding cX8_countStanding 3 (some .int) 0 := ⟨⟨wd_1016, wd_1017, wd_1018, wd_38, wd_1019⟩, by decide +kernel, by decide +kernel, by decide +kernel⟩
theorem ml_X9_51 : MLV RX9 51 yX9_recordTokens cX9_recordTokens 7 none 2 := ⟨⟨wd_1021, wd_1023, wd_28, wd_35, wd_1024⟩, by decide +kernel, by decide +kernel, by decide +kernel⟩
theorem ml_X9_55 : MLV RX9 55 yX9_isSame cX9_isSame 4 (some .boolean) 2 := ⟨⟨wd_1025, wd_1027, wd_29, wd_35, wd_1028⟩, by decide +kernel, by decide +kernel, by decide +kernel⟩
theorem ml_X10_65 : MLV RX10 65 yX8_clear cX8_clear 1 none 0 := ⟨⟨wd_1082, wd_1083, wd_1084, wd_38, wd_1085⟩, by decide +kernel, by decide +kernel, by decide +kernel⟩
theorem ml_X10_68 : MLV RX10 68 yX6_clear cX6_clear 1 none 0 := ⟨⟨wd_1086, wd_1087, wd_1088, wd_41, wd_1089⟩, by decide +kernel, by decide +kernel, by decide +kernel⟩
theorem ml_X10_69 : MLV RX10 69 yX2_clear cX2_clear 1 none 0 := ⟨⟨wd_1093, wd_1094, wd_1095, wd_39, wd_1096⟩, by decide +kernel, by decide +kernel, by decide +kernel⟩
theorem ml_X10_59 : MLS RX10 59 yJ7_fill_53178 cJ7_fill_53178 4 none 2 := ⟨⟨wd_450, wd_451, wd_45, wd_452⟩, by decide +kernel, by decide +kernel, by decide +kernel⟩
theorem ml_X10_70 : MLV RX10 70 yX4_open cX4_open 1 none 0 := ⟨⟨wd_953, wd_954, wd_955, wd_43, wd_956⟩, by decide +kernel, by decide +kernel, by decide +kernel⟩
theorem ml_X10_80 : MLV RX10 80 yX8_copyFrom cX8_copyFrom 2 none 1 := ⟨⟨wd_992, wd_993, wd_994, wd_38, wd_995⟩, by decide +kernel, by decide +kernel, by decide +kernel⟩
theorem ml_X10_84 : MLV RX10 84 yX6_copyFrom cX6_copyFrom 2 none 1 := ⟨⟨wd_996, wd_997, wd_998, wd_41, wd_999⟩, by decide +kernel, by decide +kernel, by decide +kernel⟩
theorem ml_X10_87 : MLV RX10 87 yX2_copyFrom cX2_copyFrom 2 none 1 := ⟨⟨wd_1000, wd_1001, wd_1002, wd_39, wd_1003⟩, by decide +kernel, by decide +kernel, by decide +kernel⟩
theorem ml_X10_100 : MLV RX10 100 yX1_addAll cX1_addAll 3 none 1 := ⟨⟨wd_737, wd_738, wd_739, wd_44, wd_740⟩, by decide +kernel, by decide +kernel, by decide +kernel⟩
theorem ml_X10_109 : MLV RX10 109 yX0_take cX0_take 4 none 3 := ⟨⟨wd_713, wd_714, wd_715, wd_40, wd_716⟩, by decide +kernel, by decide +kernel, by decide +kernel⟩
theorem ml_X10_120 : MLV RX10 120 yX1_add cX1_add 3 none 2 := ⟨⟨wd_717, wd_718, wd_719, wd_44, wd_720⟩, by decide +kernel, by decide +kernel, by decide +kernel⟩
theorem ml_X10_181 : MLV RX10 181 yX6_stop cX6_stop 1 none 0 := ⟨⟨wd_753, wd_754, wd_755, wd_41, wd_756⟩, by decide +kernel, by decide +kernel, by decide +kernel⟩
theorem ml_X10_184 : MLV RX10 184 yX8_restore cX8_restore 4 none 1 := ⟨⟨wd_757, wd_758, wd_759, wd_38, wd_760⟩, by decide +kernel, by decide +kernel, by decide +kernel⟩
theorem ml_X10_190 : MLV RX10 190 yX6_forget cX6_forget 5 none 1 := ⟨⟨wd_761, wd_762, wd_763, wd_41, wd_764⟩, by decide +kernel, by decide +kernel, by decide +kernel⟩
theorem ml_X10_197 : MLV RX10 197 yX1_read cX1_read 3 none 2 := ⟨⟨wd_772, wd_773, wd_774, wd_44, wd_775⟩, by decide +kernel, by decide +kernel, by decide +kernel⟩
theorem ml_X10_268 : MLV RX10 268 yX8_save cX8_save 2 none 1 := ⟨⟨wd_957, wd_958, wd_959, wd_38, wd_960⟩, by decide +kernel, by decide +kernel, by decide +kernel⟩
theorem ml_X10_261 : MLV RX10 261 yX8_makeVariable cX8_makeVariable 1 (some .int) 0 := ⟨⟨wd_935, wd_597, wd_598, wd_38, wd_599⟩, by decide +kernel, by decide +kernel, by decide +kernel⟩
theorem ml_X10_220 : MLV RX10 220 yX0_look cX0_look 2 (some .int) 1 := ⟨⟨wd_904, wd_905, wd_906, wd_40, wd_907⟩, by decide +kernel, by decide +kernel, by decide +kernel⟩
theorem ml_X10_284 : MLV RX10 284 yX8_isEntailed cX8_isEntailed 7 (some .boolean) 3 := ⟨⟨wd_919, wd_810, wd_811, wd_38, wd_812⟩, by decide +kernel, by decide +kernel, by decide +kernel⟩
theorem ml_X10_280 : MLV RX10 280 yX10_isEntailed cX10_isEntailed 2 (some .boolean) 1 := ⟨⟨wd_915, wd_917, wd_19, wd_37, wd_918⟩, by decide +kernel, by decide +kernel, by decide +kernel⟩
theorem ml_X10_272 : MLV RX10 272 yX8_lowest cX8_lowest 7 (some .int) 3 := ⟨⟨wd_924, wd_814, wd_815, wd_38, wd_816⟩, by decide +kernel, by decide +kernel, by decide +kernel⟩
theorem ml_X10_276 : MLV RX10 276 yX0_include cX0_include 3 none 2 := ⟨⟨wd_925, wd_926, wd_927, wd_40, wd_928⟩, by decide +kernel, by decide +kernel, by decide +kernel⟩
theorem ml_X10_203 : MLV RX10 203 yX1_drop cX1_drop 3 none 1 := ⟨⟨wd_899, wd_900, wd_901, wd_44, wd_902⟩, by decide +kernel, by decide +kernel, by decide +kernel⟩
theorem ml_X10_206 : MLV RX10 206 yX8_mayAct cX8_mayAct 1 (some .boolean) 0 := ⟨⟨wd_903, wd_823, wd_824, wd_38, wd_825⟩, by decide +kernel, by decide +kernel, by decide +kernel⟩
theorem ml_X10_232 : MLV RX10 232 yX6_tellEqual cX6_tellEqual 6 none 2 := ⟨⟨wd_909, wd_862, wd_863, wd_41, wd_864⟩, by decide +kernel, by decide +kernel, by decide +kernel⟩
theorem ml_X10_236 : MLV RX10 236 yX6_tellToken cX6_tellToken 10 none 6 := ⟨⟨wd_910, wd_884, wd_885, wd_41, wd_886⟩, by decide +kernel, by decide +kernel, by decide +kernel⟩
theorem ml_X10_240 : MLV RX10 240 yX10_sideOf cX10_sideOf 5 (some .int) 1 := ⟨⟨wd_911, wd_913, wd_18, wd_37, wd_914⟩, by decide +kernel, by decide +kernel, by decide +kernel⟩
theorem ml_X10_243 : MLV RX10 243 yX10_ask cX10_ask 8 none 3 := ⟨⟨wd_920, wd_922, wd_20, wd_37, wd_923⟩, by decide +kernel, by decide +kernel, by decide +kernel⟩
theorem ml_X10_247 : MLV RX10 247 yX10_conceal cX10_conceal 5 none 3 := ⟨⟨wd_931, wd_933, wd_21, wd_37, wd_934⟩, by decide +kernel, by decide +kernel, by decide +kernel⟩
theorem ml_X10_250 : MLV RX10 250 yX10_enter cX10_enter 5 none 4 := ⟨⟨wd_936, wd_938, wd_22, wd_37, wd_939⟩, by decide +kernel, by decide +kernel, by decide +kernel⟩
theorem ml_X10_254 : MLV RX10 254 yX2_isFirst cX2_isFirst 5 (some .boolean) 2 := ⟨⟨wd_940, wd_941, wd_942, wd_39, wd_943⟩, by decide +kernel, by decide +kernel, by decide +kernel⟩
theorem ml_X10_258 : MLV RX10 258 yX10_dare cX10_dare 5 none 3 := ⟨⟨wd_949, wd_951, wd_24, wd_37, wd_952⟩, by decide +kernel, by decide +kernel, by decide +kernel⟩
theorem ml_X10_287 : MLV RX10 287 yX8_dropPassing cX8_dropPassing 2 none 0 := ⟨⟨wd_974, wd_975, wd_976, wd_38, wd_977⟩, by decide +kernel, by decide +kernel, by decide +kernel⟩
theorem ml_X10_133 : MLV RX10 133 yX6_startStep cX6_startStep 1 none 0 := ⟨⟨wd_744, wd_745, wd_746, wd_41, wd_747⟩, by decide +kernel, by decide +kernel, by decide +kernel⟩
theorem ml_X10_154 : MLV RX10 154 yX6_isBusy cX6_isBusy 1 (some .boolean) 0 := ⟨⟨wd_776, wd_777, wd_778, wd_41, wd_779⟩, by decide +kernel, by decide +kernel, by decide +kernel⟩
theorem ml_X10_171 : MLV RX10 171 yX10_goOn cX10_goOn 5 (some .boolean) 1 := ⟨⟨wd_962, wd_964, wd_25, wd_37, wd_965⟩, by decide +kernel, by decide +kernel, by decide +kernel⟩
theorem ml_X10_175 : MLV RX10 175 yX10_assume cX10_assume 4 (some .boolean) 1 := ⟨⟨wd_966, wd_968, wd_26, wd_37, wd_969⟩, by decide +kernel, by decide +kernel, by decide +kernel⟩
theorem ml_X10_178 : MLV RX10 178 yX10_finish cX10_finish 3 none 1 := ⟨⟨wd_970, wd_972, wd_27, wd_37, wd_973⟩, by decide +kernel, by decide +kernel, by decide +kernel⟩
theorem ml_X10_161 : MLV RX10 161 yX9_choose cX9_choose 3 (some .int) 1 := ⟨⟨wd_891, wd_892, wd_893, wd_35, wd_894⟩, by decide +kernel, by decide +kernel, by decide +kernel⟩
theorem ml_X10_167 : MLV RX10 167 yX10_act cX10_act 11 none 2 := ⟨⟨wd_895, wd_897, wd_17, wd_37, wd_898⟩, by decide +kernel, by decide +kernel, by decide +kernel⟩
theorem ml_X10_158 : MLV RX10 158 yX6_advance cX6_advance 2 none 0 := ⟨⟨wd_780, wd_781, wd_782, wd_41, wd_783⟩, by decide +kernel, by decide +kernel, by decide +kernel⟩
theorem ml_X10_150 : MLV RX10 150 yX10_giveUp cX10_giveUp 2 none 1 := ⟨⟨wd_749, wd_751, wd_5, wd_37, wd_752⟩, by decide +kernel, by decide +kernel, by decide +kernel⟩
theorem ml_X11_283 : MLV RX11 283 yX8_countStanding cX8_countStanding 3 (some .int) 0 := ⟨⟨wd_1073, wd_1017, wd_1018, wd_38, wd_1019⟩, by decide +kernel, by decide +kernel, by decide +kernel⟩
theorem ml_X11_286 : MLV RX11 286 yX10_clear cX10_clear 1 none 0 := ⟨⟨wd_1078, wd_1079, wd_1080, wd_37, wd_1081⟩, by decide +kernel, by decide +kernel, by decide +kernel⟩
theorem ml_X11_71 : MLV RX11 71 yX8_makeVariable cX8_makeVariable 1 (some .int) 0 := ⟨⟨wd_596, wd_597, wd_598, wd_38, wd_599⟩, by decide +kernel, by decide +kernel, by decide +kernel⟩
theorem ml_X11_190 : MLV RX11 190 yX10_admit cX10_admit 4 none 3 := ⟨⟨wd_709, wd_710, wd_711, wd_37, wd_712⟩, by decide +kernel, by decide +kernel, by decide +kernel⟩
theorem ml_X11_198 : MLV RX11 198 yX9_restart cX9_restart 1 none 0 := ⟨⟨wd_729, wd_730, wd_731, wd_35, wd_732⟩, by decide +kernel, by decide +kernel, by decide +kernel⟩
theorem ml_X11_201 : MLV RX11 201 yX10_doStep cX10_doStep 7 none 1 := ⟨⟨wd_733, wd_734, wd_735, wd_37, wd_736⟩, by decide +kernel, by decide +kernel, by decide +kernel⟩
theorem ml_X11_185 : MLV RX11 185 yX10_forNext cX10_forNext 1 (some .int) 0 := ⟨⟨wd_704, wd_705, wd_706, wd_37, wd_707⟩, by decide +kernel, by decide +kernel, by decide +kernel⟩
theorem ml_X11_295 : MLV RX11 295 yX2_line cX2_line 7 (some .int) 1 := ⟨⟨wd_1106, wd_1107, wd_1108, wd_39, wd_1109⟩, by decide +kernel, by decide +kernel, by decide +kernel⟩
theorem ml_X11_180 : MLS RX11 180 yX11_isValue cX11_isValue 1 (some .boolean) 1 := ⟨⟨wd_610, wd_611, wd_33, wd_612⟩, by decide +kernel, by decide +kernel, by decide +kernel⟩
theorem ml_X11_327 : MLS RX11 327 yX11_isSlot cX11_isSlot 1 (some .boolean) 1 := ⟨⟨wd_613, wd_614, wd_33, wd_615⟩, by decide +kernel, by decide +kernel, by decide +kernel⟩
theorem mm_X1_34 : MCp RX1 34 := ⟨wd_721, wd_723, wd_722, wd_52⟩
theorem mm_X1_47 : MMmin RX1 47 := ⟨wd_741, wd_742, wd_53, wd_743⟩
theorem mm_X2_28 : MCp RX2 28 := ⟨wd_1004, wd_723, wd_722, wd_52⟩
theorem mm_X6_59 : MCp RX6 59 := ⟨wd_841, wd_723, wd_722, wd_52⟩
theorem mm_X8_92 : MMmax RX8 92 := ⟨wd_874, wd_835, wd_53, wd_836⟩
theorem mm_X8_86 : MMmin RX8 86 := ⟨wd_873, wd_742, wd_53, wd_743⟩
theorem mm_X6_200 : MMmax RX6 200 := ⟨wd_834, wd_835, wd_53, wd_836⟩
theorem mm_X8_62 : MCp RX8 62 := ⟨wd_961, wd_723, wd_722, wd_52⟩
theorem mm_X10_90 : MCp RX10 90 := ⟨wd_1005, wd_723, wd_722, wd_52⟩
