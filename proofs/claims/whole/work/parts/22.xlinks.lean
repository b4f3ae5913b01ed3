/-! printed: words by their places, constants, fields, calls -/
theorem wd_24 : Cond.selects yX11_note.cls yX11_note yX11_note ∈ lwg := tb_0 (List.mem_of_getElem? (i := 24) rfl) rfl
theorem wd_25 : Cond.selects yX11_needRoom.cls yX11_needRoom yX11_needRoom ∈ lwg := tb_0 (List.mem_of_getElem? (i := 25) rfl) rfl
theorem wd_26 : Cond.selects yX11_needNode.cls yX11_needNode yX11_needNode ∈ lwg := tb_0 (List.mem_of_getElem? (i := 26) rfl) rfl
theorem wd_27 : Cond.selects yX11_needDefinition.cls yX11_needDefinition yX11_needDefinition ∈ lwg := tb_0 (List.mem_of_getElem? (i := 27) rfl) rfl
theorem wd_30 : Cond.selects yX11_needRuleTerms.cls yX11_needRuleTerms yX11_needRuleTerms ∈ lwg := tb_0 (List.mem_of_getElem? (i := 30) rfl) rfl
theorem wd_31 : Cond.selects yX11_isRuleTerm.cls yX11_isRuleTerm yX11_isRuleTerm ∈ lwg := tb_0 (List.mem_of_getElem? (i := 31) rfl) rfl
theorem wd_32 : Cond.selects yX11_isNoVariable.cls yX11_isNoVariable yX11_isNoVariable ∈ lwg := tb_0 (List.mem_of_getElem? (i := 32) rfl) rfl
theorem wd_35 : Cond.selects yX11_needVariable.cls yX11_needVariable yX11_needVariable ∈ lwg := tb_0 (List.mem_of_getElem? (i := 35) rfl) rfl
theorem wd_36 : Cond.selects yX11_needToken.cls yX11_needToken yX11_needToken ∈ lwg := tb_0 (List.mem_of_getElem? (i := 36) rfl) rfl
theorem wd_96 : Cond.initialized yX5_add.cls ∈ lwg := tb_1 (List.mem_of_getElem? (i := 2) rfl) rfl
theorem wd_112 : Cond.initialized (xname 0) ∈ lwg := tb_1 (List.mem_of_getElem? (i := 18) rfl) rfl
theorem wd_113 : Cond.initialized (xname 1) ∈ lwg := tb_1 (List.mem_of_getElem? (i := 19) rfl) rfl
theorem wd_114 : Cond.initialized (xname 2) ∈ lwg := tb_1 (List.mem_of_getElem? (i := 20) rfl) rfl
theorem wd_142 : Cond.fieldLink RX11 100 "Tellcourt$Nodes" "kind" "[I" ∈ lwg := tb_1 (List.mem_of_getElem? (i := 48) rfl) rfl
theorem wd_155 : Cond.fieldLink RX11 299 "Tellcourt$Nodes" "count" "I" ∈ lwg := tb_1 (List.mem_of_getElem? (i := 61) rfl) rfl
theorem wd_186 : Cond.fieldLink RX11 232 "Tellcourt$Survey" "found" "I" ∈ lwg := tb_1 (List.mem_of_getElem? (i := 92) rfl) rfl
theorem wd_217 : Cond.fieldLink RX11 135 "Tellcourt$Rule" "heads" "I" ∈ lwg := tb_1 (List.mem_of_getElem? (i := 123) rfl) rfl
theorem wd_219 : Cond.fieldLink RX11 141 "Tellcourt$Rule" "bodies" "I" ∈ lwg := tb_1 (List.mem_of_getElem? (i := 125) rfl) rfl
theorem wd_224 : Cond.fieldLink RX11 138 "Tellcourt$Rule" "isGuarded" "Z" ∈ lwg := tb_1 (List.mem_of_getElem? (i := 130) rfl) rfl
theorem wd_270 : Cond.fieldLink RX11 245 "Tellcourt$Store" "classOf" "[I" ∈ lwg := tb_1 (List.mem_of_getElem? (i := 176) rfl) rfl
theorem wd_277 : Cond.fieldLink RX11 254 "Tellcourt$Store" "sort" "[I" ∈ lwg := tb_1 (List.mem_of_getElem? (i := 183) rfl) rfl
theorem wd_281 : Cond.fieldLink RX11 257 "Tellcourt$Store" "first" "[I" ∈ lwg := tb_1 (List.mem_of_getElem? (i := 187) rfl) rfl
theorem wd_285 : Cond.fieldLink RX11 260 "Tellcourt$Store" "second" "[I" ∈ lwg := tb_1 (List.mem_of_getElem? (i := 191) rfl) rfl
theorem wd_289 : Cond.fieldLink RX11 267 "Tellcourt$Store" "lasts" "[Z" ∈ lwg := tb_1 (List.mem_of_getElem? (i := 195) rfl) rfl
theorem wd_293 : Cond.fieldLink RX11 263 "Tellcourt$Store" "stands" "[Z" ∈ lwg := tb_1 (List.mem_of_getElem? (i := 199) rfl) rfl
theorem wd_297 : Cond.fieldLink RX11 272 "Tellcourt$Store" "low" "[J" ∈ lwg := tb_1 (List.mem_of_getElem? (i := 203) rfl) rfl
theorem wd_301 : Cond.fieldLink RX11 276 "Tellcourt$Store" "high" "[J" ∈ lwg := tb_1 (List.mem_of_getElem? (i := 207) rfl) rfl
theorem wd_309 : Cond.fieldLink RX11 205 "Tellcourt$Store" "acts" "I" ∈ lwg := tb_1 (List.mem_of_getElem? (i := 215) rfl) rfl
theorem wd_440 : Cond.fieldLink RX11 292 "Tellcourt$Rewriter" "firings" "[I" ∈ lwg := tb_2 (List.mem_of_getElem? (i := 106) rfl) rfl
theorem wd_553 : Cond.fieldLink RX11 193 "Tellcourt$World" "steps" "I" ∈ lwg := tb_2 (List.mem_of_getElem? (i := 219) rfl) rfl
theorem wd_581 : Cond.fieldLink RX11 10 "Tellcourt" "nodes" "LTellcourt$Nodes;" ∈ lwg := tb_3 (List.mem_of_getElem? (i := 7) rfl) rfl
theorem wd_949 : Cond.classLink RX11 60 (xname 0) ∈ lwg := tb_4 (List.mem_of_getElem? (i := 135) rfl) rfl
theorem wd_1018 : Cond.methodLink RX11 67 yX11_note ∈ lwg := tb_4 (List.mem_of_getElem? (i := 204) rfl) rfl
theorem wd_1020 : Cond.instanceMethod yX11_note ∈ lwg := tb_4 (List.mem_of_getElem? (i := 206) rfl) rfl
theorem wd_1021 : Cond.code yX11_note cX11_note 6 none ∈ lwg := tb_4 (List.mem_of_getElem? (i := 207) rfl) rfl
theorem wd_1030 : Cond.methodLink RX11 75 yX11_needTerms ∈ lwg := tb_4 (List.mem_of_getElem? (i := 216) rfl) rfl
theorem wd_1031 : Cond.static yX11_needTerms ∈ lwg := tb_4 (List.mem_of_getElem? (i := 217) rfl) rfl
theorem wd_1032 : Cond.code yX11_needTerms cX11_needTerms 2 none ∈ lwg := tb_4 (List.mem_of_getElem? (i := 218) rfl) rfl
theorem wd_1033 : Cond.methodLink RX11 312 yX11_isTerm ∈ lwg := tb_4 (List.mem_of_getElem? (i := 219) rfl) rfl
theorem wd_1034 : Cond.static yX11_isTerm ∈ lwg := tb_4 (List.mem_of_getElem? (i := 220) rfl) rfl
theorem wd_1035 : Cond.code yX11_isTerm cX11_isTerm 1 (some .boolean) ∈ lwg := tb_4 (List.mem_of_getElem? (i := 221) rfl) rfl
theorem wd_1040 : Cond.classLink RX11 103 (xname 1) ∈ lwg := tb_4 (List.mem_of_getElem? (i := 226) rfl) rfl
theorem wd_1056 : Cond.methodLink RX11 79 yX11_needRoom ∈ lwg := tb_5 (List.mem_of_getElem? (i := 2) rfl) rfl
theorem wd_1058 : Cond.instanceMethod yX11_needRoom ∈ lwg := tb_5 (List.mem_of_getElem? (i := 4) rfl) rfl
theorem wd_1059 : Cond.code yX11_needRoom cX11_needRoom 1 none ∈ lwg := tb_5 (List.mem_of_getElem? (i := 5) rfl) rfl
theorem wd_1061 : Cond.methodLink RX11 82 yX5_add ∈ lwg := tb_5 (List.mem_of_getElem? (i := 7) rfl) rfl
theorem wd_1062 : Cond.instanceMethod yX5_add ∈ lwg := tb_5 (List.mem_of_getElem? (i := 8) rfl) rfl
theorem wd_1063 : Cond.selects yX5_add.cls yX5_add yX5_add ∈ lwg := tb_5 (List.mem_of_getElem? (i := 9) rfl) rfl
theorem wd_1064 : Cond.code yX5_add cX5_add 7 (some .int) ∈ lwg := tb_5 (List.mem_of_getElem? (i := 10) rfl) rfl
theorem wd_1072 : Cond.methodLink RX11 86 yX11_needSort ∈ lwg := tb_5 (List.mem_of_getElem? (i := 18) rfl) rfl
theorem wd_1073 : Cond.static yX11_needSort ∈ lwg := tb_5 (List.mem_of_getElem? (i := 19) rfl) rfl
theorem wd_1074 : Cond.code yX11_needSort cX11_needSort 1 none ∈ lwg := tb_5 (List.mem_of_getElem? (i := 20) rfl) rfl
theorem wd_1075 : Cond.methodLink RX11 108 yX11_needWithin ∈ lwg := tb_5 (List.mem_of_getElem? (i := 21) rfl) rfl
theorem wd_1076 : Cond.static yX11_needWithin ∈ lwg := tb_5 (List.mem_of_getElem? (i := 22) rfl) rfl
theorem wd_1077 : Cond.code yX11_needWithin cX11_needWithin 3 none ∈ lwg := tb_5 (List.mem_of_getElem? (i := 23) rfl) rfl
theorem wd_1087 : Cond.methodLink RX11 90 yX11_needNode ∈ lwg := tb_5 (List.mem_of_getElem? (i := 33) rfl) rfl
theorem wd_1089 : Cond.instanceMethod yX11_needNode ∈ lwg := tb_5 (List.mem_of_getElem? (i := 35) rfl) rfl
theorem wd_1090 : Cond.code yX11_needNode cX11_needNode 2 none ∈ lwg := tb_5 (List.mem_of_getElem? (i := 36) rfl) rfl
theorem wd_1091 : Cond.classLink RX11 175 (xname 2) ∈ lwg := tb_5 (List.mem_of_getElem? (i := 37) rfl) rfl
theorem wd_1114 : Cond.methodLink RX11 93 yX11_needCondition ∈ lwg := tb_5 (List.mem_of_getElem? (i := 60) rfl) rfl
theorem wd_1115 : Cond.static yX11_needCondition ∈ lwg := tb_5 (List.mem_of_getElem? (i := 61) rfl) rfl
theorem wd_1116 : Cond.code yX11_needCondition cX11_needCondition 1 none ∈ lwg := tb_5 (List.mem_of_getElem? (i := 62) rfl) rfl
theorem wd_1117 : Cond.methodLink RX11 96 yX11_asked ∈ lwg := tb_5 (List.mem_of_getElem? (i := 63) rfl) rfl
theorem wd_1118 : Cond.static yX11_asked ∈ lwg := tb_5 (List.mem_of_getElem? (i := 64) rfl) rfl
theorem wd_1119 : Cond.code yX11_asked cX11_asked 2 (some .int) ∈ lwg := tb_5 (List.mem_of_getElem? (i := 65) rfl) rfl
theorem wd_1142 : Cond.methodLink RX11 112 yX11_needDefinition ∈ lwg := tb_5 (List.mem_of_getElem? (i := 88) rfl) rfl
theorem wd_1144 : Cond.instanceMethod yX11_needDefinition ∈ lwg := tb_5 (List.mem_of_getElem? (i := 90) rfl) rfl
theorem wd_1145 : Cond.code yX11_needDefinition cX11_needDefinition 2 none ∈ lwg := tb_5 (List.mem_of_getElem? (i := 91) rfl) rfl
theorem wd_1196 : Cond.methodLink RX11 118 yX11_needPatterns ∈ lwg := tb_5 (List.mem_of_getElem? (i := 142) rfl) rfl
theorem wd_1197 : Cond.static yX11_needPatterns ∈ lwg := tb_5 (List.mem_of_getElem? (i := 143) rfl) rfl
theorem wd_1198 : Cond.code yX11_needPatterns cX11_needPatterns 2 none ∈ lwg := tb_5 (List.mem_of_getElem? (i := 144) rfl) rfl
theorem wd_1205 : Cond.methodLink RX11 128 yX7_clear ∈ lwg := tb_5 (List.mem_of_getElem? (i := 151) rfl) rfl
theorem wd_1206 : Cond.instanceMethod yX7_clear ∈ lwg := tb_5 (List.mem_of_getElem? (i := 152) rfl) rfl
theorem wd_1207 : Cond.selects yX7_clear.cls yX7_clear yX7_clear ∈ lwg := tb_5 (List.mem_of_getElem? (i := 153) rfl) rfl
theorem wd_1208 : Cond.code yX7_clear cX7_clear 1 none ∈ lwg := tb_5 (List.mem_of_getElem? (i := 154) rfl) rfl
theorem wd_1209 : Cond.methodLink RX11 131 yX7_addHead ∈ lwg := tb_5 (List.mem_of_getElem? (i := 155) rfl) rfl
theorem wd_1210 : Cond.instanceMethod yX7_addHead ∈ lwg := tb_5 (List.mem_of_getElem? (i := 156) rfl) rfl
theorem wd_1211 : Cond.selects yX7_addHead.cls yX7_addHead yX7_addHead ∈ lwg := tb_5 (List.mem_of_getElem? (i := 157) rfl) rfl
theorem wd_1212 : Cond.code yX7_addHead cX7_addHead 5 (some .int) ∈ lwg := tb_5 (List.mem_of_getElem? (i := 158) rfl) rfl
theorem wd_1233 : Cond.methodLink RX11 146 yX11_needRuleTerms ∈ lwg := tb_5 (List.mem_of_getElem? (i := 179) rfl) rfl
theorem wd_1235 : Cond.instanceMethod yX11_needRuleTerms ∈ lwg := tb_5 (List.mem_of_getElem? (i := 181) rfl) rfl
theorem wd_1236 : Cond.code yX11_needRuleTerms cX11_needRuleTerms 3 none ∈ lwg := tb_5 (List.mem_of_getElem? (i := 182) rfl) rfl
theorem wd_1237 : Cond.methodLink RX11 319 yX11_isRuleTerm ∈ lwg := tb_5 (List.mem_of_getElem? (i := 183) rfl) rfl
theorem wd_1239 : Cond.instanceMethod yX11_isRuleTerm ∈ lwg := tb_5 (List.mem_of_getElem? (i := 185) rfl) rfl
theorem wd_1240 : Cond.code yX11_isRuleTerm cX11_isRuleTerm 2 (some .boolean) ∈ lwg := tb_5 (List.mem_of_getElem? (i := 186) rfl) rfl
theorem wd_1247 : Cond.methodLink RX11 151 yX7_addGuard ∈ lwg := tb_5 (List.mem_of_getElem? (i := 193) rfl) rfl
theorem wd_1248 : Cond.instanceMethod yX7_addGuard ∈ lwg := tb_5 (List.mem_of_getElem? (i := 194) rfl) rfl
theorem wd_1249 : Cond.selects yX7_addGuard.cls yX7_addGuard yX7_addGuard ∈ lwg := tb_5 (List.mem_of_getElem? (i := 195) rfl) rfl
theorem wd_1250 : Cond.code yX7_addGuard cX7_addGuard 4 none ∈ lwg := tb_5 (List.mem_of_getElem? (i := 196) rfl) rfl
theorem wd_1259 : Cond.methodLink RX11 156 yX7_addBody ∈ lwg := tb_5 (List.mem_of_getElem? (i := 205) rfl) rfl
theorem wd_1260 : Cond.instanceMethod yX7_addBody ∈ lwg := tb_5 (List.mem_of_getElem? (i := 206) rfl) rfl
theorem wd_1261 : Cond.selects yX7_addBody.cls yX7_addBody yX7_addBody ∈ lwg := tb_5 (List.mem_of_getElem? (i := 207) rfl) rfl
theorem wd_1262 : Cond.code yX7_addBody cX7_addBody 4 (some .int) ∈ lwg := tb_5 (List.mem_of_getElem? (i := 208) rfl) rfl
theorem wd_1278 : Cond.methodLink RX11 171 yX11_isNoVariable ∈ lwg := tb_5 (List.mem_of_getElem? (i := 224) rfl) rfl
theorem wd_1280 : Cond.instanceMethod yX11_isNoVariable ∈ lwg := tb_5 (List.mem_of_getElem? (i := 226) rfl) rfl
theorem wd_1281 : Cond.code yX11_isNoVariable cX11_isNoVariable 2 (some .boolean) ∈ lwg := tb_5 (List.mem_of_getElem? (i := 227) rfl) rfl
theorem wd_1300 : Jvm.Cond.constant RX11 208 (65536) ∈ lwg := tb_6 (List.mem_of_getElem? (i := 6) rfl) rfl
theorem wd_1309 : Cond.methodLink RX11 220 yX10_copyFrom ∈ lwg := tb_6 (List.mem_of_getElem? (i := 15) rfl) rfl
theorem wd_1310 : Cond.instanceMethod yX10_copyFrom ∈ lwg := tb_6 (List.mem_of_getElem? (i := 16) rfl) rfl
theorem wd_1311 : Cond.selects yX10_copyFrom.cls yX10_copyFrom yX10_copyFrom ∈ lwg := tb_6 (List.mem_of_getElem? (i := 17) rfl) rfl
theorem wd_1312 : Cond.code yX10_copyFrom cX10_copyFrom 2 none ∈ lwg := tb_6 (List.mem_of_getElem? (i := 18) rfl) rfl
theorem wd_1327 : Cond.methodLink RX11 224 yX9_record ∈ lwg := tb_6 (List.mem_of_getElem? (i := 33) rfl) rfl
theorem wd_1328 : Cond.instanceMethod yX9_record ∈ lwg := tb_6 (List.mem_of_getElem? (i := 34) rfl) rfl
theorem wd_1329 : Cond.selects yX9_record.cls yX9_record yX9_record ∈ lwg := tb_6 (List.mem_of_getElem? (i := 35) rfl) rfl
theorem wd_1330 : Cond.code yX9_record cX9_record 6 none ∈ lwg := tb_6 (List.mem_of_getElem? (i := 36) rfl) rfl
theorem wd_1606 : Cond.methodLink RX11 228 yX9_turn ∈ lwg := tb_7 (List.mem_of_getElem? (i := 72) rfl) rfl
theorem wd_1607 : Cond.instanceMethod yX9_turn ∈ lwg := tb_7 (List.mem_of_getElem? (i := 73) rfl) rfl
theorem wd_1608 : Cond.selects yX9_turn.cls yX9_turn yX9_turn ∈ lwg := tb_7 (List.mem_of_getElem? (i := 74) rfl) rfl
theorem wd_1609 : Cond.code yX9_turn cX9_turn 2 (some .boolean) ∈ lwg := tb_7 (List.mem_of_getElem? (i := 75) rfl) rfl
theorem wd_1617 : Cond.methodLink RX11 238 yX11_needVariable ∈ lwg := tb_7 (List.mem_of_getElem? (i := 83) rfl) rfl
theorem wd_1619 : Cond.instanceMethod yX11_needVariable ∈ lwg := tb_7 (List.mem_of_getElem? (i := 85) rfl) rfl
theorem wd_1620 : Cond.code yX11_needVariable cX11_needVariable 2 none ∈ lwg := tb_7 (List.mem_of_getElem? (i := 86) rfl) rfl
theorem wd_1621 : Cond.methodLink RX11 241 yX8_form ∈ lwg := tb_7 (List.mem_of_getElem? (i := 87) rfl) rfl
theorem wd_1636 : Cond.methodLink RX11 251 yX11_needToken ∈ lwg := tb_7 (List.mem_of_getElem? (i := 102) rfl) rfl
theorem wd_1638 : Cond.instanceMethod yX11_needToken ∈ lwg := tb_7 (List.mem_of_getElem? (i := 104) rfl) rfl
theorem wd_1639 : Cond.code yX11_needToken cX11_needToken 2 none ∈ lwg := tb_7 (List.mem_of_getElem? (i := 105) rfl) rfl
theorem wd_1649 : Cond.methodLink RX11 279 yX8_isIn ∈ lwg := tb_7 (List.mem_of_getElem? (i := 115) rfl) rfl
theorem ib_16 : (Int8.ofInt (16)).toInt32 = 16 := by decide +kernel
theorem fl_X11_10 : FL RX11 10 11 0 3 := ⟨cf_11, by decide, by decide, wd_581, by decide +kernel⟩
theorem fl_X11_299 : FL RX11 299 5 6 0 := ⟨cf_5, by decide, by decide, wd_155, by decide +kernel⟩
theorem fl_X11_100 : FL RX11 100 5 0 3 := ⟨cf_5, by decide, by decide, wd_142, by decide +kernel⟩
theorem fl_X11_135 : FL RX11 135 7 5 0 := ⟨cf_7, by decide, by decide, wd_217, by decide +kernel⟩
theorem fl_X11_138 : FL RX11 138 7 8 1 := ⟨cf_7, by decide, by decide, wd_224, by decide +kernel⟩
theorem fl_X11_141 : FL RX11 141 7 6 0 := ⟨cf_7, by decide, by decide, wd_219, by decide +kernel⟩
theorem fl_X11_193 : FL RX11 193 10 10 0 := ⟨cf_10, by decide, by decide, wd_553, by decide +kernel⟩
theorem fl_X11_205 : FL RX11 205 8 11 0 := ⟨cf_8, by decide, by decide, wd_309, by decide +kernel⟩
theorem fl_X11_232 : FL RX11 232 9 5 0 := ⟨cf_9, by decide, by decide, wd_186, by decide +kernel⟩
theorem fl_X11_245 : FL RX11 245 8 0 3 := ⟨cf_8, by decide, by decide, wd_270, by decide +kernel⟩
theorem fl_X11_254 : FL RX11 254 8 3 3 := ⟨cf_8, by decide, by decide, wd_277, by decide +kernel⟩
theorem fl_X11_257 : FL RX11 257 8 4 3 := ⟨cf_8, by decide, by decide, wd_281, by decide +kernel⟩
theorem fl_X11_260 : FL RX11 260 8 5 3 := ⟨cf_8, by decide, by decide, wd_285, by decide +kernel⟩
theorem fl_X11_263 : FL RX11 263 8 7 3 := ⟨cf_8, by decide, by decide, wd_293, by decide +kernel⟩
theorem fl_X11_267 : FL RX11 267 8 6 3 := ⟨cf_8, by decide, by decide, wd_289, by decide +kernel⟩
theorem fl_X11_272 : FL RX11 272 8 8 3 := ⟨cf_8, by decide, by decide, wd_297, by decide +kernel⟩
theorem fl_X11_276 : FL RX11 276 8 9 3 := ⟨cf_8, by decide, by decide, wd_301, by decide +kernel⟩
theorem fl_X11_292 : FL RX11 292 6 8 3 := ⟨cf_6, by decide, by decide, wd_440, by decide +kernel⟩
theorem ml_X11_67 : MLV RX11 67 yX11_note cX11_note 6 none 4 := ⟨⟨wd_1018, wd_1020, wd_24, wd_95, wd_1021⟩, by decide +kernel, by decide +kernel, by decide +kernel⟩
theorem ml_X11_312 : MLS RX11 312 yX11_isTerm cX11_isTerm 1 (some .boolean) 1 := ⟨⟨wd_1033, wd_1034, wd_95, wd_1035⟩, by decide +kernel, by decide +kernel, by decide +kernel⟩
theorem ml_X11_75 : MLS RX11 75 yX11_needTerms cX11_needTerms 2 none 2 := ⟨⟨wd_1030, wd_1031, wd_95, wd_1032⟩, by decide +kernel, by decide +kernel, by decide +kernel⟩
theorem ml_X11_79 : MLV RX11 79 yX11_needRoom cX11_needRoom 1 none 0 := ⟨⟨wd_1056, wd_1058, wd_25, wd_95, wd_1059⟩, by decide +kernel, by decide +kernel, by decide +kernel⟩
theorem ml_X11_82 : MLV RX11 82 yX5_add cX5_add 7 (some .int) 6 := ⟨⟨wd_1061, wd_1062, wd_1063, wd_96, wd_1064⟩, by decide +kernel, by decide +kernel, by decide +kernel⟩
theorem ml_X11_108 : MLS RX11 108 yX11_needWithin cX11_needWithin 3 none 3 := ⟨⟨wd_1075, wd_1076, wd_95, wd_1077⟩, by decide +kernel, by decide +kernel, by decide +kernel⟩
theorem ml_X11_86 : MLS RX11 86 yX11_needSort cX11_needSort 1 none 1 := ⟨⟨wd_1072, wd_1073, wd_95, wd_1074⟩, by decide +kernel, by decide +kernel, by decide +kernel⟩
theorem ml_X11_90 : MLV RX11 90 yX11_needNode cX11_needNode 2 none 1 := ⟨⟨wd_1087, wd_1089, wd_26, wd_95, wd_1090⟩, by decide +kernel, by decide +kernel, by decide +kernel⟩
theorem ml_X11_93 : MLS RX11 93 yX11_needCondition cX11_needCondition 1 none 1 := ⟨⟨wd_1114, wd_1115, wd_95, wd_1116⟩, by decide +kernel, by decide +kernel, by decide +kernel⟩
theorem ml_X11_96 : MLS RX11 96 yX11_asked cX11_asked 2 (some .int) 2 := ⟨⟨wd_1117, wd_1118, wd_95, wd_1119⟩, by decide +kernel, by decide +kernel, by decide +kernel⟩
theorem ml_X11_112 : MLV RX11 112 yX11_needDefinition cX11_needDefinition 2 none 1 := ⟨⟨wd_1142, wd_1144, wd_27, wd_95, wd_1145⟩, by decide +kernel, by decide +kernel, by decide +kernel⟩
theorem ml_X11_118 : MLS RX11 118 yX11_needPatterns cX11_needPatterns 2 none 2 := ⟨⟨wd_1196, wd_1197, wd_95, wd_1198⟩, by decide +kernel, by decide +kernel, by decide +kernel⟩
theorem ml_X11_128 : MLV RX11 128 yX7_clear cX7_clear 1 none 0 := ⟨⟨wd_1205, wd_1206, wd_1207, wd_98, wd_1208⟩, by decide +kernel, by decide +kernel, by decide +kernel⟩
theorem ml_X11_131 : MLV RX11 131 yX7_addHead cX7_addHead 5 (some .int) 4 := ⟨⟨wd_1209, wd_1210, wd_1211, wd_98, wd_1212⟩, by decide +kernel, by decide +kernel, by decide +kernel⟩
theorem ml_X11_319 : MLV RX11 319 yX11_isRuleTerm cX11_isRuleTerm 2 (some .boolean) 1 := ⟨⟨wd_1237, wd_1239, wd_31, wd_95, wd_1240⟩, by decide +kernel, by decide +kernel, by decide +kernel⟩
theorem ml_X11_146 : MLV RX11 146 yX11_needRuleTerms cX11_needRuleTerms 3 none 2 := ⟨⟨wd_1233, wd_1235, wd_30, wd_95, wd_1236⟩, by decide +kernel, by decide +kernel, by decide +kernel⟩
theorem ml_X11_151 : MLV RX11 151 yX7_addGuard cX7_addGuard 4 none 3 := ⟨⟨wd_1247, wd_1248, wd_1249, wd_98, wd_1250⟩, by decide +kernel, by decide +kernel, by decide +kernel⟩
theorem ml_X11_156 : MLV RX11 156 yX7_addBody cX7_addBody 4 (some .int) 3 := ⟨⟨wd_1259, wd_1260, wd_1261, wd_98, wd_1262⟩, by decide +kernel, by decide +kernel, by decide +kernel⟩
theorem ml_X11_171 : MLV RX11 171 yX11_isNoVariable cX11_isNoVariable 2 (some .boolean) 1 := ⟨⟨wd_1278, wd_1280, wd_32, wd_95, wd_1281⟩, by decide +kernel, by decide +kernel, by decide +kernel⟩
theorem ml_X11_220 : MLV RX11 220 yX10_copyFrom cX10_copyFrom 2 none 1 := ⟨⟨wd_1309, wd_1310, wd_1311, wd_99, wd_1312⟩, by decide +kernel, by decide +kernel, by decide +kernel⟩
theorem ml_X11_224 : MLV RX11 224 yX9_record cX9_record 6 none 2 := ⟨⟨wd_1327, wd_1328, wd_1329, wd_97, wd_1330⟩, by decide +kernel, by decide +kernel, by decide +kernel⟩
theorem ml_X11_228 : MLV RX11 228 yX9_turn cX9_turn 2 (some .boolean) 0 := ⟨⟨wd_1606, wd_1607, wd_1608, wd_97, wd_1609⟩, by decide +kernel, by decide +kernel, by decide +kernel⟩
theorem ml_X11_238 : MLV RX11 238 yX11_needVariable cX11_needVariable 2 none 1 := ⟨⟨wd_1617, wd_1619, wd_35, wd_95, wd_1620⟩, by decide +kernel, by decide +kernel, by decide +kernel⟩
theorem ml_X11_241 : MLV RX11 241 yX8_form cX8_form 4 (some .int) 1 := ⟨⟨wd_1621, wd_756, wd_757, wd_100, wd_758⟩, by decide +kernel, by decide +kernel, by decide +kernel⟩
theorem ml_X11_251 : MLV RX11 251 yX11_needToken cX11_needToken 2 none 1 := ⟨⟨wd_1636, wd_1638, wd_36, wd_95, wd_1639⟩, by decide +kernel, by decide +kernel, by decide +kernel⟩
theorem ml_X11_279 : MLS RX11 279 yX8_isIn cX8_isIn 5 (some .boolean) 3 := ⟨⟨wd_1649, wd_803, wd_100, wd_804⟩, by decide +kernel, by decide +kernel, by decide +kernel⟩
set_option maxRecDepth 100000 in
theorem tx_60_64 : TX RX11 60 64 0 := ⟨⟨by decide +kernel, by decide +kernel⟩, ⟨wd_949, wd_112⟩, fun w hw => List.mem_filter.mpr ⟨(by decide +kernel : ∀ w ∈ (vx_atS RX11 64 (xname 0) xch).filter goodWord, w ∈ lw_tbl) w hw, (List.mem_filter.mp hw).2⟩, by decide +kernel, by decide +kernel⟩
set_option maxRecDepth 100000 in
theorem tx_103_107 : TX RX11 103 107 1 := ⟨⟨by decide +kernel, by decide +kernel⟩, ⟨wd_1040, wd_113⟩, fun w hw => List.mem_filter.mpr ⟨(by decide +kernel : ∀ w ∈ (vx_atS RX11 107 (xname 1) xch).filter goodWord, w ∈ lw_tbl) w hw, (List.mem_filter.mp hw).2⟩, by decide +kernel, by decide +kernel⟩
set_option maxRecDepth 100000 in
theorem tx_175_179 : TX RX11 175 179 2 := ⟨⟨by decide +kernel, by decide +kernel⟩, ⟨wd_1091, wd_114⟩, fun w hw => List.mem_filter.mpr ⟨(by decide +kernel : ∀ w ∈ (vx_atS RX11 179 (xname 2) xch).filter goodWord, w ∈ lw_tbl) w hw, (List.mem_filter.mp hw).2⟩, by decide +kernel, by decide +kernel⟩
