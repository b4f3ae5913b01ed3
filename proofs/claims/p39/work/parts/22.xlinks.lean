/-! printed: words by their places, constants, fields, calls -/
theorem wd_1 : Cond.selects yX11_note.cls yX11_note yX11_note ∈ lwg := tb_0 (List.mem_of_getElem? (i := 1) rfl) rfl
theorem wd_2 : Cond.selects yX11_needRoom.cls yX11_needRoom yX11_needRoom ∈ lwg := tb_0 (List.mem_of_getElem? (i := 2) rfl) rfl
theorem wd_3 : Cond.selects yX11_needNode.cls yX11_needNode yX11_needNode ∈ lwg := tb_0 (List.mem_of_getElem? (i := 3) rfl) rfl
theorem wd_4 : Cond.selects yX11_isNoVariable.cls yX11_isNoVariable yX11_isNoVariable ∈ lwg := tb_0 (List.mem_of_getElem? (i := 4) rfl) rfl
theorem wd_30 : Cond.selects yX11_needVariable.cls yX11_needVariable yX11_needVariable ∈ lwg := tb_0 (List.mem_of_getElem? (i := 30) rfl) rfl
theorem wd_31 : Cond.selects yX11_needToken.cls yX11_needToken yX11_needToken ∈ lwg := tb_0 (List.mem_of_getElem? (i := 31) rfl) rfl
theorem wd_34 : Cond.initialized yX5_add.cls ∈ lwg := tb_1 (List.mem_of_getElem? (i := 2) rfl) rfl
theorem wd_49 : Cond.initialized (xname 0) ∈ lwg := tb_1 (List.mem_of_getElem? (i := 17) rfl) rfl
theorem wd_50 : Cond.initialized (xname 1) ∈ lwg := tb_1 (List.mem_of_getElem? (i := 18) rfl) rfl
theorem wd_51 : Cond.initialized (xname 2) ∈ lwg := tb_1 (List.mem_of_getElem? (i := 19) rfl) rfl
theorem wd_81 : Cond.fieldLink RX11 299 "Tellcourt$Nodes" "count" "I" ∈ lwg := tb_1 (List.mem_of_getElem? (i := 49) rfl) rfl
theorem wd_112 : Cond.fieldLink RX11 232 "Tellcourt$Survey" "found" "I" ∈ lwg := tb_1 (List.mem_of_getElem? (i := 80) rfl) rfl
theorem wd_193 : Cond.fieldLink RX11 254 "Tellcourt$Store" "sort" "[I" ∈ lwg := tb_1 (List.mem_of_getElem? (i := 161) rfl) rfl
theorem wd_197 : Cond.fieldLink RX11 257 "Tellcourt$Store" "first" "[I" ∈ lwg := tb_1 (List.mem_of_getElem? (i := 165) rfl) rfl
theorem wd_201 : Cond.fieldLink RX11 260 "Tellcourt$Store" "second" "[I" ∈ lwg := tb_1 (List.mem_of_getElem? (i := 169) rfl) rfl
theorem wd_205 : Cond.fieldLink RX11 267 "Tellcourt$Store" "lasts" "[Z" ∈ lwg := tb_1 (List.mem_of_getElem? (i := 173) rfl) rfl
theorem wd_209 : Cond.fieldLink RX11 263 "Tellcourt$Store" "stands" "[Z" ∈ lwg := tb_1 (List.mem_of_getElem? (i := 177) rfl) rfl
theorem wd_213 : Cond.fieldLink RX11 272 "Tellcourt$Store" "low" "[J" ∈ lwg := tb_1 (List.mem_of_getElem? (i := 181) rfl) rfl
theorem wd_217 : Cond.fieldLink RX11 276 "Tellcourt$Store" "high" "[J" ∈ lwg := tb_1 (List.mem_of_getElem? (i := 185) rfl) rfl
theorem wd_225 : Cond.fieldLink RX11 205 "Tellcourt$Store" "acts" "I" ∈ lwg := tb_1 (List.mem_of_getElem? (i := 193) rfl) rfl
theorem wd_468 : Cond.fieldLink RX11 193 "Tellcourt$World" "steps" "I" ∈ lwg := tb_2 (List.mem_of_getElem? (i := 196) rfl) rfl
theorem wd_496 : Cond.fieldLink RX11 10 "Tellcourt" "nodes" "LTellcourt$Nodes;" ∈ lwg := tb_2 (List.mem_of_getElem? (i := 224) rfl) rfl
theorem wd_524 : Cond.classLink RX11 60 (xname 0) ∈ lwg := tb_3 (List.mem_of_getElem? (i := 12) rfl) rfl
theorem wd_592 : Cond.methodLink RX11 67 yX11_note ∈ lwg := tb_3 (List.mem_of_getElem? (i := 80) rfl) rfl
theorem wd_594 : Cond.instanceMethod yX11_note ∈ lwg := tb_3 (List.mem_of_getElem? (i := 82) rfl) rfl
theorem wd_595 : Cond.code yX11_note cX11_note 6 none ∈ lwg := tb_3 (List.mem_of_getElem? (i := 83) rfl) rfl
theorem wd_604 : Cond.methodLink RX11 75 yX11_needTerms ∈ lwg := tb_3 (List.mem_of_getElem? (i := 92) rfl) rfl
theorem wd_605 : Cond.static yX11_needTerms ∈ lwg := tb_3 (List.mem_of_getElem? (i := 93) rfl) rfl
theorem wd_606 : Cond.code yX11_needTerms cX11_needTerms 2 none ∈ lwg := tb_3 (List.mem_of_getElem? (i := 94) rfl) rfl
theorem wd_607 : Cond.methodLink RX11 312 yX11_isTerm ∈ lwg := tb_3 (List.mem_of_getElem? (i := 95) rfl) rfl
theorem wd_608 : Cond.static yX11_isTerm ∈ lwg := tb_3 (List.mem_of_getElem? (i := 96) rfl) rfl
theorem wd_609 : Cond.code yX11_isTerm cX11_isTerm 1 (some .boolean) ∈ lwg := tb_3 (List.mem_of_getElem? (i := 97) rfl) rfl
theorem wd_616 : Cond.classLink RX11 103 (xname 1) ∈ lwg := tb_3 (List.mem_of_getElem? (i := 104) rfl) rfl
theorem wd_632 : Cond.methodLink RX11 79 yX11_needRoom ∈ lwg := tb_3 (List.mem_of_getElem? (i := 120) rfl) rfl
theorem wd_634 : Cond.instanceMethod yX11_needRoom ∈ lwg := tb_3 (List.mem_of_getElem? (i := 122) rfl) rfl
theorem wd_635 : Cond.code yX11_needRoom cX11_needRoom 1 none ∈ lwg := tb_3 (List.mem_of_getElem? (i := 123) rfl) rfl
theorem wd_637 : Cond.methodLink RX11 82 yX5_add ∈ lwg := tb_3 (List.mem_of_getElem? (i := 125) rfl) rfl
theorem wd_638 : Cond.instanceMethod yX5_add ∈ lwg := tb_3 (List.mem_of_getElem? (i := 126) rfl) rfl
theorem wd_639 : Cond.selects yX5_add.cls yX5_add yX5_add ∈ lwg := tb_3 (List.mem_of_getElem? (i := 127) rfl) rfl
theorem wd_640 : Cond.code yX5_add cX5_add 7 (some .int) ∈ lwg := tb_3 (List.mem_of_getElem? (i := 128) rfl) rfl
theorem wd_645 : Cond.methodLink RX11 86 yX11_needSort ∈ lwg := tb_3 (List.mem_of_getElem? (i := 133) rfl) rfl
theorem wd_646 : Cond.static yX11_needSort ∈ lwg := tb_3 (List.mem_of_getElem? (i := 134) rfl) rfl
theorem wd_647 : Cond.code yX11_needSort cX11_needSort 1 none ∈ lwg := tb_3 (List.mem_of_getElem? (i := 135) rfl) rfl
theorem wd_648 : Cond.methodLink RX11 108 yX11_needWithin ∈ lwg := tb_3 (List.mem_of_getElem? (i := 136) rfl) rfl
theorem wd_649 : Cond.static yX11_needWithin ∈ lwg := tb_3 (List.mem_of_getElem? (i := 137) rfl) rfl
theorem wd_650 : Cond.code yX11_needWithin cX11_needWithin 3 none ∈ lwg := tb_3 (List.mem_of_getElem? (i := 138) rfl) rfl
theorem wd_656 : Cond.methodLink RX11 90 yX11_needNode ∈ lwg := tb_3 (List.mem_of_getElem? (i := 144) rfl) rfl
theorem wd_658 : Cond.instanceMethod yX11_needNode ∈ lwg := tb_3 (List.mem_of_getElem? (i := 146) rfl) rfl
theorem wd_659 : Cond.code yX11_needNode cX11_needNode 2 none ∈ lwg := tb_3 (List.mem_of_getElem? (i := 147) rfl) rfl
theorem wd_660 : Cond.classLink RX11 175 (xname 2) ∈ lwg := tb_3 (List.mem_of_getElem? (i := 148) rfl) rfl
theorem wd_680 : Cond.methodLink RX11 93 yX11_needCondition ∈ lwg := tb_3 (List.mem_of_getElem? (i := 168) rfl) rfl
theorem wd_681 : Cond.static yX11_needCondition ∈ lwg := tb_3 (List.mem_of_getElem? (i := 169) rfl) rfl
theorem wd_682 : Cond.code yX11_needCondition cX11_needCondition 1 none ∈ lwg := tb_3 (List.mem_of_getElem? (i := 170) rfl) rfl
theorem wd_683 : Cond.methodLink RX11 96 yX11_asked ∈ lwg := tb_3 (List.mem_of_getElem? (i := 171) rfl) rfl
theorem wd_684 : Cond.static yX11_asked ∈ lwg := tb_3 (List.mem_of_getElem? (i := 172) rfl) rfl
theorem wd_685 : Cond.code yX11_asked cX11_asked 2 (some .int) ∈ lwg := tb_3 (List.mem_of_getElem? (i := 173) rfl) rfl
theorem wd_698 : Cond.methodLink RX11 171 yX11_isNoVariable ∈ lwg := tb_3 (List.mem_of_getElem? (i := 186) rfl) rfl
theorem wd_700 : Cond.instanceMethod yX11_isNoVariable ∈ lwg := tb_3 (List.mem_of_getElem? (i := 188) rfl) rfl
theorem wd_701 : Cond.code yX11_isNoVariable cX11_isNoVariable 2 (some .boolean) ∈ lwg := tb_3 (List.mem_of_getElem? (i := 189) rfl) rfl
theorem wd_982 : Jvm.Cond.constant RX11 208 (65536) ∈ lwg := tb_4 (List.mem_of_getElem? (i := 230) rfl) rfl
theorem wd_988 : Cond.methodLink RX11 220 yX10_copyFrom ∈ lwg := tb_4 (List.mem_of_getElem? (i := 236) rfl) rfl
theorem wd_989 : Cond.instanceMethod yX10_copyFrom ∈ lwg := tb_4 (List.mem_of_getElem? (i := 237) rfl) rfl
theorem wd_990 : Cond.selects yX10_copyFrom.cls yX10_copyFrom yX10_copyFrom ∈ lwg := tb_4 (List.mem_of_getElem? (i := 238) rfl) rfl
theorem wd_991 : Cond.code yX10_copyFrom cX10_copyFrom 2 none ∈ lwg := tb_4 (List.mem_of_getElem? (i := 239) rfl) rfl
theorem wd_1006 : Cond.methodLink RX11 224 yX9_record ∈ lwg := tb_5 (List.mem_of_getElem? (i := 14) rfl) rfl
theorem wd_1007 : Cond.instanceMethod yX9_record ∈ lwg := tb_5 (List.mem_of_getElem? (i := 15) rfl) rfl
theorem wd_1008 : Cond.selects yX9_record.cls yX9_record yX9_record ∈ lwg := tb_5 (List.mem_of_getElem? (i := 16) rfl) rfl
theorem wd_1009 : Cond.code yX9_record cX9_record 6 none ∈ lwg := tb_5 (List.mem_of_getElem? (i := 17) rfl) rfl
theorem wd_1029 : Cond.methodLink RX11 228 yX9_turn ∈ lwg := tb_5 (List.mem_of_getElem? (i := 37) rfl) rfl
theorem wd_1030 : Cond.instanceMethod yX9_turn ∈ lwg := tb_5 (List.mem_of_getElem? (i := 38) rfl) rfl
theorem wd_1031 : Cond.selects yX9_turn.cls yX9_turn yX9_turn ∈ lwg := tb_5 (List.mem_of_getElem? (i := 39) rfl) rfl
theorem wd_1032 : Cond.code yX9_turn cX9_turn 2 (some .boolean) ∈ lwg := tb_5 (List.mem_of_getElem? (i := 40) rfl) rfl
theorem wd_1045 : Cond.methodLink RX11 238 yX11_needVariable ∈ lwg := tb_5 (List.mem_of_getElem? (i := 53) rfl) rfl
theorem wd_1047 : Cond.instanceMethod yX11_needVariable ∈ lwg := tb_5 (List.mem_of_getElem? (i := 55) rfl) rfl
theorem wd_1048 : Cond.code yX11_needVariable cX11_needVariable 2 none ∈ lwg := tb_5 (List.mem_of_getElem? (i := 56) rfl) rfl
theorem wd_1049 : Cond.methodLink RX11 241 yX8_form ∈ lwg := tb_5 (List.mem_of_getElem? (i := 57) rfl) rfl
theorem wd_1058 : Cond.methodLink RX11 251 yX11_needToken ∈ lwg := tb_5 (List.mem_of_getElem? (i := 66) rfl) rfl
theorem wd_1060 : Cond.instanceMethod yX11_needToken ∈ lwg := tb_5 (List.mem_of_getElem? (i := 68) rfl) rfl
theorem wd_1061 : Cond.code yX11_needToken cX11_needToken 2 none ∈ lwg := tb_5 (List.mem_of_getElem? (i := 69) rfl) rfl
theorem wd_1068 : Cond.methodLink RX11 279 yX8_isIn ∈ lwg := tb_5 (List.mem_of_getElem? (i := 76) rfl) rfl
theorem ib_16 : (Int8.ofInt (16)).toInt32 = 16 := by decide +kernel
theorem ib_9 : (Int8.ofInt (9)).toInt32 = 9 := by decide +kernel
theorem ib_12 : (Int8.ofInt (12)).toInt32 = 12 := by decide +kernel
theorem ib_13 : (Int8.ofInt (13)).toInt32 = 13 := by decide +kernel
theorem ib_30 : (Int8.ofInt (30)).toInt32 = 30 := by decide +kernel
theorem fl_X11_10 : FL RX11 10 11 0 3 := ⟨cf_11, by decide, by decide, wd_496, by decide +kernel⟩
theorem fl_X11_299 : FL RX11 299 5 6 0 := ⟨cf_5, by decide, by decide, wd_81, by decide +kernel⟩
theorem fl_X11_193 : FL RX11 193 10 10 0 := ⟨cf_10, by decide, by decide, wd_468, by decide +kernel⟩
theorem fl_X11_205 : FL RX11 205 8 11 0 := ⟨cf_8, by decide, by decide, wd_225, by decide +kernel⟩
theorem fl_X11_232 : FL RX11 232 9 5 0 := ⟨cf_9, by decide, by decide, wd_112, by decide +kernel⟩
theorem fl_X11_254 : FL RX11 254 8 3 3 := ⟨cf_8, by decide, by decide, wd_193, by decide +kernel⟩
theorem fl_X11_257 : FL RX11 257 8 4 3 := ⟨cf_8, by decide, by decide, wd_197, by decide +kernel⟩
theorem fl_X11_260 : FL RX11 260 8 5 3 := ⟨cf_8, by decide, by decide, wd_201, by decide +kernel⟩
theorem fl_X11_263 : FL RX11 263 8 7 3 := ⟨cf_8, by decide, by decide, wd_209, by decide +kernel⟩
theorem fl_X11_267 : FL RX11 267 8 6 3 := ⟨cf_8, by decide, by decide, wd_205, by decide +kernel⟩
theorem fl_X11_272 : FL RX11 272 8 8 3 := ⟨cf_8, by decide, by decide, wd_213, by decide +kernel⟩
theorem fl_X11_276 : FL RX11 276 8 9 3 := ⟨cf_8, by decide, by decide, wd_217, by decide +kernel⟩
theorem ml_X11_67 : MLV RX11 67 yX11_note cX11_note 6 none 4 := ⟨⟨wd_592, wd_594, wd_1, wd_33, wd_595⟩, by decide +kernel, by decide +kernel, by decide +kernel⟩
theorem ml_X11_312 : MLS RX11 312 yX11_isTerm cX11_isTerm 1 (some .boolean) 1 := ⟨⟨wd_607, wd_608, wd_33, wd_609⟩, by decide +kernel, by decide +kernel, by decide +kernel⟩
theorem ml_X11_75 : MLS RX11 75 yX11_needTerms cX11_needTerms 2 none 2 := ⟨⟨wd_604, wd_605, wd_33, wd_606⟩, by decide +kernel, by decide +kernel, by decide +kernel⟩
theorem ml_X11_79 : MLV RX11 79 yX11_needRoom cX11_needRoom 1 none 0 := ⟨⟨wd_632, wd_634, wd_2, wd_33, wd_635⟩, by decide +kernel, by decide +kernel, by decide +kernel⟩
theorem ml_X11_82 : MLV RX11 82 yX5_add cX5_add 7 (some .int) 6 := ⟨⟨wd_637, wd_638, wd_639, wd_34, wd_640⟩, by decide +kernel, by decide +kernel, by decide +kernel⟩
theorem ml_X11_108 : MLS RX11 108 yX11_needWithin cX11_needWithin 3 none 3 := ⟨⟨wd_648, wd_649, wd_33, wd_650⟩, by decide +kernel, by decide +kernel, by decide +kernel⟩
theorem ml_X11_86 : MLS RX11 86 yX11_needSort cX11_needSort 1 none 1 := ⟨⟨wd_645, wd_646, wd_33, wd_647⟩, by decide +kernel, by decide +kernel, by decide +kernel⟩
theorem ml_X11_90 : MLV RX11 90 yX11_needNode cX11_needNode 2 none 1 := ⟨⟨wd_656, wd_658, wd_3, wd_33, wd_659⟩, by decide +kernel, by decide +kernel, by decide +kernel⟩
theorem ml_X11_93 : MLS RX11 93 yX11_needCondition cX11_needCondition 1 none 1 := ⟨⟨wd_680, wd_681, wd_33, wd_682⟩, by decide +kernel, by decide +kernel, by decide +kernel⟩
theorem ml_X11_96 : MLS RX11 96 yX11_asked cX11_asked 2 (some .int) 2 := ⟨⟨wd_683, wd_684, wd_33, wd_685⟩, by decide +kernel, by decide +kernel, by decide +kernel⟩
theorem ml_X11_171 : MLV RX11 171 yX11_isNoVariable cX11_isNoVariable 2 (some .boolean) 1 := ⟨⟨wd_698, wd_700, wd_4, wd_33, wd_701⟩, by decide +kernel, by decide +kernel, by decide +kernel⟩
theorem ml_X11_220 : MLV RX11 220 yX10_copyFrom cX10_copyFrom 2 none 1 := ⟨⟨wd_988, wd_989, wd_990, wd_37, wd_991⟩, by decide +kernel, by decide +kernel, by decide +kernel⟩
theorem ml_X11_224 : MLV RX11 224 yX9_record cX9_record 6 none 2 := ⟨⟨wd_1006, wd_1007, wd_1008, wd_35, wd_1009⟩, by decide +kernel, by decide +kernel, by decide +kernel⟩
theorem ml_X11_228 : MLV RX11 228 yX9_turn cX9_turn 2 (some .boolean) 0 := ⟨⟨wd_1029, wd_1030, wd_1031, wd_35, wd_1032⟩, by decide +kernel, by decide +kernel, by decide +kernel⟩
theorem ml_X11_238 : MLV RX11 238 yX11_needVariable cX11_needVariable 2 none 1 := ⟨⟨wd_1045, wd_1047, wd_30, wd_33, wd_1048⟩, by decide +kernel, by decide +kernel, by decide +kernel⟩
theorem ml_X11_241 : MLV RX11 241 yX8_form cX8_form 4 (some .int) 1 := ⟨⟨wd_1049, wd_806, wd_807, wd_38, wd_808⟩, by decide +kernel, by decide +kernel, by decide +kernel⟩
theorem ml_X11_251 : MLV RX11 251 yX11_needToken cX11_needToken 2 none 1 := ⟨⟨wd_1058, wd_1060, wd_31, wd_33, wd_1061⟩, by decide +kernel, by decide +kernel, by decide +kernel⟩
theorem ml_X11_279 : MLS RX11 279 yX8_isIn cX8_isIn 5 (some .boolean) 3 := ⟨⟨wd_1068, wd_853, wd_38, wd_854⟩, by decide +kernel, by decide +kernel, by decide +kernel⟩
set_option maxRecDepth 100000 in
theorem tx_60_64 : TX RX11 60 64 0 := ⟨⟨by decide +kernel, by decide +kernel⟩, ⟨wd_524, wd_49⟩, fun w hw => List.mem_filter.mpr ⟨(by decide +kernel : ∀ w ∈ (vx_atS RX11 64 (xname 0) xch).filter goodWord, w ∈ lw_tbl) w hw, (List.mem_filter.mp hw).2⟩, by decide +kernel, by decide +kernel⟩
set_option maxRecDepth 100000 in
theorem tx_103_107 : TX RX11 103 107 1 := ⟨⟨by decide +kernel, by decide +kernel⟩, ⟨wd_616, wd_50⟩, fun w hw => List.mem_filter.mpr ⟨(by decide +kernel : ∀ w ∈ (vx_atS RX11 107 (xname 1) xch).filter goodWord, w ∈ lw_tbl) w hw, (List.mem_filter.mp hw).2⟩, by decide +kernel, by decide +kernel⟩
set_option maxRecDepth 100000 in
theorem tx_175_179 : TX RX11 175 179 2 := ⟨⟨by decide +kernel, by decide +kernel⟩, ⟨wd_660, wd_51⟩, fun w hw => List.mem_filter.mpr ⟨(by decide +kernel : ∀ w ∈ (vx_atS RX11 179 (xname 2) xch).filter goodWord, w ∈ lw_tbl) w hw, (List.mem_filter.mp hw).2⟩, by decide +kernel, by decide +kernel⟩
