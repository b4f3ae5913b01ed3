/-! printed: words by their places, constants, fields, calls -/
theorem wd_42 : Cond.initialized yX3_init.cls ∈ lwg := tb_1 (List.mem_of_getElem? (i := 10) rfl) rfl
theorem wd_59 : Cond.methodLink RX11 1 Lib.objectInit ∈ lwg := tb_1 (List.mem_of_getElem? (i := 27) rfl) rfl
theorem wd_60 : Cond.instanceMethod Lib.objectInit ∈ lwg := tb_1 (List.mem_of_getElem? (i := 28) rfl) rfl
theorem wd_61 : Cond.code Lib.objectInit ⟨#[0xb1]⟩ 1 none ∈ lwg := tb_1 (List.mem_of_getElem? (i := 29) rfl) rfl
theorem wd_62 : Cond.classLink RX11 7 RX5 ∈ lwg := tb_1 (List.mem_of_getElem? (i := 30) rfl) rfl
theorem wd_63 : Cond.instantiable RX5 7 ∈ lwg := tb_1 (List.mem_of_getElem? (i := 31) rfl) rfl
theorem wd_65 : Cond.instanceMethod yX5_init ∈ lwg := tb_1 (List.mem_of_getElem? (i := 33) rfl) rfl
theorem wd_66 : Cond.code yX5_init cX5_init 1 none ∈ lwg := tb_1 (List.mem_of_getElem? (i := 34) rfl) rfl
theorem wd_67 : Cond.methodLink RX5 3 Lib.objectInit ∈ lwg := tb_1 (List.mem_of_getElem? (i := 35) rfl) rfl
theorem wd_97 : Cond.arrayClass .int ∈ lwg := tb_1 (List.mem_of_getElem? (i := 65) rfl) rfl
theorem wd_98 : Cond.classLink RX11 16 RX7 ∈ lwg := tb_1 (List.mem_of_getElem? (i := 66) rfl) rfl
theorem wd_100 : Cond.classLink RX11 22 RX9 ∈ lwg := tb_1 (List.mem_of_getElem? (i := 68) rfl) rfl
theorem wd_101 : Cond.instantiable RX9 6 ∈ lwg := tb_1 (List.mem_of_getElem? (i := 69) rfl) rfl
theorem wd_103 : Cond.instanceMethod yX9_init ∈ lwg := tb_1 (List.mem_of_getElem? (i := 71) rfl) rfl
theorem wd_104 : Cond.code yX9_init cX9_init 1 none ∈ lwg := tb_1 (List.mem_of_getElem? (i := 72) rfl) rfl
theorem wd_105 : Cond.methodLink RX9 3 Lib.objectInit ∈ lwg := tb_1 (List.mem_of_getElem? (i := 73) rfl) rfl
theorem wd_126 : Cond.instantiable RX7 12 ∈ lwg := tb_1 (List.mem_of_getElem? (i := 94) rfl) rfl
theorem wd_128 : Cond.instanceMethod yX7_init ∈ lwg := tb_1 (List.mem_of_getElem? (i := 96) rfl) rfl
theorem wd_129 : Cond.code yX7_init cX7_init 1 none ∈ lwg := tb_1 (List.mem_of_getElem? (i := 97) rfl) rfl
theorem wd_130 : Cond.methodLink RX7 3 Lib.objectInit ∈ lwg := tb_1 (List.mem_of_getElem? (i := 98) rfl) rfl
theorem wd_131 : Cond.fieldLink RX7 9 "Tellcourt$Rule" "sorts" "[I" ∈ lwg := tb_1 (List.mem_of_getElem? (i := 99) rfl) rfl
theorem wd_133 : Cond.fieldLink RX7 15 "Tellcourt$Rule" "patterns" "[I" ∈ lwg := tb_1 (List.mem_of_getElem? (i := 101) rfl) rfl
theorem wd_137 : Cond.fieldLink RX7 22 "Tellcourt$Rule" "bodySorts" "[I" ∈ lwg := tb_1 (List.mem_of_getElem? (i := 105) rfl) rfl
theorem wd_139 : Cond.fieldLink RX7 25 "Tellcourt$Rule" "bodyTerms" "[I" ∈ lwg := tb_1 (List.mem_of_getElem? (i := 107) rfl) rfl
theorem wd_173 : Cond.arrayClass .boolean ∈ lwg := tb_1 (List.mem_of_getElem? (i := 141) rfl) rfl
theorem wd_174 : Cond.classLink RX11 34 RX10 ∈ lwg := tb_1 (List.mem_of_getElem? (i := 142) rfl) rfl
theorem wd_175 : Cond.instantiable RX10 12 ∈ lwg := tb_1 (List.mem_of_getElem? (i := 143) rfl) rfl
theorem wd_176 : Cond.methodLink RX11 36 yX10_init ∈ lwg := tb_1 (List.mem_of_getElem? (i := 144) rfl) rfl
theorem wd_177 : Cond.instanceMethod yX10_init ∈ lwg := tb_1 (List.mem_of_getElem? (i := 145) rfl) rfl
theorem wd_178 : Cond.code yX10_init cX10_init 4 none ∈ lwg := tb_1 (List.mem_of_getElem? (i := 146) rfl) rfl
theorem wd_179 : Cond.methodLink RX10 3 Lib.objectInit ∈ lwg := tb_1 (List.mem_of_getElem? (i := 147) rfl) rfl
theorem wd_180 : Cond.classLink RX10 9 RX8 ∈ lwg := tb_1 (List.mem_of_getElem? (i := 148) rfl) rfl
theorem wd_181 : Cond.instantiable RX8 13 ∈ lwg := tb_1 (List.mem_of_getElem? (i := 149) rfl) rfl
theorem wd_183 : Cond.instanceMethod yX8_init ∈ lwg := tb_1 (List.mem_of_getElem? (i := 151) rfl) rfl
theorem wd_184 : Cond.code yX8_init cX8_init 1 none ∈ lwg := tb_1 (List.mem_of_getElem? (i := 152) rfl) rfl
theorem wd_185 : Cond.methodLink RX8 3 Lib.objectInit ∈ lwg := tb_1 (List.mem_of_getElem? (i := 153) rfl) rfl
theorem wd_258 : Cond.arrayClass .long ∈ lwg := tb_1 (List.mem_of_getElem? (i := 226) rfl) rfl
theorem wd_259 : Cond.classLink RX10 18 RX2 ∈ lwg := tb_1 (List.mem_of_getElem? (i := 227) rfl) rfl
theorem wd_260 : Cond.instantiable RX2 2 ∈ lwg := tb_1 (List.mem_of_getElem? (i := 228) rfl) rfl
theorem wd_262 : Cond.instanceMethod yX2_init ∈ lwg := tb_1 (List.mem_of_getElem? (i := 230) rfl) rfl
theorem wd_263 : Cond.code yX2_init cX2_init 1 none ∈ lwg := tb_1 (List.mem_of_getElem? (i := 231) rfl) rfl
theorem wd_264 : Cond.methodLink RX2 3 Lib.objectInit ∈ lwg := tb_1 (List.mem_of_getElem? (i := 232) rfl) rfl
theorem wd_275 : Cond.classLink RX10 32 RX4 ∈ lwg := tb_2 (List.mem_of_getElem? (i := 3) rfl) rfl
theorem wd_277 : Cond.classLink RX10 38 RX0 ∈ lwg := tb_2 (List.mem_of_getElem? (i := 5) rfl) rfl
theorem wd_278 : Cond.instantiable RX0 4 ∈ lwg := tb_2 (List.mem_of_getElem? (i := 6) rfl) rfl
theorem wd_280 : Cond.instanceMethod yX0_init ∈ lwg := tb_2 (List.mem_of_getElem? (i := 8) rfl) rfl
theorem wd_281 : Cond.code yX0_init cX0_init 1 none ∈ lwg := tb_2 (List.mem_of_getElem? (i := 9) rfl) rfl
theorem wd_282 : Cond.methodLink RX0 3 Lib.objectInit ∈ lwg := tb_2 (List.mem_of_getElem? (i := 10) rfl) rfl
theorem wd_304 : Cond.classLink RX10 49 RX6 ∈ lwg := tb_2 (List.mem_of_getElem? (i := 32) rfl) rfl
theorem wd_305 : Cond.instantiable RX6 10 ∈ lwg := tb_2 (List.mem_of_getElem? (i := 33) rfl) rfl
theorem wd_306 : Cond.methodLink RX10 51 yX6_init ∈ lwg := tb_2 (List.mem_of_getElem? (i := 34) rfl) rfl
theorem wd_307 : Cond.instanceMethod yX6_init ∈ lwg := tb_2 (List.mem_of_getElem? (i := 35) rfl) rfl
theorem wd_308 : Cond.code yX6_init cX6_init 4 none ∈ lwg := tb_2 (List.mem_of_getElem? (i := 36) rfl) rfl
theorem wd_309 : Cond.methodLink RX6 3 Lib.objectInit ∈ lwg := tb_2 (List.mem_of_getElem? (i := 37) rfl) rfl
theorem wd_310 : Cond.classLink RX6 11 RX3 ∈ lwg := tb_2 (List.mem_of_getElem? (i := 38) rfl) rfl
theorem wd_312 : Cond.instantiable RX3 9 ∈ lwg := tb_2 (List.mem_of_getElem? (i := 40) rfl) rfl
theorem wd_314 : Cond.instanceMethod yX3_init ∈ lwg := tb_2 (List.mem_of_getElem? (i := 42) rfl) rfl
theorem wd_315 : Cond.code yX3_init cX3_init 1 none ∈ lwg := tb_2 (List.mem_of_getElem? (i := 43) rfl) rfl
theorem wd_316 : Cond.methodLink RX3 3 Lib.objectInit ∈ lwg := tb_2 (List.mem_of_getElem? (i := 44) rfl) rfl
theorem wd_317 : Cond.fieldLink RX3 9 "Tellcourt$Frame" "binds" "[I" ∈ lwg := tb_2 (List.mem_of_getElem? (i := 45) rfl) rfl
theorem wd_379 : Cond.instantiable RX4 11 ∈ lwg := tb_2 (List.mem_of_getElem? (i := 107) rfl) rfl
theorem wd_381 : Cond.instanceMethod yX4_init ∈ lwg := tb_2 (List.mem_of_getElem? (i := 109) rfl) rfl
theorem wd_382 : Cond.code yX4_init cX4_init 1 none ∈ lwg := tb_2 (List.mem_of_getElem? (i := 110) rfl) rfl
theorem wd_383 : Cond.methodLink RX4 3 Lib.objectInit ∈ lwg := tb_2 (List.mem_of_getElem? (i := 111) rfl) rfl
theorem wd_384 : Cond.classLink RX4 9 RX1 ∈ lwg := tb_2 (List.mem_of_getElem? (i := 112) rfl) rfl
theorem wd_385 : Cond.instantiable RX1 5 ∈ lwg := tb_2 (List.mem_of_getElem? (i := 113) rfl) rfl
theorem wd_386 : Cond.methodLink RX4 11 yX1_init ∈ lwg := tb_2 (List.mem_of_getElem? (i := 114) rfl) rfl
theorem wd_387 : Cond.instanceMethod yX1_init ∈ lwg := tb_2 (List.mem_of_getElem? (i := 115) rfl) rfl
theorem wd_388 : Cond.code yX1_init cX1_init 2 none ∈ lwg := tb_2 (List.mem_of_getElem? (i := 116) rfl) rfl
theorem wd_389 : Cond.methodLink RX1 3 Lib.objectInit ∈ lwg := tb_2 (List.mem_of_getElem? (i := 117) rfl) rfl
theorem wd_416 : Cond.fieldLink RX4 29 "Tellcourt$Level" "otherwise" "LTellcourt$AgentList;" ∈ lwg := tb_2 (List.mem_of_getElem? (i := 144) rfl) rfl
theorem wd_418 : Cond.fieldLink RX4 32 "Tellcourt$Level" "classOf" "[I" ∈ lwg := tb_2 (List.mem_of_getElem? (i := 146) rfl) rfl
theorem wd_420 : Cond.fieldLink RX4 36 "Tellcourt$Level" "values" "[I" ∈ lwg := tb_2 (List.mem_of_getElem? (i := 148) rfl) rfl
theorem wd_422 : Cond.fieldLink RX4 39 "Tellcourt$Level" "stands" "[Z" ∈ lwg := tb_2 (List.mem_of_getElem? (i := 150) rfl) rfl
theorem wd_497 : Cond.fieldLink RX11 18 "Tellcourt" "rules" "[LTellcourt$Rule;" ∈ lwg := tb_2 (List.mem_of_getElem? (i := 225) rfl) rfl
theorem ib_120 : (Int8.ofInt (120)).toInt32 = 120 := by decide +kernel
theorem is_1600 : (Int16.ofInt (1600)).toInt32 = 1600 := by decide +kernel
theorem ib_61 : (Int8.ofInt (61)).toInt32 = 61 := by decide +kernel
theorem is_1296 : (Int16.ofInt (1296)).toInt32 = 1296 := by decide +kernel
theorem is_2048 : (Int16.ofInt (2048)).toInt32 = 2048 := by decide +kernel
theorem fl_X3_9 : FL RX3 9 3 0 3 := ⟨cf_3, by decide, by decide, wd_317, by decide +kernel⟩
theorem fl_X4_29 : FL RX4 29 4 4 3 := ⟨cf_4, by decide, by decide, wd_416, by decide +kernel⟩
theorem fl_X4_32 : FL RX4 32 4 5 3 := ⟨cf_4, by decide, by decide, wd_418, by decide +kernel⟩
theorem fl_X4_36 : FL RX4 36 4 6 3 := ⟨cf_4, by decide, by decide, wd_420, by decide +kernel⟩
theorem fl_X4_39 : FL RX4 39 4 7 3 := ⟨cf_4, by decide, by decide, wd_422, by decide +kernel⟩
theorem fl_X7_9 : FL RX7 9 7 0 3 := ⟨cf_7, by decide, by decide, wd_131, by decide +kernel⟩
theorem fl_X7_15 : FL RX7 15 7 1 3 := ⟨cf_7, by decide, by decide, wd_133, by decide +kernel⟩
theorem fl_X7_22 : FL RX7 22 7 3 3 := ⟨cf_7, by decide, by decide, wd_137, by decide +kernel⟩
theorem fl_X7_25 : FL RX7 25 7 4 3 := ⟨cf_7, by decide, by decide, wd_139, by decide +kernel⟩
theorem fl_X11_18 : FL RX11 18 11 1 3 := ⟨cf_11, by decide, by decide, wd_497, by decide +kernel⟩
theorem nw_X4_9 : NW RX4 9 1 := ⟨cf_1, by decide, wd_384, wd_385, wd_44, by decide +kernel⟩
theorem nw_X6_11 : NW RX6 11 3 := ⟨cf_3, by decide, wd_310, wd_312, wd_42, by decide +kernel⟩
theorem nw_X10_9 : NW RX10 9 8 := ⟨cf_8, by decide, wd_180, wd_181, wd_38, by decide +kernel⟩
theorem nw_X10_18 : NW RX10 18 2 := ⟨cf_2, by decide, wd_259, wd_260, wd_39, by decide +kernel⟩
theorem nw_X10_38 : NW RX10 38 0 := ⟨cf_0, by decide, wd_277, wd_278, wd_40, by decide +kernel⟩
theorem nw_X10_49 : NW RX10 49 6 := ⟨cf_6, by decide, wd_304, wd_305, wd_41, by decide +kernel⟩
theorem nw_X10_32 : NW RX10 32 4 := ⟨cf_4, by decide, wd_275, wd_379, wd_43, by decide +kernel⟩
theorem nw_X11_7 : NW RX11 7 5 := ⟨cf_5, by decide, wd_62, wd_63, wd_34, by decide +kernel⟩
theorem nw_X11_22 : NW RX11 22 9 := ⟨cf_9, by decide, wd_100, wd_101, wd_35, by decide +kernel⟩
theorem nw_X11_34 : NW RX11 34 10 := ⟨cf_10, by decide, wd_174, wd_175, wd_37, by decide +kernel⟩
theorem nw_X11_16 : NW RX11 16 7 := ⟨cf_7, by decide, wd_98, wd_126, wd_36, by decide +kernel⟩
theorem fr_X0_9 : FR RX0 9 0 0 := ⟨cf_0, by decide, by decide, wd_283, by decide +kernel, rfl, rfl, (.array .int), by decide +kernel, fun a => ⟨rfl, rfl⟩⟩
theorem fr_X1_15 : FR RX1 15 1 1 := ⟨cf_1, by decide, by decide, wd_391, by decide +kernel, rfl, rfl, (.array .int), by decide +kernel, fun a => ⟨rfl, rfl⟩⟩
theorem fr_X1_19 : FR RX1 19 1 2 := ⟨cf_1, by decide, by decide, wd_392, by decide +kernel, rfl, rfl, (.array .int), by decide +kernel, fun a => ⟨rfl, rfl⟩⟩
theorem fr_X1_22 : FR RX1 22 1 3 := ⟨cf_1, by decide, by decide, wd_393, by decide +kernel, rfl, rfl, (.array .long), by decide +kernel, fun a => ⟨rfl, rfl⟩⟩
theorem fr_X2_15 : FR RX2 15 2 0 := ⟨cf_2, by decide, by decide, wd_267, by decide +kernel, rfl, rfl, (.array .int), by decide +kernel, fun a => ⟨rfl, rfl⟩⟩
theorem fr_X3_9 : FR RX3 9 3 0 := ⟨cf_3, by decide, by decide, wd_317, by decide +kernel, rfl, rfl, (.array .int), by decide +kernel, fun a => ⟨rfl, rfl⟩⟩
theorem fr_X4_14 : FR RX4 14 4 0 := ⟨cf_4, by decide, by decide, wd_408, by decide +kernel, rfl, rfl, (.object "Tellcourt$AgentList"), by decide +kernel, fun a => ⟨rfl, rfl⟩⟩
theorem fr_X4_20 : FR RX4 20 4 1 := ⟨cf_4, by decide, by decide, wd_410, by decide +kernel, rfl, rfl, (.object "Tellcourt$AgentList"), by decide +kernel, fun a => ⟨rfl, rfl⟩⟩
theorem fr_X4_23 : FR RX4 23 4 2 := ⟨cf_4, by decide, by decide, wd_412, by decide +kernel, rfl, rfl, (.object "Tellcourt$AgentList"), by decide +kernel, fun a => ⟨rfl, rfl⟩⟩
theorem fr_X4_26 : FR RX4 26 4 3 := ⟨cf_4, by decide, by decide, wd_414, by decide +kernel, rfl, rfl, (.object "Tellcourt$AgentList"), by decide +kernel, fun a => ⟨rfl, rfl⟩⟩
theorem fr_X4_29 : FR RX4 29 4 4 := ⟨cf_4, by decide, by decide, wd_416, by decide +kernel, rfl, rfl, (.object "Tellcourt$AgentList"), by decide +kernel, fun a => ⟨rfl, rfl⟩⟩
theorem fr_X4_32 : FR RX4 32 4 5 := ⟨cf_4, by decide, by decide, wd_418, by decide +kernel, rfl, rfl, (.array .int), by decide +kernel, fun a => ⟨rfl, rfl⟩⟩
theorem fr_X4_36 : FR RX4 36 4 6 := ⟨cf_4, by decide, by decide, wd_420, by decide +kernel, rfl, rfl, (.array .int), by decide +kernel, fun a => ⟨rfl, rfl⟩⟩
theorem fr_X4_39 : FR RX4 39 4 7 := ⟨cf_4, by decide, by decide, wd_422, by decide +kernel, rfl, rfl, (.array .boolean), by decide +kernel, fun a => ⟨rfl, rfl⟩⟩
theorem fr_X5_9 : FR RX5 9 5 0 := ⟨cf_5, by decide, by decide, wd_68, by decide +kernel, rfl, rfl, (.array .int), by decide +kernel, fun a => ⟨rfl, rfl⟩⟩
theorem fr_X5_15 : FR RX5 15 5 1 := ⟨cf_5, by decide, by decide, wd_70, by decide +kernel, rfl, rfl, (.array .int), by decide +kernel, fun a => ⟨rfl, rfl⟩⟩
theorem fr_X5_18 : FR RX5 18 5 2 := ⟨cf_5, by decide, by decide, wd_72, by decide +kernel, rfl, rfl, (.array .int), by decide +kernel, fun a => ⟨rfl, rfl⟩⟩
theorem fr_X5_21 : FR RX5 21 5 3 := ⟨cf_5, by decide, by decide, wd_74, by decide +kernel, rfl, rfl, (.array .int), by decide +kernel, fun a => ⟨rfl, rfl⟩⟩
theorem fr_X5_24 : FR RX5 24 5 4 := ⟨cf_5, by decide, by decide, wd_76, by decide +kernel, rfl, rfl, (.array .int), by decide +kernel, fun a => ⟨rfl, rfl⟩⟩
theorem fr_X5_27 : FR RX5 27 5 5 := ⟨cf_5, by decide, by decide, wd_78, by decide +kernel, rfl, rfl, (.array .int), by decide +kernel, fun a => ⟨rfl, rfl⟩⟩
theorem fr_X6_13 : FR RX6 13 6 2 := ⟨cf_6, by decide, by decide, wd_348, by decide +kernel, rfl, rfl, (.array (.object "Tellcourt$Frame")), by decide +kernel, fun a => ⟨rfl, rfl⟩⟩
theorem fr_X6_17 : FR RX6 17 6 4 := ⟨cf_6, by decide, by decide, wd_350, by decide +kernel, rfl, rfl, (.array .int), by decide +kernel, fun a => ⟨rfl, rfl⟩⟩
theorem fr_X6_21 : FR RX6 21 6 5 := ⟨cf_6, by decide, by decide, wd_351, by decide +kernel, rfl, rfl, (.array .long), by decide +kernel, fun a => ⟨rfl, rfl⟩⟩
theorem fr_X6_25 : FR RX6 25 6 6 := ⟨cf_6, by decide, by decide, wd_352, by decide +kernel, rfl, rfl, (.array .int), by decide +kernel, fun a => ⟨rfl, rfl⟩⟩
theorem fr_X6_28 : FR RX6 28 6 8 := ⟨cf_6, by decide, by decide, wd_355, by decide +kernel, rfl, rfl, (.array .int), by decide +kernel, fun a => ⟨rfl, rfl⟩⟩
theorem fr_X6_31 : FR RX6 31 6 0 := ⟨cf_6, by decide, by decide, wd_346, by decide +kernel, rfl, rfl, (.object "Tellcourt$Store"), by decide +kernel, fun a => ⟨rfl, rfl⟩⟩
theorem fr_X6_35 : FR RX6 35 6 1 := ⟨cf_6, by decide, by decide, wd_347, by decide +kernel, rfl, rfl, (.array (.object "Tellcourt$Rule")), by decide +kernel, fun a => ⟨rfl, rfl⟩⟩
theorem fr_X7_9 : FR RX7 9 7 0 := ⟨cf_7, by decide, by decide, wd_131, by decide +kernel, rfl, rfl, (.array .int), by decide +kernel, fun a => ⟨rfl, rfl⟩⟩
theorem fr_X7_15 : FR RX7 15 7 1 := ⟨cf_7, by decide, by decide, wd_133, by decide +kernel, rfl, rfl, (.array .int), by decide +kernel, fun a => ⟨rfl, rfl⟩⟩
theorem fr_X7_18 : FR RX7 18 7 2 := ⟨cf_7, by decide, by decide, wd_135, by decide +kernel, rfl, rfl, (.array .boolean), by decide +kernel, fun a => ⟨rfl, rfl⟩⟩
theorem fr_X7_22 : FR RX7 22 7 3 := ⟨cf_7, by decide, by decide, wd_137, by decide +kernel, rfl, rfl, (.array .int), by decide +kernel, fun a => ⟨rfl, rfl⟩⟩
theorem fr_X7_25 : FR RX7 25 7 4 := ⟨cf_7, by decide, by decide, wd_139, by decide +kernel, rfl, rfl, (.array .int), by decide +kernel, fun a => ⟨rfl, rfl⟩⟩
theorem fr_X8_9 : FR RX8 9 8 0 := ⟨cf_8, by decide, by decide, wd_186, by decide +kernel, rfl, rfl, (.array .int), by decide +kernel, fun a => ⟨rfl, rfl⟩⟩
theorem fr_X8_15 : FR RX8 15 8 1 := ⟨cf_8, by decide, by decide, wd_187, by decide +kernel, rfl, rfl, (.array .int), by decide +kernel, fun a => ⟨rfl, rfl⟩⟩
theorem fr_X8_18 : FR RX8 18 8 3 := ⟨cf_8, by decide, by decide, wd_190, by decide +kernel, rfl, rfl, (.array .int), by decide +kernel, fun a => ⟨rfl, rfl⟩⟩
theorem fr_X8_21 : FR RX8 21 8 4 := ⟨cf_8, by decide, by decide, wd_194, by decide +kernel, rfl, rfl, (.array .int), by decide +kernel, fun a => ⟨rfl, rfl⟩⟩
theorem fr_X8_24 : FR RX8 24 8 5 := ⟨cf_8, by decide, by decide, wd_198, by decide +kernel, rfl, rfl, (.array .int), by decide +kernel, fun a => ⟨rfl, rfl⟩⟩
theorem fr_X8_27 : FR RX8 27 8 6 := ⟨cf_8, by decide, by decide, wd_202, by decide +kernel, rfl, rfl, (.array .boolean), by decide +kernel, fun a => ⟨rfl, rfl⟩⟩
theorem fr_X8_31 : FR RX8 31 8 7 := ⟨cf_8, by decide, by decide, wd_206, by decide +kernel, rfl, rfl, (.array .boolean), by decide +kernel, fun a => ⟨rfl, rfl⟩⟩
theorem fr_X8_34 : FR RX8 34 8 8 := ⟨cf_8, by decide, by decide, wd_210, by decide +kernel, rfl, rfl, (.array .long), by decide +kernel, fun a => ⟨rfl, rfl⟩⟩
theorem fr_X8_38 : FR RX8 38 8 9 := ⟨cf_8, by decide, by decide, wd_214, by decide +kernel, rfl, rfl, (.array .long), by decide +kernel, fun a => ⟨rfl, rfl⟩⟩
theorem fr_X9_9 : FR RX9 9 9 0 := ⟨cf_9, by decide, by decide, wd_106, by decide +kernel, rfl, rfl, (.array .int), by decide +kernel, fun a => ⟨rfl, rfl⟩⟩
theorem fr_X9_15 : FR RX9 15 9 1 := ⟨cf_9, by decide, by decide, wd_107, by decide +kernel, rfl, rfl, (.array .int), by decide +kernel, fun a => ⟨rfl, rfl⟩⟩
theorem fr_X9_18 : FR RX9 18 9 4 := ⟨cf_9, by decide, by decide, wd_110, by decide +kernel, rfl, rfl, (.array .int), by decide +kernel, fun a => ⟨rfl, rfl⟩⟩
theorem fr_X10_12 : FR RX10 12 10 1 := ⟨cf_10, by decide, by decide, wd_454, by decide +kernel, rfl, rfl, (.object "Tellcourt$Store"), by decide +kernel, fun a => ⟨rfl, rfl⟩⟩
theorem fr_X10_21 : FR RX10 21 10 3 := ⟨cf_10, by decide, by decide, wd_458, by decide +kernel, rfl, rfl, (.object "Tellcourt$Draws"), by decide +kernel, fun a => ⟨rfl, rfl⟩⟩
theorem fr_X10_25 : FR RX10 25 10 4 := ⟨cf_10, by decide, by decide, wd_460, by decide +kernel, rfl, rfl, (.array .int), by decide +kernel, fun a => ⟨rfl, rfl⟩⟩
theorem fr_X10_29 : FR RX10 29 10 5 := ⟨cf_10, by decide, by decide, wd_462, by decide +kernel, rfl, rfl, (.array .int), by decide +kernel, fun a => ⟨rfl, rfl⟩⟩
theorem fr_X10_34 : FR RX10 34 10 6 := ⟨cf_10, by decide, by decide, wd_463, by decide +kernel, rfl, rfl, (.array (.object "Tellcourt$Level")), by decide +kernel, fun a => ⟨rfl, rfl⟩⟩
theorem fr_X10_41 : FR RX10 41 10 7 := ⟨cf_10, by decide, by decide, wd_464, by decide +kernel, rfl, rfl, (.object "Tellcourt$Agent"), by decide +kernel, fun a => ⟨rfl, rfl⟩⟩
theorem fr_X10_45 : FR RX10 45 10 0 := ⟨cf_10, by decide, by decide, wd_453, by decide +kernel, rfl, rfl, (.object "Tellcourt$Nodes"), by decide +kernel, fun a => ⟨rfl, rfl⟩⟩
theorem fr_X10_54 : FR RX10 54 10 2 := ⟨cf_10, by decide, by decide, wd_456, by decide +kernel, rfl, rfl, (.object "Tellcourt$Rewriter"), by decide +kernel, fun a => ⟨rfl, rfl⟩⟩
theorem fr_X11_10 : FR RX11 10 11 0 := ⟨cf_11, by decide, by decide, wd_496, by decide +kernel, rfl, rfl, (.object "Tellcourt$Nodes"), by decide +kernel, fun a => ⟨rfl, rfl⟩⟩
theorem fr_X11_18 : FR RX11 18 11 1 := ⟨cf_11, by decide, by decide, wd_497, by decide +kernel, rfl, rfl, (.array (.object "Tellcourt$Rule")), by decide +kernel, fun a => ⟨rfl, rfl⟩⟩
theorem fr_X11_25 : FR RX11 25 11 4 := ⟨cf_11, by decide, by decide, wd_500, by decide +kernel, rfl, rfl, (.object "Tellcourt$Survey"), by decide +kernel, fun a => ⟨rfl, rfl⟩⟩
theorem fr_X11_29 : FR RX11 29 11 5 := ⟨cf_11, by decide, by decide, wd_501, by decide +kernel, rfl, rfl, (.array .int), by decide +kernel, fun a => ⟨rfl, rfl⟩⟩
theorem fr_X11_39 : FR RX11 39 11 2 := ⟨cf_11, by decide, by decide, wd_498, by decide +kernel, rfl, rfl, (.object "Tellcourt$World"), by decide +kernel, fun a => ⟨rfl, rfl⟩⟩
theorem fr_X11_43 : FR RX11 43 11 3 := ⟨cf_11, by decide, by decide, wd_499, by decide +kernel, rfl, rfl, (.object "Tellcourt$World"), by decide +kernel, fun a => ⟨rfl, rfl⟩⟩
theorem mo_X0_3 : MO RX0 3 := ⟨wd_282, wd_60, wd_61⟩
theorem mo_X1_3 : MO RX1 3 := ⟨wd_389, wd_60, wd_61⟩
theorem mo_X2_3 : MO RX2 3 := ⟨wd_264, wd_60, wd_61⟩
theorem mo_X3_3 : MO RX3 3 := ⟨wd_316, wd_60, wd_61⟩
theorem mo_X4_3 : MO RX4 3 := ⟨wd_383, wd_60, wd_61⟩
theorem mo_X5_3 : MO RX5 3 := ⟨wd_67, wd_60, wd_61⟩
theorem mo_X6_3 : MO RX6 3 := ⟨wd_309, wd_60, wd_61⟩
theorem mo_X7_3 : MO RX7 3 := ⟨wd_130, wd_60, wd_61⟩
theorem mo_X8_3 : MO RX8 3 := ⟨wd_185, wd_60, wd_61⟩
theorem mo_X9_3 : MO RX9 3 := ⟨wd_105, wd_60, wd_61⟩
theorem mo_X10_3 : MO RX10 3 := ⟨wd_179, wd_60, wd_61⟩
theorem mo_X11_1 : MO RX11 1 := ⟨wd_59, wd_60, wd_61⟩
theorem mi_X4_11 : MLI RX4 11 yX1_init cX1_init 2 1 := ⟨⟨.inl wd_386, wd_387, wd_44, wd_388⟩, by decide +kernel, by decide +kernel, by decide +kernel, rfl⟩
theorem mi_X6_39 : MLI RX6 39 yX3_init cX3_init 1 0 := ⟨⟨.inr (List.mem_of_getElem? (i := 6) rfl), wd_314, wd_42, wd_315⟩, by decide +kernel, by decide +kernel, by decide +kernel, rfl⟩
theorem mi_X10_11 : MLI RX10 11 yX8_init cX8_init 1 0 := ⟨⟨.inr (List.mem_of_getElem? (i := 3) rfl), wd_183, wd_38, wd_184⟩, by decide +kernel, by decide +kernel, by decide +kernel, rfl⟩
theorem mi_X10_20 : MLI RX10 20 yX2_init cX2_init 1 0 := ⟨⟨.inr (List.mem_of_getElem? (i := 4) rfl), wd_262, wd_39, wd_263⟩, by decide +kernel, by decide +kernel, by decide +kernel, rfl⟩
theorem mi_X10_40 : MLI RX10 40 yX0_init cX0_init 1 0 := ⟨⟨.inr (List.mem_of_getElem? (i := 5) rfl), wd_280, wd_40, wd_281⟩, by decide +kernel, by decide +kernel, by decide +kernel, rfl⟩
theorem mi_X10_51 : MLI RX10 51 yX6_init cX6_init 4 2 := ⟨⟨.inl wd_306, wd_307, wd_41, wd_308⟩, by decide +kernel, by decide +kernel, by decide +kernel, rfl⟩
theorem mi_X10_58 : MLI RX10 58 yX4_init cX4_init 1 0 := ⟨⟨.inr (List.mem_of_getElem? (i := 7) rfl), wd_381, wd_43, wd_382⟩, by decide +kernel, by decide +kernel, by decide +kernel, rfl⟩
theorem mi_X11_9 : MLI RX11 9 yX5_init cX5_init 1 0 := ⟨⟨.inr (List.mem_of_getElem? (i := 0) rfl), wd_65, wd_34, wd_66⟩, by decide +kernel, by decide +kernel, by decide +kernel, rfl⟩
theorem mi_X11_24 : MLI RX11 24 yX9_init cX9_init 1 0 := ⟨⟨.inr (List.mem_of_getElem? (i := 1) rfl), wd_103, wd_35, wd_104⟩, by decide +kernel, by decide +kernel, by decide +kernel, rfl⟩
theorem mi_X11_36 : MLI RX11 36 yX10_init cX10_init 4 2 := ⟨⟨.inl wd_176, wd_177, wd_37, wd_178⟩, by decide +kernel, by decide +kernel, by decide +kernel, rfl⟩
theorem mi_X11_33 : MLI RX11 33 yX7_init cX7_init 1 0 := ⟨⟨.inr (List.mem_of_getElem? (i := 2) rfl), wd_128, wd_36, wd_129⟩, by decide +kernel, by decide +kernel, by decide +kernel, rfl⟩
