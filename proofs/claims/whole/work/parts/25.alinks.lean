/-! printed: words by their places, constants, fields, calls -/
theorem wd_104 : Cond.initialized yX3_init.cls ∈ lwg := tb_1 (List.mem_of_getElem? (i := 10) rfl) rfl
theorem wd_132 : Cond.methodLink RX11 1 Lib.objectInit ∈ lwg := tb_1 (List.mem_of_getElem? (i := 38) rfl) rfl
theorem wd_133 : Cond.instanceMethod Lib.objectInit ∈ lwg := tb_1 (List.mem_of_getElem? (i := 39) rfl) rfl
theorem wd_134 : Cond.code Lib.objectInit ⟨#[0xb1]⟩ 1 none ∈ lwg := tb_1 (List.mem_of_getElem? (i := 40) rfl) rfl
theorem wd_135 : Cond.classLink RX11 7 RX5 ∈ lwg := tb_1 (List.mem_of_getElem? (i := 41) rfl) rfl
theorem wd_136 : Cond.instantiable RX5 7 ∈ lwg := tb_1 (List.mem_of_getElem? (i := 42) rfl) rfl
theorem wd_138 : Cond.instanceMethod yX5_init ∈ lwg := tb_1 (List.mem_of_getElem? (i := 44) rfl) rfl
theorem wd_139 : Cond.code yX5_init cX5_init 1 none ∈ lwg := tb_1 (List.mem_of_getElem? (i := 45) rfl) rfl
theorem wd_140 : Cond.methodLink RX5 3 Lib.objectInit ∈ lwg := tb_1 (List.mem_of_getElem? (i := 46) rfl) rfl
theorem wd_171 : Cond.arrayClass .int ∈ lwg := tb_1 (List.mem_of_getElem? (i := 77) rfl) rfl
theorem wd_172 : Cond.classLink RX11 16 RX7 ∈ lwg := tb_1 (List.mem_of_getElem? (i := 78) rfl) rfl
theorem wd_174 : Cond.classLink RX11 22 RX9 ∈ lwg := tb_1 (List.mem_of_getElem? (i := 80) rfl) rfl
theorem wd_175 : Cond.instantiable RX9 6 ∈ lwg := tb_1 (List.mem_of_getElem? (i := 81) rfl) rfl
theorem wd_177 : Cond.instanceMethod yX9_init ∈ lwg := tb_1 (List.mem_of_getElem? (i := 83) rfl) rfl
theorem wd_178 : Cond.code yX9_init cX9_init 1 none ∈ lwg := tb_1 (List.mem_of_getElem? (i := 84) rfl) rfl
theorem wd_179 : Cond.methodLink RX9 3 Lib.objectInit ∈ lwg := tb_1 (List.mem_of_getElem? (i := 85) rfl) rfl
theorem wd_200 : Cond.instantiable RX7 12 ∈ lwg := tb_1 (List.mem_of_getElem? (i := 106) rfl) rfl
theorem wd_202 : Cond.instanceMethod yX7_init ∈ lwg := tb_1 (List.mem_of_getElem? (i := 108) rfl) rfl
theorem wd_203 : Cond.code yX7_init cX7_init 1 none ∈ lwg := tb_1 (List.mem_of_getElem? (i := 109) rfl) rfl
theorem wd_204 : Cond.methodLink RX7 3 Lib.objectInit ∈ lwg := tb_1 (List.mem_of_getElem? (i := 110) rfl) rfl
theorem wd_256 : Cond.arrayClass .boolean ∈ lwg := tb_1 (List.mem_of_getElem? (i := 162) rfl) rfl
theorem wd_257 : Cond.classLink RX11 34 RX10 ∈ lwg := tb_1 (List.mem_of_getElem? (i := 163) rfl) rfl
theorem wd_258 : Cond.instantiable RX10 12 ∈ lwg := tb_1 (List.mem_of_getElem? (i := 164) rfl) rfl
theorem wd_259 : Cond.methodLink RX11 36 yX10_init ∈ lwg := tb_1 (List.mem_of_getElem? (i := 165) rfl) rfl
theorem wd_260 : Cond.instanceMethod yX10_init ∈ lwg := tb_1 (List.mem_of_getElem? (i := 166) rfl) rfl
theorem wd_261 : Cond.code yX10_init cX10_init 4 none ∈ lwg := tb_1 (List.mem_of_getElem? (i := 167) rfl) rfl
theorem wd_262 : Cond.methodLink RX10 3 Lib.objectInit ∈ lwg := tb_1 (List.mem_of_getElem? (i := 168) rfl) rfl
theorem wd_263 : Cond.classLink RX10 9 RX8 ∈ lwg := tb_1 (List.mem_of_getElem? (i := 169) rfl) rfl
theorem wd_264 : Cond.instantiable RX8 13 ∈ lwg := tb_1 (List.mem_of_getElem? (i := 170) rfl) rfl
theorem wd_266 : Cond.instanceMethod yX8_init ∈ lwg := tb_1 (List.mem_of_getElem? (i := 172) rfl) rfl
theorem wd_267 : Cond.code yX8_init cX8_init 1 none ∈ lwg := tb_1 (List.mem_of_getElem? (i := 173) rfl) rfl
theorem wd_268 : Cond.methodLink RX8 3 Lib.objectInit ∈ lwg := tb_1 (List.mem_of_getElem? (i := 174) rfl) rfl
theorem wd_342 : Cond.arrayClass .long ∈ lwg := tb_2 (List.mem_of_getElem? (i := 8) rfl) rfl
theorem wd_343 : Cond.classLink RX10 18 RX2 ∈ lwg := tb_2 (List.mem_of_getElem? (i := 9) rfl) rfl
theorem wd_344 : Cond.instantiable RX2 2 ∈ lwg := tb_2 (List.mem_of_getElem? (i := 10) rfl) rfl
theorem wd_346 : Cond.instanceMethod yX2_init ∈ lwg := tb_2 (List.mem_of_getElem? (i := 12) rfl) rfl
theorem wd_347 : Cond.code yX2_init cX2_init 1 none ∈ lwg := tb_2 (List.mem_of_getElem? (i := 13) rfl) rfl
theorem wd_348 : Cond.methodLink RX2 3 Lib.objectInit ∈ lwg := tb_2 (List.mem_of_getElem? (i := 14) rfl) rfl
theorem wd_359 : Cond.classLink RX10 32 RX4 ∈ lwg := tb_2 (List.mem_of_getElem? (i := 25) rfl) rfl
theorem wd_361 : Cond.classLink RX10 38 RX0 ∈ lwg := tb_2 (List.mem_of_getElem? (i := 27) rfl) rfl
theorem wd_362 : Cond.instantiable RX0 4 ∈ lwg := tb_2 (List.mem_of_getElem? (i := 28) rfl) rfl
theorem wd_364 : Cond.instanceMethod yX0_init ∈ lwg := tb_2 (List.mem_of_getElem? (i := 30) rfl) rfl
theorem wd_365 : Cond.code yX0_init cX0_init 1 none ∈ lwg := tb_2 (List.mem_of_getElem? (i := 31) rfl) rfl
theorem wd_366 : Cond.methodLink RX0 3 Lib.objectInit ∈ lwg := tb_2 (List.mem_of_getElem? (i := 32) rfl) rfl
theorem wd_388 : Cond.classLink RX10 49 RX6 ∈ lwg := tb_2 (List.mem_of_getElem? (i := 54) rfl) rfl
theorem wd_389 : Cond.instantiable RX6 10 ∈ lwg := tb_2 (List.mem_of_getElem? (i := 55) rfl) rfl
theorem wd_390 : Cond.methodLink RX10 51 yX6_init ∈ lwg := tb_2 (List.mem_of_getElem? (i := 56) rfl) rfl
theorem wd_391 : Cond.instanceMethod yX6_init ∈ lwg := tb_2 (List.mem_of_getElem? (i := 57) rfl) rfl
theorem wd_392 : Cond.code yX6_init cX6_init 4 none ∈ lwg := tb_2 (List.mem_of_getElem? (i := 58) rfl) rfl
theorem wd_393 : Cond.methodLink RX6 3 Lib.objectInit ∈ lwg := tb_2 (List.mem_of_getElem? (i := 59) rfl) rfl
theorem wd_394 : Cond.classLink RX6 11 RX3 ∈ lwg := tb_2 (List.mem_of_getElem? (i := 60) rfl) rfl
theorem wd_396 : Cond.instantiable RX3 9 ∈ lwg := tb_2 (List.mem_of_getElem? (i := 62) rfl) rfl
theorem wd_398 : Cond.instanceMethod yX3_init ∈ lwg := tb_2 (List.mem_of_getElem? (i := 64) rfl) rfl
theorem wd_399 : Cond.code yX3_init cX3_init 1 none ∈ lwg := tb_2 (List.mem_of_getElem? (i := 65) rfl) rfl
theorem wd_400 : Cond.methodLink RX3 3 Lib.objectInit ∈ lwg := tb_2 (List.mem_of_getElem? (i := 66) rfl) rfl
theorem wd_401 : Cond.fieldLink RX3 9 "Tellcourt$Frame" "binds" "[I" ∈ lwg := tb_2 (List.mem_of_getElem? (i := 67) rfl) rfl
theorem wd_464 : Cond.instantiable RX4 11 ∈ lwg := tb_2 (List.mem_of_getElem? (i := 130) rfl) rfl
theorem wd_466 : Cond.instanceMethod yX4_init ∈ lwg := tb_2 (List.mem_of_getElem? (i := 132) rfl) rfl
theorem wd_467 : Cond.code yX4_init cX4_init 1 none ∈ lwg := tb_2 (List.mem_of_getElem? (i := 133) rfl) rfl
theorem wd_468 : Cond.methodLink RX4 3 Lib.objectInit ∈ lwg := tb_2 (List.mem_of_getElem? (i := 134) rfl) rfl
theorem wd_469 : Cond.classLink RX4 9 RX1 ∈ lwg := tb_2 (List.mem_of_getElem? (i := 135) rfl) rfl
theorem wd_470 : Cond.instantiable RX1 5 ∈ lwg := tb_2 (List.mem_of_getElem? (i := 136) rfl) rfl
theorem wd_471 : Cond.methodLink RX4 11 yX1_init ∈ lwg := tb_2 (List.mem_of_getElem? (i := 137) rfl) rfl
theorem wd_472 : Cond.instanceMethod yX1_init ∈ lwg := tb_2 (List.mem_of_getElem? (i := 138) rfl) rfl
theorem wd_473 : Cond.code yX1_init cX1_init 2 none ∈ lwg := tb_2 (List.mem_of_getElem? (i := 139) rfl) rfl
theorem wd_474 : Cond.methodLink RX1 3 Lib.objectInit ∈ lwg := tb_2 (List.mem_of_getElem? (i := 140) rfl) rfl
theorem wd_501 : Cond.fieldLink RX4 29 "Tellcourt$Level" "otherwise" "LTellcourt$AgentList;" ∈ lwg := tb_2 (List.mem_of_getElem? (i := 167) rfl) rfl
theorem wd_503 : Cond.fieldLink RX4 32 "Tellcourt$Level" "classOf" "[I" ∈ lwg := tb_2 (List.mem_of_getElem? (i := 169) rfl) rfl
theorem wd_505 : Cond.fieldLink RX4 36 "Tellcourt$Level" "values" "[I" ∈ lwg := tb_2 (List.mem_of_getElem? (i := 171) rfl) rfl
theorem wd_507 : Cond.fieldLink RX4 39 "Tellcourt$Level" "stands" "[Z" ∈ lwg := tb_2 (List.mem_of_getElem? (i := 173) rfl) rfl
theorem wd_1663 : Cond.methodLink RX12 1 Lib.objectInit ∈ lwg := tb_7 (List.mem_of_getElem? (i := 129) rfl) rfl
theorem wd_1704 : Cond.fieldLink RX12 100 "TellcourtModel" "found" "[I" ∈ lwg := tb_7 (List.mem_of_getElem? (i := 170) rfl) rfl
theorem wd_1710 : Cond.fieldLink RX12 112 "TellcourtModel" "endMany" "[I" ∈ lwg := tb_7 (List.mem_of_getElem? (i := 176) rfl) rfl
theorem ib_120 : (Int8.ofInt (120)).toInt32 = 120 := by decide +kernel
theorem is_1600 : (Int16.ofInt (1600)).toInt32 = 1600 := by decide +kernel
theorem is_1296 : (Int16.ofInt (1296)).toInt32 = 1296 := by decide +kernel
theorem is_2048 : (Int16.ofInt (2048)).toInt32 = 2048 := by decide +kernel
theorem ib_24 : (Int8.ofInt (24)).toInt32 = 24 := by decide +kernel
theorem ib_48 : (Int8.ofInt (48)).toInt32 = 48 := by decide +kernel
theorem is_18000 : (Int16.ofInt (18000)).toInt32 = 18000 := by decide +kernel
theorem is_2000 : (Int16.ofInt (2000)).toInt32 = 2000 := by decide +kernel
theorem is_900 : (Int16.ofInt (900)).toInt32 = 900 := by decide +kernel
theorem is_6000 : (Int16.ofInt (6000)).toInt32 = 6000 := by decide +kernel
theorem is_1400 : (Int16.ofInt (1400)).toInt32 = 1400 := by decide +kernel
theorem fl_X3_9 : FL RX3 9 3 0 3 := ⟨cf_3, by decide, by decide, wd_401, by decide +kernel⟩
theorem fl_X4_29 : FL RX4 29 4 4 3 := ⟨cf_4, by decide, by decide, wd_501, by decide +kernel⟩
theorem fl_X4_32 : FL RX4 32 4 5 3 := ⟨cf_4, by decide, by decide, wd_503, by decide +kernel⟩
theorem fl_X4_36 : FL RX4 36 4 6 3 := ⟨cf_4, by decide, by decide, wd_505, by decide +kernel⟩
theorem fl_X4_39 : FL RX4 39 4 7 3 := ⟨cf_4, by decide, by decide, wd_507, by decide +kernel⟩
theorem fl_X12_100 : FL RX12 100 12 40 3 := ⟨cf_12, by decide, by decide, wd_1704, by decide +kernel⟩
theorem fl_X12_112 : FL RX12 112 12 46 3 := ⟨cf_12, by decide, by decide, wd_1710, by decide +kernel⟩
theorem nw_X4_9 : NW RX4 9 1 := ⟨cf_1, by decide, wd_469, wd_470, wd_106, by decide +kernel⟩
theorem nw_X6_11 : NW RX6 11 3 := ⟨cf_3, by decide, wd_394, wd_396, wd_104, by decide +kernel⟩
theorem nw_X10_9 : NW RX10 9 8 := ⟨cf_8, by decide, wd_263, wd_264, wd_100, by decide +kernel⟩
theorem nw_X10_18 : NW RX10 18 2 := ⟨cf_2, by decide, wd_343, wd_344, wd_101, by decide +kernel⟩
theorem nw_X10_38 : NW RX10 38 0 := ⟨cf_0, by decide, wd_361, wd_362, wd_102, by decide +kernel⟩
theorem nw_X10_49 : NW RX10 49 6 := ⟨cf_6, by decide, wd_388, wd_389, wd_103, by decide +kernel⟩
theorem nw_X10_32 : NW RX10 32 4 := ⟨cf_4, by decide, wd_359, wd_464, wd_105, by decide +kernel⟩
theorem nw_X11_7 : NW RX11 7 5 := ⟨cf_5, by decide, wd_135, wd_136, wd_96, by decide +kernel⟩
theorem nw_X11_22 : NW RX11 22 9 := ⟨cf_9, by decide, wd_174, wd_175, wd_97, by decide +kernel⟩
theorem nw_X11_34 : NW RX11 34 10 := ⟨cf_10, by decide, wd_257, wd_258, wd_99, by decide +kernel⟩
theorem nw_X11_16 : NW RX11 16 7 := ⟨cf_7, by decide, wd_172, wd_200, wd_98, by decide +kernel⟩
theorem fr_X0_9 : FR RX0 9 0 0 := ⟨cf_0, by decide, by decide, wd_367, by decide +kernel, rfl, rfl, (.array .int), by decide +kernel, fun a => ⟨rfl, rfl⟩⟩
theorem fr_X1_15 : FR RX1 15 1 1 := ⟨cf_1, by decide, by decide, wd_476, by decide +kernel, rfl, rfl, (.array .int), by decide +kernel, fun a => ⟨rfl, rfl⟩⟩
theorem fr_X1_19 : FR RX1 19 1 2 := ⟨cf_1, by decide, by decide, wd_477, by decide +kernel, rfl, rfl, (.array .int), by decide +kernel, fun a => ⟨rfl, rfl⟩⟩
theorem fr_X1_22 : FR RX1 22 1 3 := ⟨cf_1, by decide, by decide, wd_478, by decide +kernel, rfl, rfl, (.array .long), by decide +kernel, fun a => ⟨rfl, rfl⟩⟩
theorem fr_X2_15 : FR RX2 15 2 0 := ⟨cf_2, by decide, by decide, wd_351, by decide +kernel, rfl, rfl, (.array .int), by decide +kernel, fun a => ⟨rfl, rfl⟩⟩
theorem fr_X3_9 : FR RX3 9 3 0 := ⟨cf_3, by decide, by decide, wd_401, by decide +kernel, rfl, rfl, (.array .int), by decide +kernel, fun a => ⟨rfl, rfl⟩⟩
theorem fr_X4_14 : FR RX4 14 4 0 := ⟨cf_4, by decide, by decide, wd_493, by decide +kernel, rfl, rfl, (.object "Tellcourt$AgentList"), by decide +kernel, fun a => ⟨rfl, rfl⟩⟩
theorem fr_X4_20 : FR RX4 20 4 1 := ⟨cf_4, by decide, by decide, wd_495, by decide +kernel, rfl, rfl, (.object "Tellcourt$AgentList"), by decide +kernel, fun a => ⟨rfl, rfl⟩⟩
theorem fr_X4_23 : FR RX4 23 4 2 := ⟨cf_4, by decide, by decide, wd_497, by decide +kernel, rfl, rfl, (.object "Tellcourt$AgentList"), by decide +kernel, fun a => ⟨rfl, rfl⟩⟩
theorem fr_X4_26 : FR RX4 26 4 3 := ⟨cf_4, by decide, by decide, wd_499, by decide +kernel, rfl, rfl, (.object "Tellcourt$AgentList"), by decide +kernel, fun a => ⟨rfl, rfl⟩⟩
theorem fr_X4_29 : FR RX4 29 4 4 := ⟨cf_4, by decide, by decide, wd_501, by decide +kernel, rfl, rfl, (.object "Tellcourt$AgentList"), by decide +kernel, fun a => ⟨rfl, rfl⟩⟩
theorem fr_X4_32 : FR RX4 32 4 5 := ⟨cf_4, by decide, by decide, wd_503, by decide +kernel, rfl, rfl, (.array .int), by decide +kernel, fun a => ⟨rfl, rfl⟩⟩
theorem fr_X4_36 : FR RX4 36 4 6 := ⟨cf_4, by decide, by decide, wd_505, by decide +kernel, rfl, rfl, (.array .int), by decide +kernel, fun a => ⟨rfl, rfl⟩⟩
theorem fr_X4_39 : FR RX4 39 4 7 := ⟨cf_4, by decide, by decide, wd_507, by decide +kernel, rfl, rfl, (.array .boolean), by decide +kernel, fun a => ⟨rfl, rfl⟩⟩
theorem fr_X5_9 : FR RX5 9 5 0 := ⟨cf_5, by decide, by decide, wd_141, by decide +kernel, rfl, rfl, (.array .int), by decide +kernel, fun a => ⟨rfl, rfl⟩⟩
theorem fr_X5_15 : FR RX5 15 5 1 := ⟨cf_5, by decide, by decide, wd_144, by decide +kernel, rfl, rfl, (.array .int), by decide +kernel, fun a => ⟨rfl, rfl⟩⟩
theorem fr_X5_18 : FR RX5 18 5 2 := ⟨cf_5, by decide, by decide, wd_146, by decide +kernel, rfl, rfl, (.array .int), by decide +kernel, fun a => ⟨rfl, rfl⟩⟩
theorem fr_X5_21 : FR RX5 21 5 3 := ⟨cf_5, by decide, by decide, wd_148, by decide +kernel, rfl, rfl, (.array .int), by decide +kernel, fun a => ⟨rfl, rfl⟩⟩
theorem fr_X5_24 : FR RX5 24 5 4 := ⟨cf_5, by decide, by decide, wd_150, by decide +kernel, rfl, rfl, (.array .int), by decide +kernel, fun a => ⟨rfl, rfl⟩⟩
theorem fr_X5_27 : FR RX5 27 5 5 := ⟨cf_5, by decide, by decide, wd_152, by decide +kernel, rfl, rfl, (.array .int), by decide +kernel, fun a => ⟨rfl, rfl⟩⟩
theorem fr_X6_13 : FR RX6 13 6 2 := ⟨cf_6, by decide, by decide, wd_432, by decide +kernel, rfl, rfl, (.array (.object "Tellcourt$Frame")), by decide +kernel, fun a => ⟨rfl, rfl⟩⟩
theorem fr_X6_17 : FR RX6 17 6 4 := ⟨cf_6, by decide, by decide, wd_434, by decide +kernel, rfl, rfl, (.array .int), by decide +kernel, fun a => ⟨rfl, rfl⟩⟩
theorem fr_X6_21 : FR RX6 21 6 5 := ⟨cf_6, by decide, by decide, wd_435, by decide +kernel, rfl, rfl, (.array .long), by decide +kernel, fun a => ⟨rfl, rfl⟩⟩
theorem fr_X6_25 : FR RX6 25 6 6 := ⟨cf_6, by decide, by decide, wd_436, by decide +kernel, rfl, rfl, (.array .int), by decide +kernel, fun a => ⟨rfl, rfl⟩⟩
theorem fr_X6_28 : FR RX6 28 6 8 := ⟨cf_6, by decide, by decide, wd_439, by decide +kernel, rfl, rfl, (.array .int), by decide +kernel, fun a => ⟨rfl, rfl⟩⟩
theorem fr_X6_31 : FR RX6 31 6 0 := ⟨cf_6, by decide, by decide, wd_430, by decide +kernel, rfl, rfl, (.object "Tellcourt$Store"), by decide +kernel, fun a => ⟨rfl, rfl⟩⟩
theorem fr_X6_35 : FR RX6 35 6 1 := ⟨cf_6, by decide, by decide, wd_431, by decide +kernel, rfl, rfl, (.array (.object "Tellcourt$Rule")), by decide +kernel, fun a => ⟨rfl, rfl⟩⟩
theorem fr_X7_9 : FR RX7 9 7 0 := ⟨cf_7, by decide, by decide, wd_205, by decide +kernel, rfl, rfl, (.array .int), by decide +kernel, fun a => ⟨rfl, rfl⟩⟩
theorem fr_X7_15 : FR RX7 15 7 1 := ⟨cf_7, by decide, by decide, wd_207, by decide +kernel, rfl, rfl, (.array .int), by decide +kernel, fun a => ⟨rfl, rfl⟩⟩
theorem fr_X7_18 : FR RX7 18 7 2 := ⟨cf_7, by decide, by decide, wd_209, by decide +kernel, rfl, rfl, (.array .boolean), by decide +kernel, fun a => ⟨rfl, rfl⟩⟩
theorem fr_X7_22 : FR RX7 22 7 3 := ⟨cf_7, by decide, by decide, wd_211, by decide +kernel, rfl, rfl, (.array .int), by decide +kernel, fun a => ⟨rfl, rfl⟩⟩
theorem fr_X7_25 : FR RX7 25 7 4 := ⟨cf_7, by decide, by decide, wd_213, by decide +kernel, rfl, rfl, (.array .int), by decide +kernel, fun a => ⟨rfl, rfl⟩⟩
theorem fr_X8_9 : FR RX8 9 8 0 := ⟨cf_8, by decide, by decide, wd_269, by decide +kernel, rfl, rfl, (.array .int), by decide +kernel, fun a => ⟨rfl, rfl⟩⟩
theorem fr_X8_15 : FR RX8 15 8 1 := ⟨cf_8, by decide, by decide, wd_271, by decide +kernel, rfl, rfl, (.array .int), by decide +kernel, fun a => ⟨rfl, rfl⟩⟩
theorem fr_X8_18 : FR RX8 18 8 3 := ⟨cf_8, by decide, by decide, wd_274, by decide +kernel, rfl, rfl, (.array .int), by decide +kernel, fun a => ⟨rfl, rfl⟩⟩
theorem fr_X8_21 : FR RX8 21 8 4 := ⟨cf_8, by decide, by decide, wd_278, by decide +kernel, rfl, rfl, (.array .int), by decide +kernel, fun a => ⟨rfl, rfl⟩⟩
theorem fr_X8_24 : FR RX8 24 8 5 := ⟨cf_8, by decide, by decide, wd_282, by decide +kernel, rfl, rfl, (.array .int), by decide +kernel, fun a => ⟨rfl, rfl⟩⟩
theorem fr_X8_27 : FR RX8 27 8 6 := ⟨cf_8, by decide, by decide, wd_286, by decide +kernel, rfl, rfl, (.array .boolean), by decide +kernel, fun a => ⟨rfl, rfl⟩⟩
theorem fr_X8_31 : FR RX8 31 8 7 := ⟨cf_8, by decide, by decide, wd_290, by decide +kernel, rfl, rfl, (.array .boolean), by decide +kernel, fun a => ⟨rfl, rfl⟩⟩
theorem fr_X8_34 : FR RX8 34 8 8 := ⟨cf_8, by decide, by decide, wd_294, by decide +kernel, rfl, rfl, (.array .long), by decide +kernel, fun a => ⟨rfl, rfl⟩⟩
theorem fr_X8_38 : FR RX8 38 8 9 := ⟨cf_8, by decide, by decide, wd_298, by decide +kernel, rfl, rfl, (.array .long), by decide +kernel, fun a => ⟨rfl, rfl⟩⟩
theorem fr_X9_9 : FR RX9 9 9 0 := ⟨cf_9, by decide, by decide, wd_180, by decide +kernel, rfl, rfl, (.array .int), by decide +kernel, fun a => ⟨rfl, rfl⟩⟩
theorem fr_X9_15 : FR RX9 15 9 1 := ⟨cf_9, by decide, by decide, wd_181, by decide +kernel, rfl, rfl, (.array .int), by decide +kernel, fun a => ⟨rfl, rfl⟩⟩
theorem fr_X9_18 : FR RX9 18 9 4 := ⟨cf_9, by decide, by decide, wd_184, by decide +kernel, rfl, rfl, (.array .int), by decide +kernel, fun a => ⟨rfl, rfl⟩⟩
theorem fr_X10_12 : FR RX10 12 10 1 := ⟨cf_10, by decide, by decide, wd_539, by decide +kernel, rfl, rfl, (.object "Tellcourt$Store"), by decide +kernel, fun a => ⟨rfl, rfl⟩⟩
theorem fr_X10_21 : FR RX10 21 10 3 := ⟨cf_10, by decide, by decide, wd_543, by decide +kernel, rfl, rfl, (.object "Tellcourt$Draws"), by decide +kernel, fun a => ⟨rfl, rfl⟩⟩
theorem fr_X10_25 : FR RX10 25 10 4 := ⟨cf_10, by decide, by decide, wd_545, by decide +kernel, rfl, rfl, (.array .int), by decide +kernel, fun a => ⟨rfl, rfl⟩⟩
theorem fr_X10_29 : FR RX10 29 10 5 := ⟨cf_10, by decide, by decide, wd_547, by decide +kernel, rfl, rfl, (.array .int), by decide +kernel, fun a => ⟨rfl, rfl⟩⟩
theorem fr_X10_34 : FR RX10 34 10 6 := ⟨cf_10, by decide, by decide, wd_548, by decide +kernel, rfl, rfl, (.array (.object "Tellcourt$Level")), by decide +kernel, fun a => ⟨rfl, rfl⟩⟩
theorem fr_X10_41 : FR RX10 41 10 7 := ⟨cf_10, by decide, by decide, wd_549, by decide +kernel, rfl, rfl, (.object "Tellcourt$Agent"), by decide +kernel, fun a => ⟨rfl, rfl⟩⟩
theorem fr_X10_45 : FR RX10 45 10 0 := ⟨cf_10, by decide, by decide, wd_538, by decide +kernel, rfl, rfl, (.object "Tellcourt$Nodes"), by decide +kernel, fun a => ⟨rfl, rfl⟩⟩
theorem fr_X10_54 : FR RX10 54 10 2 := ⟨cf_10, by decide, by decide, wd_541, by decide +kernel, rfl, rfl, (.object "Tellcourt$Rewriter"), by decide +kernel, fun a => ⟨rfl, rfl⟩⟩
theorem fr_X11_10 : FR RX11 10 11 0 := ⟨cf_11, by decide, by decide, wd_581, by decide +kernel, rfl, rfl, (.object "Tellcourt$Nodes"), by decide +kernel, fun a => ⟨rfl, rfl⟩⟩
theorem fr_X11_18 : FR RX11 18 11 1 := ⟨cf_11, by decide, by decide, wd_582, by decide +kernel, rfl, rfl, (.array (.object "Tellcourt$Rule")), by decide +kernel, fun a => ⟨rfl, rfl⟩⟩
theorem fr_X11_25 : FR RX11 25 11 4 := ⟨cf_11, by decide, by decide, wd_585, by decide +kernel, rfl, rfl, (.object "Tellcourt$Survey"), by decide +kernel, fun a => ⟨rfl, rfl⟩⟩
theorem fr_X11_29 : FR RX11 29 11 5 := ⟨cf_11, by decide, by decide, wd_586, by decide +kernel, rfl, rfl, (.array .int), by decide +kernel, fun a => ⟨rfl, rfl⟩⟩
theorem fr_X11_39 : FR RX11 39 11 2 := ⟨cf_11, by decide, by decide, wd_583, by decide +kernel, rfl, rfl, (.object "Tellcourt$World"), by decide +kernel, fun a => ⟨rfl, rfl⟩⟩
theorem fr_X11_43 : FR RX11 43 11 3 := ⟨cf_11, by decide, by decide, wd_584, by decide +kernel, rfl, rfl, (.object "Tellcourt$World"), by decide +kernel, fun a => ⟨rfl, rfl⟩⟩
theorem fr_X12_7 : FR RX12 7 12 0 := ⟨cf_12, by decide, by decide, wd_1664, by decide +kernel, rfl, rfl, (.array .int), by decide +kernel, fun a => ⟨rfl, rfl⟩⟩
theorem fr_X12_13 : FR RX12 13 12 1 := ⟨cf_12, by decide, by decide, wd_1665, by decide +kernel, rfl, rfl, (.array .int), by decide +kernel, fun a => ⟨rfl, rfl⟩⟩
theorem fr_X12_16 : FR RX12 16 12 2 := ⟨cf_12, by decide, by decide, wd_1666, by decide +kernel, rfl, rfl, (.array .int), by decide +kernel, fun a => ⟨rfl, rfl⟩⟩
theorem fr_X12_19 : FR RX12 19 12 3 := ⟨cf_12, by decide, by decide, wd_1667, by decide +kernel, rfl, rfl, (.array .int), by decide +kernel, fun a => ⟨rfl, rfl⟩⟩
theorem fr_X12_22 : FR RX12 22 12 4 := ⟨cf_12, by decide, by decide, wd_1668, by decide +kernel, rfl, rfl, (.array .int), by decide +kernel, fun a => ⟨rfl, rfl⟩⟩
theorem fr_X12_25 : FR RX12 25 12 5 := ⟨cf_12, by decide, by decide, wd_1669, by decide +kernel, rfl, rfl, (.array .int), by decide +kernel, fun a => ⟨rfl, rfl⟩⟩
theorem fr_X12_28 : FR RX12 28 12 6 := ⟨cf_12, by decide, by decide, wd_1670, by decide +kernel, rfl, rfl, (.array .int), by decide +kernel, fun a => ⟨rfl, rfl⟩⟩
theorem fr_X12_31 : FR RX12 31 12 8 := ⟨cf_12, by decide, by decide, wd_1672, by decide +kernel, rfl, rfl, (.array .int), by decide +kernel, fun a => ⟨rfl, rfl⟩⟩
theorem fr_X12_34 : FR RX12 34 12 9 := ⟨cf_12, by decide, by decide, wd_1673, by decide +kernel, rfl, rfl, (.array .int), by decide +kernel, fun a => ⟨rfl, rfl⟩⟩
theorem fr_X12_37 : FR RX12 37 12 10 := ⟨cf_12, by decide, by decide, wd_1674, by decide +kernel, rfl, rfl, (.array .int), by decide +kernel, fun a => ⟨rfl, rfl⟩⟩
theorem fr_X12_40 : FR RX12 40 12 11 := ⟨cf_12, by decide, by decide, wd_1675, by decide +kernel, rfl, rfl, (.array .int), by decide +kernel, fun a => ⟨rfl, rfl⟩⟩
theorem fr_X12_43 : FR RX12 43 12 12 := ⟨cf_12, by decide, by decide, wd_1676, by decide +kernel, rfl, rfl, (.array .int), by decide +kernel, fun a => ⟨rfl, rfl⟩⟩
theorem fr_X12_46 : FR RX12 46 12 13 := ⟨cf_12, by decide, by decide, wd_1677, by decide +kernel, rfl, rfl, (.array .int), by decide +kernel, fun a => ⟨rfl, rfl⟩⟩
theorem fr_X12_49 : FR RX12 49 12 15 := ⟨cf_12, by decide, by decide, wd_1679, by decide +kernel, rfl, rfl, (.array .int), by decide +kernel, fun a => ⟨rfl, rfl⟩⟩
theorem fr_X12_52 : FR RX12 52 12 16 := ⟨cf_12, by decide, by decide, wd_1680, by decide +kernel, rfl, rfl, (.array .int), by decide +kernel, fun a => ⟨rfl, rfl⟩⟩
theorem fr_X12_55 : FR RX12 55 12 17 := ⟨cf_12, by decide, by decide, wd_1681, by decide +kernel, rfl, rfl, (.array .int), by decide +kernel, fun a => ⟨rfl, rfl⟩⟩
theorem fr_X12_58 : FR RX12 58 12 21 := ⟨cf_12, by decide, by decide, wd_1685, by decide +kernel, rfl, rfl, (.array .int), by decide +kernel, fun a => ⟨rfl, rfl⟩⟩
theorem fr_X12_61 : FR RX12 61 12 23 := ⟨cf_12, by decide, by decide, wd_1687, by decide +kernel, rfl, rfl, (.array .int), by decide +kernel, fun a => ⟨rfl, rfl⟩⟩
theorem fr_X12_64 : FR RX12 64 12 24 := ⟨cf_12, by decide, by decide, wd_1688, by decide +kernel, rfl, rfl, (.array .int), by decide +kernel, fun a => ⟨rfl, rfl⟩⟩
theorem fr_X12_67 : FR RX12 67 12 25 := ⟨cf_12, by decide, by decide, wd_1689, by decide +kernel, rfl, rfl, (.array .int), by decide +kernel, fun a => ⟨rfl, rfl⟩⟩
theorem fr_X12_70 : FR RX12 70 12 26 := ⟨cf_12, by decide, by decide, wd_1690, by decide +kernel, rfl, rfl, (.array .int), by decide +kernel, fun a => ⟨rfl, rfl⟩⟩
theorem fr_X12_73 : FR RX12 73 12 27 := ⟨cf_12, by decide, by decide, wd_1691, by decide +kernel, rfl, rfl, (.array .int), by decide +kernel, fun a => ⟨rfl, rfl⟩⟩
theorem fr_X12_76 : FR RX12 76 12 28 := ⟨cf_12, by decide, by decide, wd_1692, by decide +kernel, rfl, rfl, (.array .int), by decide +kernel, fun a => ⟨rfl, rfl⟩⟩
theorem fr_X12_79 : FR RX12 79 12 29 := ⟨cf_12, by decide, by decide, wd_1693, by decide +kernel, rfl, rfl, (.array .int), by decide +kernel, fun a => ⟨rfl, rfl⟩⟩
theorem fr_X12_82 : FR RX12 82 12 30 := ⟨cf_12, by decide, by decide, wd_1694, by decide +kernel, rfl, rfl, (.array .int), by decide +kernel, fun a => ⟨rfl, rfl⟩⟩
theorem fr_X12_85 : FR RX12 85 12 31 := ⟨cf_12, by decide, by decide, wd_1695, by decide +kernel, rfl, rfl, (.array .int), by decide +kernel, fun a => ⟨rfl, rfl⟩⟩
theorem fr_X12_88 : FR RX12 88 12 32 := ⟨cf_12, by decide, by decide, wd_1696, by decide +kernel, rfl, rfl, (.array .int), by decide +kernel, fun a => ⟨rfl, rfl⟩⟩
theorem fr_X12_91 : FR RX12 91 12 36 := ⟨cf_12, by decide, by decide, wd_1700, by decide +kernel, rfl, rfl, (.array .int), by decide +kernel, fun a => ⟨rfl, rfl⟩⟩
theorem fr_X12_94 : FR RX12 94 12 38 := ⟨cf_12, by decide, by decide, wd_1702, by decide +kernel, rfl, rfl, (.array .int), by decide +kernel, fun a => ⟨rfl, rfl⟩⟩
theorem fr_X12_97 : FR RX12 97 12 39 := ⟨cf_12, by decide, by decide, wd_1703, by decide +kernel, rfl, rfl, (.array .int), by decide +kernel, fun a => ⟨rfl, rfl⟩⟩
theorem fr_X12_100 : FR RX12 100 12 40 := ⟨cf_12, by decide, by decide, wd_1704, by decide +kernel, rfl, rfl, (.array .int), by decide +kernel, fun a => ⟨rfl, rfl⟩⟩
theorem fr_X12_103 : FR RX12 103 12 42 := ⟨cf_12, by decide, by decide, wd_1706, by decide +kernel, rfl, rfl, (.array .int), by decide +kernel, fun a => ⟨rfl, rfl⟩⟩
theorem fr_X12_106 : FR RX12 106 12 43 := ⟨cf_12, by decide, by decide, wd_1707, by decide +kernel, rfl, rfl, (.array .int), by decide +kernel, fun a => ⟨rfl, rfl⟩⟩
theorem fr_X12_109 : FR RX12 109 12 45 := ⟨cf_12, by decide, by decide, wd_1709, by decide +kernel, rfl, rfl, (.array .int), by decide +kernel, fun a => ⟨rfl, rfl⟩⟩
theorem fr_X12_112 : FR RX12 112 12 46 := ⟨cf_12, by decide, by decide, wd_1710, by decide +kernel, rfl, rfl, (.array .int), by decide +kernel, fun a => ⟨rfl, rfl⟩⟩
theorem fr_X12_115 : FR RX12 115 12 48 := ⟨cf_12, by decide, by decide, wd_1712, by decide +kernel, rfl, rfl, (.array .int), by decide +kernel, fun a => ⟨rfl, rfl⟩⟩
theorem mo_X0_3 : MO RX0 3 := ⟨wd_366, wd_133, wd_134⟩
theorem mo_X1_3 : MO RX1 3 := ⟨wd_474, wd_133, wd_134⟩
theorem mo_X2_3 : MO RX2 3 := ⟨wd_348, wd_133, wd_134⟩
theorem mo_X3_3 : MO RX3 3 := ⟨wd_400, wd_133, wd_134⟩
theorem mo_X4_3 : MO RX4 3 := ⟨wd_468, wd_133, wd_134⟩
theorem mo_X5_3 : MO RX5 3 := ⟨wd_140, wd_133, wd_134⟩
theorem mo_X6_3 : MO RX6 3 := ⟨wd_393, wd_133, wd_134⟩
theorem mo_X7_3 : MO RX7 3 := ⟨wd_204, wd_133, wd_134⟩
theorem mo_X8_3 : MO RX8 3 := ⟨wd_268, wd_133, wd_134⟩
theorem mo_X9_3 : MO RX9 3 := ⟨wd_179, wd_133, wd_134⟩
theorem mo_X10_3 : MO RX10 3 := ⟨wd_262, wd_133, wd_134⟩
theorem mo_X11_1 : MO RX11 1 := ⟨wd_132, wd_133, wd_134⟩
theorem mo_X12_1 : MO RX12 1 := ⟨wd_1663, wd_133, wd_134⟩
theorem mi_X4_11 : MLI RX4 11 yX1_init cX1_init 2 1 := ⟨⟨.inl wd_471, wd_472, wd_106, wd_473⟩, by decide +kernel, by decide +kernel, by decide +kernel, rfl⟩
theorem mi_X6_39 : MLI RX6 39 yX3_init cX3_init 1 0 := ⟨⟨.inr (List.mem_of_getElem? (i := 6) rfl), wd_398, wd_104, wd_399⟩, by decide +kernel, by decide +kernel, by decide +kernel, rfl⟩
theorem mi_X10_11 : MLI RX10 11 yX8_init cX8_init 1 0 := ⟨⟨.inr (List.mem_of_getElem? (i := 3) rfl), wd_266, wd_100, wd_267⟩, by decide +kernel, by decide +kernel, by decide +kernel, rfl⟩
theorem mi_X10_20 : MLI RX10 20 yX2_init cX2_init 1 0 := ⟨⟨.inr (List.mem_of_getElem? (i := 4) rfl), wd_346, wd_101, wd_347⟩, by decide +kernel, by decide +kernel, by decide +kernel, rfl⟩
theorem mi_X10_40 : MLI RX10 40 yX0_init cX0_init 1 0 := ⟨⟨.inr (List.mem_of_getElem? (i := 5) rfl), wd_364, wd_102, wd_365⟩, by decide +kernel, by decide +kernel, by decide +kernel, rfl⟩
theorem mi_X10_51 : MLI RX10 51 yX6_init cX6_init 4 2 := ⟨⟨.inl wd_390, wd_391, wd_103, wd_392⟩, by decide +kernel, by decide +kernel, by decide +kernel, rfl⟩
theorem mi_X10_58 : MLI RX10 58 yX4_init cX4_init 1 0 := ⟨⟨.inr (List.mem_of_getElem? (i := 7) rfl), wd_466, wd_105, wd_467⟩, by decide +kernel, by decide +kernel, by decide +kernel, rfl⟩
theorem mi_X11_9 : MLI RX11 9 yX5_init cX5_init 1 0 := ⟨⟨.inr (List.mem_of_getElem? (i := 0) rfl), wd_138, wd_96, wd_139⟩, by decide +kernel, by decide +kernel, by decide +kernel, rfl⟩
theorem mi_X11_24 : MLI RX11 24 yX9_init cX9_init 1 0 := ⟨⟨.inr (List.mem_of_getElem? (i := 1) rfl), wd_177, wd_97, wd_178⟩, by decide +kernel, by decide +kernel, by decide +kernel, rfl⟩
theorem mi_X11_36 : MLI RX11 36 yX10_init cX10_init 4 2 := ⟨⟨.inl wd_259, wd_260, wd_99, wd_261⟩, by decide +kernel, by decide +kernel, by decide +kernel, rfl⟩
theorem mi_X11_33 : MLI RX11 33 yX7_init cX7_init 1 0 := ⟨⟨.inr (List.mem_of_getElem? (i := 2) rfl), wd_202, wd_98, wd_203⟩, by decide +kernel, by decide +kernel, by decide +kernel, rfl⟩
