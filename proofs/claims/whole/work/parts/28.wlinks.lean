def RL : String := "TellcourtLaw"
abbrev cL_variable : ByteArray := method_3_code
def yL_variable : MethodName := ⟨RL, "variable", "(LTellcourt;[J)I"⟩
abbrev cL_equate : ByteArray := method_4_code
def yL_equate : MethodName := ⟨RL, "equate", "(LTellcourt;II[J)I"⟩
abbrev cL_token : ByteArray := method_5_code
def yL_token : MethodName := ⟨RL, "token", "(LTellcourt;IIIZ[J)I"⟩
abbrev cL_both : ByteArray := method_6_code
def yL_both : MethodName := ⟨RL, "both", "(LTellcourt;II[J)I"⟩
abbrev cL_when : ByteArray := method_7_code
def yL_when : MethodName := ⟨RL, "when", "(LTellcourt;IIII[J)I"⟩
abbrev cL_either : ByteArray := method_8_code
def yL_either : MethodName := ⟨RL, "either", "(LTellcourt;IIII[J)I"⟩
abbrev cL_hide : ByteArray := method_9_code
def yL_hide : MethodName := ⟨RL, "hide", "(LTellcourt;II[J)I"⟩
abbrev cL_call : ByteArray := method_10_code
def yL_call : MethodName := ⟨RL, "call", "(LTellcourt;III[J)I"⟩
abbrev cL_next : ByteArray := method_11_code
def yL_next : MethodName := ⟨RL, "next", "(LTellcourt;I[J)I"⟩
abbrev cL_each : ByteArray := method_12_code
def yL_each : MethodName := ⟨RL, "each", "(LTellcourt;I[J)I"⟩
abbrev cL_unless : ByteArray := method_13_code
def yL_unless : MethodName := ⟨RL, "unless", "(LTellcourt;ZIIII[J)I"⟩
abbrev cL_lot : ByteArray := method_14_code
def yL_lot : MethodName := ⟨RL, "lot", "(LTellcourt;IIII[J)I"⟩
abbrev cL_attempt : ByteArray := method_15_code
def yL_attempt : MethodName := ⟨RL, "attempt", "(LTellcourt;II[J)I"⟩
abbrev cL_define : ByteArray := method_16_code
def yL_define : MethodName := ⟨RL, "define", "(LTellcourt;II[J)I"⟩
abbrev cL_head : ByteArray := method_17_code
def yL_head : MethodName := ⟨RL, "head", "(LTellcourt;IIIZ[J)I"⟩
abbrev cL_other : ByteArray := method_18_code
def yL_other : MethodName := ⟨RL, "other", "(LTellcourt;IIIZ[J)I"⟩
abbrev cL_guard : ByteArray := method_19_code
def yL_guard : MethodName := ⟨RL, "guard", "(LTellcourt;III[J)I"⟩
abbrev cL_body : ByteArray := method_20_code
def yL_body : MethodName := ⟨RL, "body", "(LTellcourt;III[J)I"⟩
abbrev cL_rule : ByteArray := method_21_code
def yL_rule : MethodName := ⟨RL, "rule", "(LTellcourt;[J)I"⟩
abbrev cL_begin : ByteArray := method_22_code
def yL_begin : MethodName := ⟨RL, "begin", "(LTellcourt;III[J)I"⟩
abbrev cL_step : ByteArray := method_23_code
def yL_step : MethodName := ⟨RL, "step", "(LTellcourt;[J)I"⟩
abbrev cL_seed : ByteArray := method_24_code
def yL_seed : MethodName := ⟨RL, "seed", "(LTellcourt;I[J)I"⟩
abbrev cL_ends : ByteArray := method_25_code
def yL_ends : MethodName := ⟨RL, "ends", "(LTellcourt;[J)I"⟩
abbrev cL_value : ByteArray := method_26_code
def yL_value : MethodName := ⟨RL, "value", "(LTellcourt;I[J)I"⟩
abbrev cL_areOne : ByteArray := method_27_code
def yL_areOne : MethodName := ⟨RL, "areOne", "(LTellcourt;II[J)I"⟩
abbrev cL_part : ByteArray := method_28_code
def yL_part : MethodName := ⟨RL, "part", "(LTellcourt;II[J)I"⟩
abbrev cL_isMadeBy : ByteArray := method_29_code
def yL_isMadeBy : MethodName := ⟨RL, "isMadeBy", "(LTellcourt;II[J)I"⟩
abbrev cL_fired : ByteArray := method_30_code
def yL_fired : MethodName := ⟨RL, "fired", "(LTellcourt;I[J)I"⟩
abbrev cL_law : ByteArray := code
def yL_law : MethodName := ⟨RL, "law", "([I)Z"⟩
theorem dL_variable_0 : decode cL_variable 0 = .ok (.aload_n 1, 1) := by decide +kernel
theorem dL_variable_1 : decode cL_variable 1 = .ok (.iconst 0, 1) := by decide +kernel
theorem dL_variable_2 : decode cL_variable 2 = .ok (.aload_n 0, 1) := by decide +kernel
theorem dL_variable_3 : decode cL_variable 3 = .ok (.invokevirtual 7, 3) := by decide +kernel
theorem dL_variable_6 : decode cL_variable 6 = .ok (.i2l, 1) := by decide +kernel
theorem dL_variable_7 : decode cL_variable 7 = .ok (.lastore, 1) := by decide +kernel
theorem dL_variable_8 : decode cL_variable 8 = .ok (.goto 6, 3) := by decide +kernel
theorem dL_variable_11 : decode cL_variable 11 = .ok (.astore_n 2, 1) := by decide +kernel
theorem dL_variable_12 : decode cL_variable 12 = .ok (.iconst 1, 1) := by decide +kernel
theorem dL_variable_13 : decode cL_variable 13 = .ok (.ireturn, 1) := by decide +kernel
theorem dL_variable_14 : decode cL_variable 14 = .ok (.iconst 0, 1) := by decide +kernel
theorem dL_variable_15 : decode cL_variable 15 = .ok (.ireturn, 1) := by decide +kernel
theorem dL_equate_0 : decode cL_equate 0 = .ok (.aload_n 3, 1) := by decide +kernel
theorem dL_equate_1 : decode cL_equate 1 = .ok (.iconst 0, 1) := by decide +kernel
theorem dL_equate_2 : decode cL_equate 2 = .ok (.aload_n 0, 1) := by decide +kernel
theorem dL_equate_3 : decode cL_equate 3 = .ok (.iload_n 1, 1) := by decide +kernel
theorem dL_equate_4 : decode cL_equate 4 = .ok (.iload_n 2, 1) := by decide +kernel
theorem dL_equate_5 : decode cL_equate 5 = .ok (.invokevirtual 15, 3) := by decide +kernel
theorem dL_equate_8 : decode cL_equate 8 = .ok (.i2l, 1) := by decide +kernel
theorem dL_equate_9 : decode cL_equate 9 = .ok (.lastore, 1) := by decide +kernel
theorem dL_equate_10 : decode cL_equate 10 = .ok (.goto 11, 3) := by decide +kernel
theorem dL_equate_13 : decode cL_equate 13 = .ok (.astore 4, 2) := by decide +kernel
theorem dL_equate_15 : decode cL_equate 15 = .ok (.iconst 1, 1) := by decide +kernel
theorem dL_equate_16 : decode cL_equate 16 = .ok (.ireturn, 1) := by decide +kernel
theorem dL_equate_17 : decode cL_equate 17 = .ok (.astore 4, 2) := by decide +kernel
theorem dL_equate_19 : decode cL_equate 19 = .ok (.iconst 2, 1) := by decide +kernel
theorem dL_equate_20 : decode cL_equate 20 = .ok (.ireturn, 1) := by decide +kernel
theorem dL_equate_21 : decode cL_equate 21 = .ok (.iconst 0, 1) := by decide +kernel
theorem dL_equate_22 : decode cL_equate 22 = .ok (.ireturn, 1) := by decide +kernel
theorem dL_token_0 : decode cL_token 0 = .ok (.aload 5, 2) := by decide +kernel
theorem dL_token_2 : decode cL_token 2 = .ok (.iconst 0, 1) := by decide +kernel
theorem dL_token_3 : decode cL_token 3 = .ok (.aload_n 0, 1) := by decide +kernel
theorem dL_token_4 : decode cL_token 4 = .ok (.iload_n 1, 1) := by decide +kernel
theorem dL_token_5 : decode cL_token 5 = .ok (.iload_n 2, 1) := by decide +kernel
theorem dL_token_6 : decode cL_token 6 = .ok (.iload_n 3, 1) := by decide +kernel
theorem dL_token_7 : decode cL_token 7 = .ok (.iload 4, 2) := by decide +kernel
theorem dL_token_9 : decode cL_token 9 = .ok (.invokevirtual 21, 3) := by decide +kernel
theorem dL_token_12 : decode cL_token 12 = .ok (.i2l, 1) := by decide +kernel
theorem dL_token_13 : decode cL_token 13 = .ok (.lastore, 1) := by decide +kernel
theorem dL_token_14 : decode cL_token 14 = .ok (.goto 11, 3) := by decide +kernel
theorem dL_token_17 : decode cL_token 17 = .ok (.astore 6, 2) := by decide +kernel
theorem dL_token_19 : decode cL_token 19 = .ok (.iconst 1, 1) := by decide +kernel
theorem dL_token_20 : decode cL_token 20 = .ok (.ireturn, 1) := by decide +kernel
theorem dL_token_21 : decode cL_token 21 = .ok (.astore 6, 2) := by decide +kernel
theorem dL_token_23 : decode cL_token 23 = .ok (.iconst 2, 1) := by decide +kernel
theorem dL_token_24 : decode cL_token 24 = .ok (.ireturn, 1) := by decide +kernel
theorem dL_token_25 : decode cL_token 25 = .ok (.iconst 0, 1) := by decide +kernel
theorem dL_token_26 : decode cL_token 26 = .ok (.ireturn, 1) := by decide +kernel
theorem dL_both_0 : decode cL_both 0 = .ok (.aload_n 3, 1) := by decide +kernel
theorem dL_both_1 : decode cL_both 1 = .ok (.iconst 0, 1) := by decide +kernel
theorem dL_both_2 : decode cL_both 2 = .ok (.aload_n 0, 1) := by decide +kernel
theorem dL_both_3 : decode cL_both 3 = .ok (.iload_n 1, 1) := by decide +kernel
theorem dL_both_4 : decode cL_both 4 = .ok (.iload_n 2, 1) := by decide +kernel
theorem dL_both_5 : decode cL_both 5 = .ok (.invokevirtual 25, 3) := by decide +kernel
theorem dL_both_8 : decode cL_both 8 = .ok (.i2l, 1) := by decide +kernel
theorem dL_both_9 : decode cL_both 9 = .ok (.lastore, 1) := by decide +kernel
theorem dL_both_10 : decode cL_both 10 = .ok (.goto 11, 3) := by decide +kernel
theorem dL_both_13 : decode cL_both 13 = .ok (.astore 4, 2) := by decide +kernel
theorem dL_both_15 : decode cL_both 15 = .ok (.iconst 1, 1) := by decide +kernel
theorem dL_both_16 : decode cL_both 16 = .ok (.ireturn, 1) := by decide +kernel
theorem dL_both_17 : decode cL_both 17 = .ok (.astore 4, 2) := by decide +kernel
theorem dL_both_19 : decode cL_both 19 = .ok (.iconst 2, 1) := by decide +kernel
theorem dL_both_20 : decode cL_both 20 = .ok (.ireturn, 1) := by decide +kernel
theorem dL_both_21 : decode cL_both 21 = .ok (.iconst 0, 1) := by decide +kernel
theorem dL_both_22 : decode cL_both 22 = .ok (.ireturn, 1) := by decide +kernel
theorem dL_when_0 : decode cL_when 0 = .ok (.aload 5, 2) := by decide +kernel
theorem dL_when_2 : decode cL_when 2 = .ok (.iconst 0, 1) := by decide +kernel
theorem dL_when_3 : decode cL_when 3 = .ok (.aload_n 0, 1) := by decide +kernel
theorem dL_when_4 : decode cL_when 4 = .ok (.iload_n 1, 1) := by decide +kernel
theorem dL_when_5 : decode cL_when 5 = .ok (.iload_n 2, 1) := by decide +kernel
theorem dL_when_6 : decode cL_when 6 = .ok (.iload_n 3, 1) := by decide +kernel
theorem dL_when_7 : decode cL_when 7 = .ok (.iload 4, 2) := by decide +kernel
theorem dL_when_9 : decode cL_when 9 = .ok (.invokevirtual 30, 3) := by decide +kernel
theorem dL_when_12 : decode cL_when 12 = .ok (.i2l, 1) := by decide +kernel
theorem dL_when_13 : decode cL_when 13 = .ok (.lastore, 1) := by decide +kernel
theorem dL_when_14 : decode cL_when 14 = .ok (.goto 15, 3) := by decide +kernel
theorem dL_when_17 : decode cL_when 17 = .ok (.astore 6, 2) := by decide +kernel
theorem dL_when_19 : decode cL_when 19 = .ok (.iconst 1, 1) := by decide +kernel
theorem dL_when_20 : decode cL_when 20 = .ok (.ireturn, 1) := by decide +kernel
theorem dL_when_21 : decode cL_when 21 = .ok (.astore 6, 2) := by decide +kernel
theorem dL_when_23 : decode cL_when 23 = .ok (.iconst 2, 1) := by decide +kernel
theorem dL_when_24 : decode cL_when 24 = .ok (.ireturn, 1) := by decide +kernel
theorem dL_when_25 : decode cL_when 25 = .ok (.astore 6, 2) := by decide +kernel
theorem dL_when_27 : decode cL_when 27 = .ok (.iconst 3, 1) := by decide +kernel
theorem dL_when_28 : decode cL_when 28 = .ok (.ireturn, 1) := by decide +kernel
theorem dL_when_29 : decode cL_when 29 = .ok (.iconst 0, 1) := by decide +kernel
theorem dL_when_30 : decode cL_when 30 = .ok (.ireturn, 1) := by decide +kernel
theorem dL_either_0 : decode cL_either 0 = .ok (.aload 5, 2) := by decide +kernel
theorem dL_either_2 : decode cL_either 2 = .ok (.iconst 0, 1) := by decide +kernel
theorem dL_either_3 : decode cL_either 3 = .ok (.aload_n 0, 1) := by decide +kernel
theorem dL_either_4 : decode cL_either 4 = .ok (.iload_n 1, 1) := by decide +kernel
theorem dL_either_5 : decode cL_either 5 = .ok (.iload_n 2, 1) := by decide +kernel
theorem dL_either_6 : decode cL_either 6 = .ok (.iload_n 3, 1) := by decide +kernel
theorem dL_either_7 : decode cL_either 7 = .ok (.iload 4, 2) := by decide +kernel
theorem dL_either_9 : decode cL_either 9 = .ok (.invokevirtual 34, 3) := by decide +kernel
theorem dL_either_12 : decode cL_either 12 = .ok (.i2l, 1) := by decide +kernel
theorem dL_either_13 : decode cL_either 13 = .ok (.lastore, 1) := by decide +kernel
theorem dL_either_14 : decode cL_either 14 = .ok (.goto 15, 3) := by decide +kernel
theorem dL_either_17 : decode cL_either 17 = .ok (.astore 6, 2) := by decide +kernel
theorem dL_either_19 : decode cL_either 19 = .ok (.iconst 1, 1) := by decide +kernel
theorem dL_either_20 : decode cL_either 20 = .ok (.ireturn, 1) := by decide +kernel
theorem dL_either_21 : decode cL_either 21 = .ok (.astore 6, 2) := by decide +kernel
theorem dL_either_23 : decode cL_either 23 = .ok (.iconst 2, 1) := by decide +kernel
theorem dL_either_24 : decode cL_either 24 = .ok (.ireturn, 1) := by decide +kernel
theorem dL_either_25 : decode cL_either 25 = .ok (.astore 6, 2) := by decide +kernel
theorem dL_either_27 : decode cL_either 27 = .ok (.iconst 3, 1) := by decide +kernel
theorem dL_either_28 : decode cL_either 28 = .ok (.ireturn, 1) := by decide +kernel
theorem dL_either_29 : decode cL_either 29 = .ok (.iconst 0, 1) := by decide +kernel
theorem dL_either_30 : decode cL_either 30 = .ok (.ireturn, 1) := by decide +kernel
theorem dL_hide_0 : decode cL_hide 0 = .ok (.aload_n 3, 1) := by decide +kernel
theorem dL_hide_1 : decode cL_hide 1 = .ok (.iconst 0, 1) := by decide +kernel
theorem dL_hide_2 : decode cL_hide 2 = .ok (.aload_n 0, 1) := by decide +kernel
theorem dL_hide_3 : decode cL_hide 3 = .ok (.iload_n 1, 1) := by decide +kernel
theorem dL_hide_4 : decode cL_hide 4 = .ok (.iload_n 2, 1) := by decide +kernel
theorem dL_hide_5 : decode cL_hide 5 = .ok (.invokevirtual 37, 3) := by decide +kernel
theorem dL_hide_8 : decode cL_hide 8 = .ok (.i2l, 1) := by decide +kernel
theorem dL_hide_9 : decode cL_hide 9 = .ok (.lastore, 1) := by decide +kernel
theorem dL_hide_10 : decode cL_hide 10 = .ok (.goto 15, 3) := by decide +kernel
theorem dL_hide_13 : decode cL_hide 13 = .ok (.astore 4, 2) := by decide +kernel
theorem dL_hide_15 : decode cL_hide 15 = .ok (.iconst 1, 1) := by decide +kernel
theorem dL_hide_16 : decode cL_hide 16 = .ok (.ireturn, 1) := by decide +kernel
theorem dL_hide_17 : decode cL_hide 17 = .ok (.astore 4, 2) := by decide +kernel
theorem dL_hide_19 : decode cL_hide 19 = .ok (.iconst 2, 1) := by decide +kernel
theorem dL_hide_20 : decode cL_hide 20 = .ok (.ireturn, 1) := by decide +kernel
theorem dL_hide_21 : decode cL_hide 21 = .ok (.astore 4, 2) := by decide +kernel
theorem dL_hide_23 : decode cL_hide 23 = .ok (.iconst 3, 1) := by decide +kernel
theorem dL_hide_24 : decode cL_hide 24 = .ok (.ireturn, 1) := by decide +kernel
theorem dL_hide_25 : decode cL_hide 25 = .ok (.iconst 0, 1) := by decide +kernel
theorem dL_hide_26 : decode cL_hide 26 = .ok (.ireturn, 1) := by decide +kernel
theorem dL_call_0 : decode cL_call 0 = .ok (.aload 4, 2) := by decide +kernel
theorem dL_call_2 : decode cL_call 2 = .ok (.iconst 0, 1) := by decide +kernel
theorem dL_call_3 : decode cL_call 3 = .ok (.aload_n 0, 1) := by decide +kernel
theorem dL_call_4 : decode cL_call 4 = .ok (.iload_n 1, 1) := by decide +kernel
theorem dL_call_5 : decode cL_call 5 = .ok (.iload_n 2, 1) := by decide +kernel
theorem dL_call_6 : decode cL_call 6 = .ok (.iload_n 3, 1) := by decide +kernel
theorem dL_call_7 : decode cL_call 7 = .ok (.invokevirtual 40, 3) := by decide +kernel
theorem dL_call_10 : decode cL_call 10 = .ok (.i2l, 1) := by decide +kernel
theorem dL_call_11 : decode cL_call 11 = .ok (.lastore, 1) := by decide +kernel
theorem dL_call_12 : decode cL_call 12 = .ok (.goto 15, 3) := by decide +kernel
theorem dL_call_15 : decode cL_call 15 = .ok (.astore 5, 2) := by decide +kernel
theorem dL_call_17 : decode cL_call 17 = .ok (.iconst 1, 1) := by decide +kernel
theorem dL_call_18 : decode cL_call 18 = .ok (.ireturn, 1) := by decide +kernel
theorem dL_call_19 : decode cL_call 19 = .ok (.astore 5, 2) := by decide +kernel
theorem dL_call_21 : decode cL_call 21 = .ok (.iconst 2, 1) := by decide +kernel
theorem dL_call_22 : decode cL_call 22 = .ok (.ireturn, 1) := by decide +kernel
theorem dL_call_23 : decode cL_call 23 = .ok (.astore 5, 2) := by decide +kernel
theorem dL_call_25 : decode cL_call 25 = .ok (.iconst 3, 1) := by decide +kernel
theorem dL_call_26 : decode cL_call 26 = .ok (.ireturn, 1) := by decide +kernel
theorem dL_call_27 : decode cL_call 27 = .ok (.iconst 0, 1) := by decide +kernel
theorem dL_call_28 : decode cL_call 28 = .ok (.ireturn, 1) := by decide +kernel
theorem dL_next_0 : decode cL_next 0 = .ok (.aload_n 2, 1) := by decide +kernel
theorem dL_next_1 : decode cL_next 1 = .ok (.iconst 0, 1) := by decide +kernel
theorem dL_next_2 : decode cL_next 2 = .ok (.aload_n 0, 1) := by decide +kernel
theorem dL_next_3 : decode cL_next 3 = .ok (.iload_n 1, 1) := by decide +kernel
theorem dL_next_4 : decode cL_next 4 = .ok (.invokevirtual 44, 3) := by decide +kernel
theorem dL_next_7 : decode cL_next 7 = .ok (.i2l, 1) := by decide +kernel
theorem dL_next_8 : decode cL_next 8 = .ok (.lastore, 1) := by decide +kernel
theorem dL_next_9 : decode cL_next 9 = .ok (.goto 9, 3) := by decide +kernel
theorem dL_next_12 : decode cL_next 12 = .ok (.astore_n 3, 1) := by decide +kernel
theorem dL_next_13 : decode cL_next 13 = .ok (.iconst 1, 1) := by decide +kernel
theorem dL_next_14 : decode cL_next 14 = .ok (.ireturn, 1) := by decide +kernel
theorem dL_next_15 : decode cL_next 15 = .ok (.astore_n 3, 1) := by decide +kernel
theorem dL_next_16 : decode cL_next 16 = .ok (.iconst 2, 1) := by decide +kernel
theorem dL_next_17 : decode cL_next 17 = .ok (.ireturn, 1) := by decide +kernel
theorem dL_next_18 : decode cL_next 18 = .ok (.iconst 0, 1) := by decide +kernel
theorem dL_next_19 : decode cL_next 19 = .ok (.ireturn, 1) := by decide +kernel
theorem dL_each_0 : decode cL_each 0 = .ok (.aload_n 2, 1) := by decide +kernel
theorem dL_each_1 : decode cL_each 1 = .ok (.iconst 0, 1) := by decide +kernel
theorem dL_each_2 : decode cL_each 2 = .ok (.aload_n 0, 1) := by decide +kernel
theorem dL_each_3 : decode cL_each 3 = .ok (.iload_n 1, 1) := by decide +kernel
theorem dL_each_4 : decode cL_each 4 = .ok (.invokevirtual 48, 3) := by decide +kernel
theorem dL_each_7 : decode cL_each 7 = .ok (.i2l, 1) := by decide +kernel
theorem dL_each_8 : decode cL_each 8 = .ok (.lastore, 1) := by decide +kernel
theorem dL_each_9 : decode cL_each 9 = .ok (.goto 9, 3) := by decide +kernel
theorem dL_each_12 : decode cL_each 12 = .ok (.astore_n 3, 1) := by decide +kernel
theorem dL_each_13 : decode cL_each 13 = .ok (.iconst 1, 1) := by decide +kernel
theorem dL_each_14 : decode cL_each 14 = .ok (.ireturn, 1) := by decide +kernel
theorem dL_each_15 : decode cL_each 15 = .ok (.astore_n 3, 1) := by decide +kernel
theorem dL_each_16 : decode cL_each 16 = .ok (.iconst 2, 1) := by decide +kernel
theorem dL_each_17 : decode cL_each 17 = .ok (.ireturn, 1) := by decide +kernel
theorem dL_each_18 : decode cL_each 18 = .ok (.iconst 0, 1) := by decide +kernel
theorem dL_each_19 : decode cL_each 19 = .ok (.ireturn, 1) := by decide +kernel
theorem dL_unless_0 : decode cL_unless 0 = .ok (.aload 6, 2) := by decide +kernel
theorem dL_unless_2 : decode cL_unless 2 = .ok (.iconst 0, 1) := by decide +kernel
theorem dL_unless_3 : decode cL_unless 3 = .ok (.aload_n 0, 1) := by decide +kernel
theorem dL_unless_4 : decode cL_unless 4 = .ok (.iload_n 1, 1) := by decide +kernel
theorem dL_unless_5 : decode cL_unless 5 = .ok (.iload_n 2, 1) := by decide +kernel
theorem dL_unless_6 : decode cL_unless 6 = .ok (.iload_n 3, 1) := by decide +kernel
theorem dL_unless_7 : decode cL_unless 7 = .ok (.iload 4, 2) := by decide +kernel
theorem dL_unless_9 : decode cL_unless 9 = .ok (.iload 5, 2) := by decide +kernel
theorem dL_unless_11 : decode cL_unless 11 = .ok (.invokevirtual 51, 3) := by decide +kernel
theorem dL_unless_14 : decode cL_unless 14 = .ok (.i2l, 1) := by decide +kernel
theorem dL_unless_15 : decode cL_unless 15 = .ok (.lastore, 1) := by decide +kernel
theorem dL_unless_16 : decode cL_unless 16 = .ok (.goto 15, 3) := by decide +kernel
theorem dL_unless_19 : decode cL_unless 19 = .ok (.astore 7, 2) := by decide +kernel
theorem dL_unless_21 : decode cL_unless 21 = .ok (.iconst 1, 1) := by decide +kernel
theorem dL_unless_22 : decode cL_unless 22 = .ok (.ireturn, 1) := by decide +kernel
theorem dL_unless_23 : decode cL_unless 23 = .ok (.astore 7, 2) := by decide +kernel
theorem dL_unless_25 : decode cL_unless 25 = .ok (.iconst 2, 1) := by decide +kernel
theorem dL_unless_26 : decode cL_unless 26 = .ok (.ireturn, 1) := by decide +kernel
theorem dL_unless_27 : decode cL_unless 27 = .ok (.astore 7, 2) := by decide +kernel
theorem dL_unless_29 : decode cL_unless 29 = .ok (.iconst 3, 1) := by decide +kernel
theorem dL_unless_30 : decode cL_unless 30 = .ok (.ireturn, 1) := by decide +kernel
theorem dL_unless_31 : decode cL_unless 31 = .ok (.iconst 0, 1) := by decide +kernel
theorem dL_unless_32 : decode cL_unless 32 = .ok (.ireturn, 1) := by decide +kernel
theorem dL_lot_0 : decode cL_lot 0 = .ok (.aload 5, 2) := by decide +kernel
theorem dL_lot_2 : decode cL_lot 2 = .ok (.iconst 0, 1) := by decide +kernel
theorem dL_lot_3 : decode cL_lot 3 = .ok (.aload_n 0, 1) := by decide +kernel
theorem dL_lot_4 : decode cL_lot 4 = .ok (.iload_n 1, 1) := by decide +kernel
theorem dL_lot_5 : decode cL_lot 5 = .ok (.iload_n 2, 1) := by decide +kernel
theorem dL_lot_6 : decode cL_lot 6 = .ok (.iload_n 3, 1) := by decide +kernel
theorem dL_lot_7 : decode cL_lot 7 = .ok (.iload 4, 2) := by decide +kernel
theorem dL_lot_9 : decode cL_lot 9 = .ok (.invokevirtual 55, 3) := by decide +kernel
theorem dL_lot_12 : decode cL_lot 12 = .ok (.i2l, 1) := by decide +kernel
theorem dL_lot_13 : decode cL_lot 13 = .ok (.lastore, 1) := by decide +kernel
theorem dL_lot_14 : decode cL_lot 14 = .ok (.goto 15, 3) := by decide +kernel
theorem dL_lot_17 : decode cL_lot 17 = .ok (.astore 6, 2) := by decide +kernel
theorem dL_lot_19 : decode cL_lot 19 = .ok (.iconst 1, 1) := by decide +kernel
theorem dL_lot_20 : decode cL_lot 20 = .ok (.ireturn, 1) := by decide +kernel
theorem dL_lot_21 : decode cL_lot 21 = .ok (.astore 6, 2) := by decide +kernel
theorem dL_lot_23 : decode cL_lot 23 = .ok (.iconst 2, 1) := by decide +kernel
theorem dL_lot_24 : decode cL_lot 24 = .ok (.ireturn, 1) := by decide +kernel
theorem dL_lot_25 : decode cL_lot 25 = .ok (.astore 6, 2) := by decide +kernel
theorem dL_lot_27 : decode cL_lot 27 = .ok (.iconst 3, 1) := by decide +kernel
theorem dL_lot_28 : decode cL_lot 28 = .ok (.ireturn, 1) := by decide +kernel
theorem dL_lot_29 : decode cL_lot 29 = .ok (.iconst 0, 1) := by decide +kernel
theorem dL_lot_30 : decode cL_lot 30 = .ok (.ireturn, 1) := by decide +kernel
theorem dL_attempt_0 : decode cL_attempt 0 = .ok (.aload_n 3, 1) := by decide +kernel
theorem dL_attempt_1 : decode cL_attempt 1 = .ok (.iconst 0, 1) := by decide +kernel
theorem dL_attempt_2 : decode cL_attempt 2 = .ok (.aload_n 0, 1) := by decide +kernel
theorem dL_attempt_3 : decode cL_attempt 3 = .ok (.iload_n 1, 1) := by decide +kernel
theorem dL_attempt_4 : decode cL_attempt 4 = .ok (.iload_n 2, 1) := by decide +kernel
theorem dL_attempt_5 : decode cL_attempt 5 = .ok (.invokevirtual 58, 3) := by decide +kernel
theorem dL_attempt_8 : decode cL_attempt 8 = .ok (.i2l, 1) := by decide +kernel
theorem dL_attempt_9 : decode cL_attempt 9 = .ok (.lastore, 1) := by decide +kernel
theorem dL_attempt_10 : decode cL_attempt 10 = .ok (.goto 11, 3) := by decide +kernel
theorem dL_attempt_13 : decode cL_attempt 13 = .ok (.astore 4, 2) := by decide +kernel
theorem dL_attempt_15 : decode cL_attempt 15 = .ok (.iconst 1, 1) := by decide +kernel
theorem dL_attempt_16 : decode cL_attempt 16 = .ok (.ireturn, 1) := by decide +kernel
theorem dL_attempt_17 : decode cL_attempt 17 = .ok (.astore 4, 2) := by decide +kernel
theorem dL_attempt_19 : decode cL_attempt 19 = .ok (.iconst 2, 1) := by decide +kernel
theorem dL_attempt_20 : decode cL_attempt 20 = .ok (.ireturn, 1) := by decide +kernel
theorem dL_attempt_21 : decode cL_attempt 21 = .ok (.iconst 0, 1) := by decide +kernel
theorem dL_attempt_22 : decode cL_attempt 22 = .ok (.ireturn, 1) := by decide +kernel
theorem dL_define_0 : decode cL_define 0 = .ok (.aload_n 3, 1) := by decide +kernel
theorem dL_define_1 : decode cL_define 1 = .ok (.iconst 0, 1) := by decide +kernel
theorem dL_define_2 : decode cL_define 2 = .ok (.aload_n 0, 1) := by decide +kernel
theorem dL_define_3 : decode cL_define 3 = .ok (.iload_n 1, 1) := by decide +kernel
theorem dL_define_4 : decode cL_define 4 = .ok (.iload_n 2, 1) := by decide +kernel
theorem dL_define_5 : decode cL_define 5 = .ok (.invokevirtual 61, 3) := by decide +kernel
theorem dL_define_8 : decode cL_define 8 = .ok (.i2l, 1) := by decide +kernel
theorem dL_define_9 : decode cL_define 9 = .ok (.lastore, 1) := by decide +kernel
theorem dL_define_10 : decode cL_define 10 = .ok (.goto 7, 3) := by decide +kernel
theorem dL_define_13 : decode cL_define 13 = .ok (.astore 4, 2) := by decide +kernel
theorem dL_define_15 : decode cL_define 15 = .ok (.iconst 1, 1) := by decide +kernel
theorem dL_define_16 : decode cL_define 16 = .ok (.ireturn, 1) := by decide +kernel
theorem dL_define_17 : decode cL_define 17 = .ok (.iconst 0, 1) := by decide +kernel
theorem dL_define_18 : decode cL_define 18 = .ok (.ireturn, 1) := by decide +kernel
theorem dL_head_0 : decode cL_head 0 = .ok (.aload 5, 2) := by decide +kernel
theorem dL_head_2 : decode cL_head 2 = .ok (.iconst 0, 1) := by decide +kernel
theorem dL_head_3 : decode cL_head 3 = .ok (.aload_n 0, 1) := by decide +kernel
theorem dL_head_4 : decode cL_head 4 = .ok (.iload_n 1, 1) := by decide +kernel
theorem dL_head_5 : decode cL_head 5 = .ok (.iload_n 2, 1) := by decide +kernel
theorem dL_head_6 : decode cL_head 6 = .ok (.iload_n 3, 1) := by decide +kernel
theorem dL_head_7 : decode cL_head 7 = .ok (.iload 4, 2) := by decide +kernel
theorem dL_head_9 : decode cL_head 9 = .ok (.invokevirtual 64, 3) := by decide +kernel
theorem dL_head_12 : decode cL_head 12 = .ok (.ifCond .eq 7, 3) := by decide +kernel
theorem dL_head_15 : decode cL_head 15 = .ok (.lconst 1, 1) := by decide +kernel
theorem dL_head_16 : decode cL_head 16 = .ok (.goto 4, 3) := by decide +kernel
theorem dL_head_19 : decode cL_head 19 = .ok (.lconst 0, 1) := by decide +kernel
theorem dL_head_20 : decode cL_head 20 = .ok (.lastore, 1) := by decide +kernel
theorem dL_head_21 : decode cL_head 21 = .ok (.goto 7, 3) := by decide +kernel
theorem dL_head_24 : decode cL_head 24 = .ok (.astore 6, 2) := by decide +kernel
theorem dL_head_26 : decode cL_head 26 = .ok (.iconst 1, 1) := by decide +kernel
theorem dL_head_27 : decode cL_head 27 = .ok (.ireturn, 1) := by decide +kernel
theorem dL_head_28 : decode cL_head 28 = .ok (.iconst 0, 1) := by decide +kernel
theorem dL_head_29 : decode cL_head 29 = .ok (.ireturn, 1) := by decide +kernel
theorem dL_other_0 : decode cL_other 0 = .ok (.aload 5, 2) := by decide +kernel
theorem dL_other_2 : decode cL_other 2 = .ok (.iconst 0, 1) := by decide +kernel
theorem dL_other_3 : decode cL_other 3 = .ok (.aload_n 0, 1) := by decide +kernel
theorem dL_other_4 : decode cL_other 4 = .ok (.iload_n 1, 1) := by decide +kernel
theorem dL_other_5 : decode cL_other 5 = .ok (.iload_n 2, 1) := by decide +kernel
theorem dL_other_6 : decode cL_other 6 = .ok (.iload_n 3, 1) := by decide +kernel
theorem dL_other_7 : decode cL_other 7 = .ok (.iload 4, 2) := by decide +kernel
theorem dL_other_9 : decode cL_other 9 = .ok (.invokevirtual 68, 3) := by decide +kernel
theorem dL_other_12 : decode cL_other 12 = .ok (.i2l, 1) := by decide +kernel
theorem dL_other_13 : decode cL_other 13 = .ok (.lastore, 1) := by decide +kernel
theorem dL_other_14 : decode cL_other 14 = .ok (.goto 11, 3) := by decide +kernel
theorem dL_other_17 : decode cL_other 17 = .ok (.astore 6, 2) := by decide +kernel
theorem dL_other_19 : decode cL_other 19 = .ok (.iconst 1, 1) := by decide +kernel
theorem dL_other_20 : decode cL_other 20 = .ok (.ireturn, 1) := by decide +kernel
theorem dL_other_21 : decode cL_other 21 = .ok (.astore 6, 2) := by decide +kernel
theorem dL_other_23 : decode cL_other 23 = .ok (.iconst 2, 1) := by decide +kernel
theorem dL_other_24 : decode cL_other 24 = .ok (.ireturn, 1) := by decide +kernel
theorem dL_other_25 : decode cL_other 25 = .ok (.iconst 0, 1) := by decide +kernel
theorem dL_other_26 : decode cL_other 26 = .ok (.ireturn, 1) := by decide +kernel
theorem dL_guard_0 : decode cL_guard 0 = .ok (.aload 4, 2) := by decide +kernel
theorem dL_guard_2 : decode cL_guard 2 = .ok (.iconst 0, 1) := by decide +kernel
theorem dL_guard_3 : decode cL_guard 3 = .ok (.aload_n 0, 1) := by decide +kernel
theorem dL_guard_4 : decode cL_guard 4 = .ok (.iload_n 1, 1) := by decide +kernel
theorem dL_guard_5 : decode cL_guard 5 = .ok (.iload_n 2, 1) := by decide +kernel
theorem dL_guard_6 : decode cL_guard 6 = .ok (.iload_n 3, 1) := by decide +kernel
theorem dL_guard_7 : decode cL_guard 7 = .ok (.invokevirtual 71, 3) := by decide +kernel
theorem dL_guard_10 : decode cL_guard 10 = .ok (.ifCond .eq 7, 3) := by decide +kernel
theorem dL_guard_13 : decode cL_guard 13 = .ok (.lconst 1, 1) := by decide +kernel
theorem dL_guard_14 : decode cL_guard 14 = .ok (.goto 4, 3) := by decide +kernel
theorem dL_guard_17 : decode cL_guard 17 = .ok (.lconst 0, 1) := by decide +kernel
theorem dL_guard_18 : decode cL_guard 18 = .ok (.lastore, 1) := by decide +kernel
theorem dL_guard_19 : decode cL_guard 19 = .ok (.goto 11, 3) := by decide +kernel
theorem dL_guard_22 : decode cL_guard 22 = .ok (.astore 5, 2) := by decide +kernel
theorem dL_guard_24 : decode cL_guard 24 = .ok (.iconst 1, 1) := by decide +kernel
theorem dL_guard_25 : decode cL_guard 25 = .ok (.ireturn, 1) := by decide +kernel
theorem dL_guard_26 : decode cL_guard 26 = .ok (.astore 5, 2) := by decide +kernel
theorem dL_guard_28 : decode cL_guard 28 = .ok (.iconst 2, 1) := by decide +kernel
theorem dL_guard_29 : decode cL_guard 29 = .ok (.ireturn, 1) := by decide +kernel
theorem dL_guard_30 : decode cL_guard 30 = .ok (.iconst 0, 1) := by decide +kernel
theorem dL_guard_31 : decode cL_guard 31 = .ok (.ireturn, 1) := by decide +kernel
theorem dL_body_0 : decode cL_body 0 = .ok (.aload 4, 2) := by decide +kernel
theorem dL_body_2 : decode cL_body 2 = .ok (.iconst 0, 1) := by decide +kernel
theorem dL_body_3 : decode cL_body 3 = .ok (.aload_n 0, 1) := by decide +kernel
theorem dL_body_4 : decode cL_body 4 = .ok (.iload_n 1, 1) := by decide +kernel
theorem dL_body_5 : decode cL_body 5 = .ok (.iload_n 2, 1) := by decide +kernel
theorem dL_body_6 : decode cL_body 6 = .ok (.iload_n 3, 1) := by decide +kernel
theorem dL_body_7 : decode cL_body 7 = .ok (.invokevirtual 75, 3) := by decide +kernel
theorem dL_body_10 : decode cL_body 10 = .ok (.i2l, 1) := by decide +kernel
theorem dL_body_11 : decode cL_body 11 = .ok (.lastore, 1) := by decide +kernel
theorem dL_body_12 : decode cL_body 12 = .ok (.goto 11, 3) := by decide +kernel
theorem dL_body_15 : decode cL_body 15 = .ok (.astore 5, 2) := by decide +kernel
theorem dL_body_17 : decode cL_body 17 = .ok (.iconst 1, 1) := by decide +kernel
theorem dL_body_18 : decode cL_body 18 = .ok (.ireturn, 1) := by decide +kernel
theorem dL_body_19 : decode cL_body 19 = .ok (.astore 5, 2) := by decide +kernel
theorem dL_body_21 : decode cL_body 21 = .ok (.iconst 2, 1) := by decide +kernel
theorem dL_body_22 : decode cL_body 22 = .ok (.ireturn, 1) := by decide +kernel
theorem dL_body_23 : decode cL_body 23 = .ok (.iconst 0, 1) := by decide +kernel
theorem dL_body_24 : decode cL_body 24 = .ok (.ireturn, 1) := by decide +kernel
theorem dL_rule_0 : decode cL_rule 0 = .ok (.aload_n 1, 1) := by decide +kernel
theorem dL_rule_1 : decode cL_rule 1 = .ok (.iconst 0, 1) := by decide +kernel
theorem dL_rule_2 : decode cL_rule 2 = .ok (.aload_n 0, 1) := by decide +kernel
theorem dL_rule_3 : decode cL_rule 3 = .ok (.invokevirtual 78, 3) := by decide +kernel
theorem dL_rule_6 : decode cL_rule 6 = .ok (.i2l, 1) := by decide +kernel
theorem dL_rule_7 : decode cL_rule 7 = .ok (.lastore, 1) := by decide +kernel
theorem dL_rule_8 : decode cL_rule 8 = .ok (.goto 6, 3) := by decide +kernel
theorem dL_rule_11 : decode cL_rule 11 = .ok (.astore_n 2, 1) := by decide +kernel
theorem dL_rule_12 : decode cL_rule 12 = .ok (.iconst 1, 1) := by decide +kernel
theorem dL_rule_13 : decode cL_rule 13 = .ok (.ireturn, 1) := by decide +kernel
theorem dL_rule_14 : decode cL_rule 14 = .ok (.iconst 0, 1) := by decide +kernel
theorem dL_rule_15 : decode cL_rule 15 = .ok (.ireturn, 1) := by decide +kernel
theorem dL_begin_0 : decode cL_begin 0 = .ok (.aload 4, 2) := by decide +kernel
theorem dL_begin_2 : decode cL_begin 2 = .ok (.iconst 0, 1) := by decide +kernel
theorem dL_begin_3 : decode cL_begin 3 = .ok (.aload_n 0, 1) := by decide +kernel
theorem dL_begin_4 : decode cL_begin 4 = .ok (.iload_n 1, 1) := by decide +kernel
theorem dL_begin_5 : decode cL_begin 5 = .ok (.iload_n 2, 1) := by decide +kernel
theorem dL_begin_6 : decode cL_begin 6 = .ok (.iload_n 3, 1) := by decide +kernel
theorem dL_begin_7 : decode cL_begin 7 = .ok (.invokevirtual 81, 3) := by decide +kernel
theorem dL_begin_10 : decode cL_begin 10 = .ok (.i2l, 1) := by decide +kernel
theorem dL_begin_11 : decode cL_begin 11 = .ok (.lastore, 1) := by decide +kernel
theorem dL_begin_12 : decode cL_begin 12 = .ok (.goto 15, 3) := by decide +kernel
theorem dL_begin_15 : decode cL_begin 15 = .ok (.astore 5, 2) := by decide +kernel
theorem dL_begin_17 : decode cL_begin 17 = .ok (.iconst 1, 1) := by decide +kernel
theorem dL_begin_18 : decode cL_begin 18 = .ok (.ireturn, 1) := by decide +kernel
theorem dL_begin_19 : decode cL_begin 19 = .ok (.astore 5, 2) := by decide +kernel
theorem dL_begin_21 : decode cL_begin 21 = .ok (.iconst 2, 1) := by decide +kernel
theorem dL_begin_22 : decode cL_begin 22 = .ok (.ireturn, 1) := by decide +kernel
theorem dL_begin_23 : decode cL_begin 23 = .ok (.astore 5, 2) := by decide +kernel
theorem dL_begin_25 : decode cL_begin 25 = .ok (.iconst 3, 1) := by decide +kernel
theorem dL_begin_26 : decode cL_begin 26 = .ok (.ireturn, 1) := by decide +kernel
theorem dL_begin_27 : decode cL_begin 27 = .ok (.iconst 0, 1) := by decide +kernel
theorem dL_begin_28 : decode cL_begin 28 = .ok (.ireturn, 1) := by decide +kernel
theorem dL_step_0 : decode cL_step 0 = .ok (.aload_n 1, 1) := by decide +kernel
theorem dL_step_1 : decode cL_step 1 = .ok (.iconst 0, 1) := by decide +kernel
theorem dL_step_2 : decode cL_step 2 = .ok (.aload_n 0, 1) := by decide +kernel
theorem dL_step_3 : decode cL_step 3 = .ok (.invokevirtual 84, 3) := by decide +kernel
theorem dL_step_6 : decode cL_step 6 = .ok (.i2l, 1) := by decide +kernel
theorem dL_step_7 : decode cL_step 7 = .ok (.lastore, 1) := by decide +kernel
theorem dL_step_8 : decode cL_step 8 = .ok (.goto 6, 3) := by decide +kernel
theorem dL_step_11 : decode cL_step 11 = .ok (.astore_n 2, 1) := by decide +kernel
theorem dL_step_12 : decode cL_step 12 = .ok (.iconst 1, 1) := by decide +kernel
theorem dL_step_13 : decode cL_step 13 = .ok (.ireturn, 1) := by decide +kernel
theorem dL_step_14 : decode cL_step 14 = .ok (.iconst 0, 1) := by decide +kernel
theorem dL_step_15 : decode cL_step 15 = .ok (.ireturn, 1) := by decide +kernel
theorem dL_seed_0 : decode cL_seed 0 = .ok (.aload_n 2, 1) := by decide +kernel
theorem dL_seed_1 : decode cL_seed 1 = .ok (.iconst 0, 1) := by decide +kernel
theorem dL_seed_2 : decode cL_seed 2 = .ok (.aload_n 0, 1) := by decide +kernel
theorem dL_seed_3 : decode cL_seed 3 = .ok (.iload_n 1, 1) := by decide +kernel
theorem dL_seed_4 : decode cL_seed 4 = .ok (.invokevirtual 87, 3) := by decide +kernel
theorem dL_seed_7 : decode cL_seed 7 = .ok (.i2l, 1) := by decide +kernel
theorem dL_seed_8 : decode cL_seed 8 = .ok (.lastore, 1) := by decide +kernel
theorem dL_seed_9 : decode cL_seed 9 = .ok (.goto 6, 3) := by decide +kernel
theorem dL_seed_12 : decode cL_seed 12 = .ok (.astore_n 3, 1) := by decide +kernel
theorem dL_seed_13 : decode cL_seed 13 = .ok (.iconst 1, 1) := by decide +kernel
theorem dL_seed_14 : decode cL_seed 14 = .ok (.ireturn, 1) := by decide +kernel
theorem dL_seed_15 : decode cL_seed 15 = .ok (.iconst 0, 1) := by decide +kernel
theorem dL_seed_16 : decode cL_seed 16 = .ok (.ireturn, 1) := by decide +kernel
theorem dL_ends_0 : decode cL_ends 0 = .ok (.aload_n 1, 1) := by decide +kernel
theorem dL_ends_1 : decode cL_ends 1 = .ok (.iconst 0, 1) := by decide +kernel
theorem dL_ends_2 : decode cL_ends 2 = .ok (.aload_n 0, 1) := by decide +kernel
theorem dL_ends_3 : decode cL_ends 3 = .ok (.invokevirtual 90, 3) := by decide +kernel
theorem dL_ends_6 : decode cL_ends 6 = .ok (.i2l, 1) := by decide +kernel
theorem dL_ends_7 : decode cL_ends 7 = .ok (.lastore, 1) := by decide +kernel
theorem dL_ends_8 : decode cL_ends 8 = .ok (.goto 6, 3) := by decide +kernel
theorem dL_ends_11 : decode cL_ends 11 = .ok (.astore_n 2, 1) := by decide +kernel
theorem dL_ends_12 : decode cL_ends 12 = .ok (.iconst 1, 1) := by decide +kernel
theorem dL_ends_13 : decode cL_ends 13 = .ok (.ireturn, 1) := by decide +kernel
theorem dL_ends_14 : decode cL_ends 14 = .ok (.iconst 0, 1) := by decide +kernel
theorem dL_ends_15 : decode cL_ends 15 = .ok (.ireturn, 1) := by decide +kernel
theorem dL_value_0 : decode cL_value 0 = .ok (.aload_n 2, 1) := by decide +kernel
theorem dL_value_1 : decode cL_value 1 = .ok (.iconst 0, 1) := by decide +kernel
theorem dL_value_2 : decode cL_value 2 = .ok (.aload_n 0, 1) := by decide +kernel
theorem dL_value_3 : decode cL_value 3 = .ok (.iload_n 1, 1) := by decide +kernel
theorem dL_value_4 : decode cL_value 4 = .ok (.invokevirtual 93, 3) := by decide +kernel
theorem dL_value_7 : decode cL_value 7 = .ok (.i2l, 1) := by decide +kernel
theorem dL_value_8 : decode cL_value 8 = .ok (.lastore, 1) := by decide +kernel
theorem dL_value_9 : decode cL_value 9 = .ok (.goto 6, 3) := by decide +kernel
theorem dL_value_12 : decode cL_value 12 = .ok (.astore_n 3, 1) := by decide +kernel
theorem dL_value_13 : decode cL_value 13 = .ok (.iconst 1, 1) := by decide +kernel
theorem dL_value_14 : decode cL_value 14 = .ok (.ireturn, 1) := by decide +kernel
theorem dL_value_15 : decode cL_value 15 = .ok (.iconst 0, 1) := by decide +kernel
theorem dL_value_16 : decode cL_value 16 = .ok (.ireturn, 1) := by decide +kernel
theorem dL_areOne_0 : decode cL_areOne 0 = .ok (.aload_n 3, 1) := by decide +kernel
theorem dL_areOne_1 : decode cL_areOne 1 = .ok (.iconst 0, 1) := by decide +kernel
theorem dL_areOne_2 : decode cL_areOne 2 = .ok (.aload_n 0, 1) := by decide +kernel
theorem dL_areOne_3 : decode cL_areOne 3 = .ok (.iload_n 1, 1) := by decide +kernel
theorem dL_areOne_4 : decode cL_areOne 4 = .ok (.iload_n 2, 1) := by decide +kernel
theorem dL_areOne_5 : decode cL_areOne 5 = .ok (.invokevirtual 96, 3) := by decide +kernel
theorem dL_areOne_8 : decode cL_areOne 8 = .ok (.ifCond .eq 7, 3) := by decide +kernel
theorem dL_areOne_11 : decode cL_areOne 11 = .ok (.lconst 1, 1) := by decide +kernel
theorem dL_areOne_12 : decode cL_areOne 12 = .ok (.goto 4, 3) := by decide +kernel
theorem dL_areOne_15 : decode cL_areOne 15 = .ok (.lconst 0, 1) := by decide +kernel
theorem dL_areOne_16 : decode cL_areOne 16 = .ok (.lastore, 1) := by decide +kernel
theorem dL_areOne_17 : decode cL_areOne 17 = .ok (.goto 7, 3) := by decide +kernel
theorem dL_areOne_20 : decode cL_areOne 20 = .ok (.astore 4, 2) := by decide +kernel
theorem dL_areOne_22 : decode cL_areOne 22 = .ok (.iconst 1, 1) := by decide +kernel
theorem dL_areOne_23 : decode cL_areOne 23 = .ok (.ireturn, 1) := by decide +kernel
theorem dL_areOne_24 : decode cL_areOne 24 = .ok (.iconst 0, 1) := by decide +kernel
theorem dL_areOne_25 : decode cL_areOne 25 = .ok (.ireturn, 1) := by decide +kernel
theorem dL_part_0 : decode cL_part 0 = .ok (.aload_n 3, 1) := by decide +kernel
theorem dL_part_1 : decode cL_part 1 = .ok (.iconst 0, 1) := by decide +kernel
theorem dL_part_2 : decode cL_part 2 = .ok (.aload_n 0, 1) := by decide +kernel
theorem dL_part_3 : decode cL_part 3 = .ok (.iload_n 1, 1) := by decide +kernel
theorem dL_part_4 : decode cL_part 4 = .ok (.iload_n 2, 1) := by decide +kernel
theorem dL_part_5 : decode cL_part 5 = .ok (.invokevirtual 100, 3) := by decide +kernel
theorem dL_part_8 : decode cL_part 8 = .ok (.i2l, 1) := by decide +kernel
theorem dL_part_9 : decode cL_part 9 = .ok (.lastore, 1) := by decide +kernel
theorem dL_part_10 : decode cL_part 10 = .ok (.goto 11, 3) := by decide +kernel
theorem dL_part_13 : decode cL_part 13 = .ok (.astore 4, 2) := by decide +kernel
theorem dL_part_15 : decode cL_part 15 = .ok (.iconst 1, 1) := by decide +kernel
theorem dL_part_16 : decode cL_part 16 = .ok (.ireturn, 1) := by decide +kernel
theorem dL_part_17 : decode cL_part 17 = .ok (.astore 4, 2) := by decide +kernel
theorem dL_part_19 : decode cL_part 19 = .ok (.iconst 2, 1) := by decide +kernel
theorem dL_part_20 : decode cL_part 20 = .ok (.ireturn, 1) := by decide +kernel
theorem dL_part_21 : decode cL_part 21 = .ok (.iconst 0, 1) := by decide +kernel
theorem dL_part_22 : decode cL_part 22 = .ok (.ireturn, 1) := by decide +kernel
theorem dL_isMadeBy_0 : decode cL_isMadeBy 0 = .ok (.aload_n 3, 1) := by decide +kernel
theorem dL_isMadeBy_1 : decode cL_isMadeBy 1 = .ok (.iconst 0, 1) := by decide +kernel
theorem dL_isMadeBy_2 : decode cL_isMadeBy 2 = .ok (.aload_n 0, 1) := by decide +kernel
theorem dL_isMadeBy_3 : decode cL_isMadeBy 3 = .ok (.iload_n 1, 1) := by decide +kernel
theorem dL_isMadeBy_4 : decode cL_isMadeBy 4 = .ok (.iload_n 2, 1) := by decide +kernel
theorem dL_isMadeBy_5 : decode cL_isMadeBy 5 = .ok (.invokevirtual 103, 3) := by decide +kernel
theorem dL_isMadeBy_8 : decode cL_isMadeBy 8 = .ok (.ifCond .eq 7, 3) := by decide +kernel
theorem dL_isMadeBy_11 : decode cL_isMadeBy 11 = .ok (.lconst 1, 1) := by decide +kernel
theorem dL_isMadeBy_12 : decode cL_isMadeBy 12 = .ok (.goto 4, 3) := by decide +kernel
theorem dL_isMadeBy_15 : decode cL_isMadeBy 15 = .ok (.lconst 0, 1) := by decide +kernel
theorem dL_isMadeBy_16 : decode cL_isMadeBy 16 = .ok (.lastore, 1) := by decide +kernel
theorem dL_isMadeBy_17 : decode cL_isMadeBy 17 = .ok (.goto 7, 3) := by decide +kernel
theorem dL_isMadeBy_20 : decode cL_isMadeBy 20 = .ok (.astore 4, 2) := by decide +kernel
theorem dL_isMadeBy_22 : decode cL_isMadeBy 22 = .ok (.iconst 1, 1) := by decide +kernel
theorem dL_isMadeBy_23 : decode cL_isMadeBy 23 = .ok (.ireturn, 1) := by decide +kernel
theorem dL_isMadeBy_24 : decode cL_isMadeBy 24 = .ok (.iconst 0, 1) := by decide +kernel
theorem dL_isMadeBy_25 : decode cL_isMadeBy 25 = .ok (.ireturn, 1) := by decide +kernel
theorem dL_fired_0 : decode cL_fired 0 = .ok (.aload_n 2, 1) := by decide +kernel
theorem dL_fired_1 : decode cL_fired 1 = .ok (.iconst 0, 1) := by decide +kernel
theorem dL_fired_2 : decode cL_fired 2 = .ok (.aload_n 0, 1) := by decide +kernel
theorem dL_fired_3 : decode cL_fired 3 = .ok (.iload_n 1, 1) := by decide +kernel
theorem dL_fired_4 : decode cL_fired 4 = .ok (.invokevirtual 106, 3) := by decide +kernel
theorem dL_fired_7 : decode cL_fired 7 = .ok (.i2l, 1) := by decide +kernel
theorem dL_fired_8 : decode cL_fired 8 = .ok (.lastore, 1) := by decide +kernel
theorem dL_fired_9 : decode cL_fired 9 = .ok (.goto 6, 3) := by decide +kernel
theorem dL_fired_12 : decode cL_fired 12 = .ok (.astore_n 3, 1) := by decide +kernel
theorem dL_fired_13 : decode cL_fired 13 = .ok (.iconst 1, 1) := by decide +kernel
theorem dL_fired_14 : decode cL_fired 14 = .ok (.ireturn, 1) := by decide +kernel
theorem dL_fired_15 : decode cL_fired 15 = .ok (.iconst 0, 1) := by decide +kernel
theorem dL_fired_16 : decode cL_fired 16 = .ok (.ireturn, 1) := by decide +kernel
/-! printed: words by their places, constants, fields, calls -/
theorem wd_944 : Cond.classLink RL 13 (xname 0) ∈ lwg := tb_4 (List.mem_of_getElem? (i := 130) rfl) rfl
theorem wd_945 : Cond.methodLink RL 7 yX11_variable ∈ lwg := tb_4 (List.mem_of_getElem? (i := 131) rfl) rfl
theorem wd_946 : Cond.instanceMethod yX11_variable ∈ lwg := tb_4 (List.mem_of_getElem? (i := 132) rfl) rfl
theorem wd_947 : Cond.selects yX11_variable.cls yX11_variable yX11_variable ∈ lwg := tb_4 (List.mem_of_getElem? (i := 133) rfl) rfl
theorem wd_948 : Cond.code yX11_variable cX11_variable 2 (some .int) ∈ lwg := tb_4 (List.mem_of_getElem? (i := 134) rfl) rfl
theorem wd_1025 : Cond.classLink RL 19 (xname 1) ∈ lwg := tb_4 (List.mem_of_getElem? (i := 211) rfl) rfl
theorem wd_1026 : Cond.methodLink RL 15 yX11_equate ∈ lwg := tb_4 (List.mem_of_getElem? (i := 212) rfl) rfl
theorem wd_1027 : Cond.instanceMethod yX11_equate ∈ lwg := tb_4 (List.mem_of_getElem? (i := 213) rfl) rfl
theorem wd_1028 : Cond.selects yX11_equate.cls yX11_equate yX11_equate ∈ lwg := tb_4 (List.mem_of_getElem? (i := 214) rfl) rfl
theorem wd_1029 : Cond.code yX11_equate cX11_equate 3 (some .int) ∈ lwg := tb_4 (List.mem_of_getElem? (i := 215) rfl) rfl
theorem wd_1068 : Cond.methodLink RL 21 yX11_token ∈ lwg := tb_5 (List.mem_of_getElem? (i := 14) rfl) rfl
theorem wd_1069 : Cond.instanceMethod yX11_token ∈ lwg := tb_5 (List.mem_of_getElem? (i := 15) rfl) rfl
theorem wd_1070 : Cond.selects yX11_token.cls yX11_token yX11_token ∈ lwg := tb_5 (List.mem_of_getElem? (i := 16) rfl) rfl
theorem wd_1071 : Cond.code yX11_token cX11_token 5 (some .int) ∈ lwg := tb_5 (List.mem_of_getElem? (i := 17) rfl) rfl
theorem wd_1082 : Cond.classLink RL 28 (xname 2) ∈ lwg := tb_5 (List.mem_of_getElem? (i := 28) rfl) rfl
theorem wd_1083 : Cond.methodLink RL 25 yX11_both ∈ lwg := tb_5 (List.mem_of_getElem? (i := 29) rfl) rfl
theorem wd_1084 : Cond.instanceMethod yX11_both ∈ lwg := tb_5 (List.mem_of_getElem? (i := 30) rfl) rfl
theorem wd_1085 : Cond.selects yX11_both.cls yX11_both yX11_both ∈ lwg := tb_5 (List.mem_of_getElem? (i := 31) rfl) rfl
theorem wd_1086 : Cond.code yX11_both cX11_both 3 (some .int) ∈ lwg := tb_5 (List.mem_of_getElem? (i := 32) rfl) rfl
theorem wd_1110 : Cond.methodLink RL 30 yX11_when ∈ lwg := tb_5 (List.mem_of_getElem? (i := 56) rfl) rfl
theorem wd_1111 : Cond.instanceMethod yX11_when ∈ lwg := tb_5 (List.mem_of_getElem? (i := 57) rfl) rfl
theorem wd_1112 : Cond.selects yX11_when.cls yX11_when yX11_when ∈ lwg := tb_5 (List.mem_of_getElem? (i := 58) rfl) rfl
theorem wd_1113 : Cond.code yX11_when cX11_when 6 (some .int) ∈ lwg := tb_5 (List.mem_of_getElem? (i := 59) rfl) rfl
theorem wd_1123 : Cond.methodLink RL 34 yX11_either ∈ lwg := tb_5 (List.mem_of_getElem? (i := 69) rfl) rfl
theorem wd_1124 : Cond.instanceMethod yX11_either ∈ lwg := tb_5 (List.mem_of_getElem? (i := 70) rfl) rfl
theorem wd_1125 : Cond.selects yX11_either.cls yX11_either yX11_either ∈ lwg := tb_5 (List.mem_of_getElem? (i := 71) rfl) rfl
theorem wd_1126 : Cond.code yX11_either cX11_either 5 (some .int) ∈ lwg := tb_5 (List.mem_of_getElem? (i := 72) rfl) rfl
theorem wd_1131 : Cond.methodLink RL 37 yX11_hide ∈ lwg := tb_5 (List.mem_of_getElem? (i := 77) rfl) rfl
theorem wd_1132 : Cond.instanceMethod yX11_hide ∈ lwg := tb_5 (List.mem_of_getElem? (i := 78) rfl) rfl
theorem wd_1133 : Cond.selects yX11_hide.cls yX11_hide yX11_hide ∈ lwg := tb_5 (List.mem_of_getElem? (i := 79) rfl) rfl
theorem wd_1134 : Cond.code yX11_hide cX11_hide 3 (some .int) ∈ lwg := tb_5 (List.mem_of_getElem? (i := 80) rfl) rfl
theorem wd_1138 : Cond.methodLink RL 40 yX11_call ∈ lwg := tb_5 (List.mem_of_getElem? (i := 84) rfl) rfl
theorem wd_1139 : Cond.instanceMethod yX11_call ∈ lwg := tb_5 (List.mem_of_getElem? (i := 85) rfl) rfl
theorem wd_1140 : Cond.selects yX11_call.cls yX11_call yX11_call ∈ lwg := tb_5 (List.mem_of_getElem? (i := 86) rfl) rfl
theorem wd_1141 : Cond.code yX11_call cX11_call 4 (some .int) ∈ lwg := tb_5 (List.mem_of_getElem? (i := 87) rfl) rfl
theorem wd_1150 : Cond.methodLink RL 44 yX11_next ∈ lwg := tb_5 (List.mem_of_getElem? (i := 96) rfl) rfl
theorem wd_1151 : Cond.instanceMethod yX11_next ∈ lwg := tb_5 (List.mem_of_getElem? (i := 97) rfl) rfl
theorem wd_1152 : Cond.selects yX11_next.cls yX11_next yX11_next ∈ lwg := tb_5 (List.mem_of_getElem? (i := 98) rfl) rfl
theorem wd_1153 : Cond.code yX11_next cX11_next 2 (some .int) ∈ lwg := tb_5 (List.mem_of_getElem? (i := 99) rfl) rfl
theorem wd_1157 : Cond.methodLink RL 48 yX11_each ∈ lwg := tb_5 (List.mem_of_getElem? (i := 103) rfl) rfl
theorem wd_1158 : Cond.instanceMethod yX11_each ∈ lwg := tb_5 (List.mem_of_getElem? (i := 104) rfl) rfl
theorem wd_1159 : Cond.selects yX11_each.cls yX11_each yX11_each ∈ lwg := tb_5 (List.mem_of_getElem? (i := 105) rfl) rfl
theorem wd_1160 : Cond.code yX11_each cX11_each 2 (some .int) ∈ lwg := tb_5 (List.mem_of_getElem? (i := 106) rfl) rfl
theorem wd_1164 : Cond.methodLink RL 51 yX11_unless ∈ lwg := tb_5 (List.mem_of_getElem? (i := 110) rfl) rfl
theorem wd_1165 : Cond.instanceMethod yX11_unless ∈ lwg := tb_5 (List.mem_of_getElem? (i := 111) rfl) rfl
theorem wd_1166 : Cond.selects yX11_unless.cls yX11_unless yX11_unless ∈ lwg := tb_5 (List.mem_of_getElem? (i := 112) rfl) rfl
theorem wd_1167 : Cond.code yX11_unless cX11_unless 7 (some .int) ∈ lwg := tb_5 (List.mem_of_getElem? (i := 113) rfl) rfl
theorem wd_1171 : Cond.methodLink RL 55 yX11_lot ∈ lwg := tb_5 (List.mem_of_getElem? (i := 117) rfl) rfl
theorem wd_1172 : Cond.instanceMethod yX11_lot ∈ lwg := tb_5 (List.mem_of_getElem? (i := 118) rfl) rfl
theorem wd_1173 : Cond.selects yX11_lot.cls yX11_lot yX11_lot ∈ lwg := tb_5 (List.mem_of_getElem? (i := 119) rfl) rfl
theorem wd_1174 : Cond.code yX11_lot cX11_lot 5 (some .int) ∈ lwg := tb_5 (List.mem_of_getElem? (i := 120) rfl) rfl
theorem wd_1178 : Cond.methodLink RL 58 yX11_attempt ∈ lwg := tb_5 (List.mem_of_getElem? (i := 124) rfl) rfl
theorem wd_1179 : Cond.instanceMethod yX11_attempt ∈ lwg := tb_5 (List.mem_of_getElem? (i := 125) rfl) rfl
theorem wd_1180 : Cond.selects yX11_attempt.cls yX11_attempt yX11_attempt ∈ lwg := tb_5 (List.mem_of_getElem? (i := 126) rfl) rfl
theorem wd_1181 : Cond.code yX11_attempt cX11_attempt 3 (some .int) ∈ lwg := tb_5 (List.mem_of_getElem? (i := 127) rfl) rfl
theorem wd_1185 : Cond.methodLink RL 61 yX11_define ∈ lwg := tb_5 (List.mem_of_getElem? (i := 131) rfl) rfl
theorem wd_1186 : Cond.instanceMethod yX11_define ∈ lwg := tb_5 (List.mem_of_getElem? (i := 132) rfl) rfl
theorem wd_1187 : Cond.selects yX11_define.cls yX11_define yX11_define ∈ lwg := tb_5 (List.mem_of_getElem? (i := 133) rfl) rfl
theorem wd_1188 : Cond.code yX11_define cX11_define 4 (some .int) ∈ lwg := tb_5 (List.mem_of_getElem? (i := 134) rfl) rfl
theorem wd_1192 : Cond.methodLink RL 64 yX11_head ∈ lwg := tb_5 (List.mem_of_getElem? (i := 138) rfl) rfl
theorem wd_1193 : Cond.instanceMethod yX11_head ∈ lwg := tb_5 (List.mem_of_getElem? (i := 139) rfl) rfl
theorem wd_1194 : Cond.selects yX11_head.cls yX11_head yX11_head ∈ lwg := tb_5 (List.mem_of_getElem? (i := 140) rfl) rfl
theorem wd_1195 : Cond.code yX11_head cX11_head 7 (some .boolean) ∈ lwg := tb_5 (List.mem_of_getElem? (i := 141) rfl) rfl
theorem wd_1221 : Cond.methodLink RL 68 yX11_other ∈ lwg := tb_5 (List.mem_of_getElem? (i := 167) rfl) rfl
theorem wd_1222 : Cond.instanceMethod yX11_other ∈ lwg := tb_5 (List.mem_of_getElem? (i := 168) rfl) rfl
theorem wd_1223 : Cond.selects yX11_other.cls yX11_other yX11_other ∈ lwg := tb_5 (List.mem_of_getElem? (i := 169) rfl) rfl
theorem wd_1224 : Cond.code yX11_other cX11_other 6 (some .int) ∈ lwg := tb_5 (List.mem_of_getElem? (i := 170) rfl) rfl
theorem wd_1229 : Cond.methodLink RL 71 yX11_guard ∈ lwg := tb_5 (List.mem_of_getElem? (i := 175) rfl) rfl
theorem wd_1230 : Cond.instanceMethod yX11_guard ∈ lwg := tb_5 (List.mem_of_getElem? (i := 176) rfl) rfl
theorem wd_1231 : Cond.selects yX11_guard.cls yX11_guard yX11_guard ∈ lwg := tb_5 (List.mem_of_getElem? (i := 177) rfl) rfl
theorem wd_1232 : Cond.code yX11_guard cX11_guard 6 (some .boolean) ∈ lwg := tb_5 (List.mem_of_getElem? (i := 178) rfl) rfl
theorem wd_1254 : Cond.methodLink RL 75 yX11_body ∈ lwg := tb_5 (List.mem_of_getElem? (i := 200) rfl) rfl
theorem wd_1255 : Cond.instanceMethod yX11_body ∈ lwg := tb_5 (List.mem_of_getElem? (i := 201) rfl) rfl
theorem wd_1256 : Cond.selects yX11_body.cls yX11_body yX11_body ∈ lwg := tb_5 (List.mem_of_getElem? (i := 202) rfl) rfl
theorem wd_1257 : Cond.code yX11_body cX11_body 5 (some .int) ∈ lwg := tb_5 (List.mem_of_getElem? (i := 203) rfl) rfl
theorem wd_1266 : Cond.methodLink RL 78 yX11_rule ∈ lwg := tb_5 (List.mem_of_getElem? (i := 212) rfl) rfl
theorem wd_1267 : Cond.instanceMethod yX11_rule ∈ lwg := tb_5 (List.mem_of_getElem? (i := 213) rfl) rfl
theorem wd_1268 : Cond.selects yX11_rule.cls yX11_rule yX11_rule ∈ lwg := tb_5 (List.mem_of_getElem? (i := 214) rfl) rfl
theorem wd_1269 : Cond.code yX11_rule cX11_rule 2 (some .int) ∈ lwg := tb_5 (List.mem_of_getElem? (i := 215) rfl) rfl
theorem wd_1274 : Cond.methodLink RL 81 yX11_begin ∈ lwg := tb_5 (List.mem_of_getElem? (i := 220) rfl) rfl
theorem wd_1275 : Cond.instanceMethod yX11_begin ∈ lwg := tb_5 (List.mem_of_getElem? (i := 221) rfl) rfl
theorem wd_1276 : Cond.selects yX11_begin.cls yX11_begin yX11_begin ∈ lwg := tb_5 (List.mem_of_getElem? (i := 222) rfl) rfl
theorem wd_1277 : Cond.code yX11_begin cX11_begin 4 (some .int) ∈ lwg := tb_5 (List.mem_of_getElem? (i := 223) rfl) rfl
theorem wd_1288 : Cond.methodLink RL 84 yX11_step ∈ lwg := tb_5 (List.mem_of_getElem? (i := 234) rfl) rfl
theorem wd_1289 : Cond.instanceMethod yX11_step ∈ lwg := tb_5 (List.mem_of_getElem? (i := 235) rfl) rfl
theorem wd_1290 : Cond.selects yX11_step.cls yX11_step yX11_step ∈ lwg := tb_5 (List.mem_of_getElem? (i := 236) rfl) rfl
theorem wd_1291 : Cond.code yX11_step cX11_step 1 (some .int) ∈ lwg := tb_5 (List.mem_of_getElem? (i := 237) rfl) rfl
theorem wd_1296 : Cond.methodLink RL 87 yX11_seed ∈ lwg := tb_6 (List.mem_of_getElem? (i := 2) rfl) rfl
theorem wd_1297 : Cond.instanceMethod yX11_seed ∈ lwg := tb_6 (List.mem_of_getElem? (i := 3) rfl) rfl
theorem wd_1298 : Cond.selects yX11_seed.cls yX11_seed yX11_seed ∈ lwg := tb_6 (List.mem_of_getElem? (i := 4) rfl) rfl
theorem wd_1299 : Cond.code yX11_seed cX11_seed 3 (some .int) ∈ lwg := tb_6 (List.mem_of_getElem? (i := 5) rfl) rfl
theorem wd_1304 : Cond.methodLink RL 90 yX11_ends ∈ lwg := tb_6 (List.mem_of_getElem? (i := 10) rfl) rfl
theorem wd_1305 : Cond.instanceMethod yX11_ends ∈ lwg := tb_6 (List.mem_of_getElem? (i := 11) rfl) rfl
theorem wd_1306 : Cond.selects yX11_ends.cls yX11_ends yX11_ends ∈ lwg := tb_6 (List.mem_of_getElem? (i := 12) rfl) rfl
theorem wd_1307 : Cond.code yX11_ends cX11_ends 3 (some .int) ∈ lwg := tb_6 (List.mem_of_getElem? (i := 13) rfl) rfl
theorem wd_1613 : Cond.methodLink RL 93 yX11_value ∈ lwg := tb_7 (List.mem_of_getElem? (i := 79) rfl) rfl
theorem wd_1614 : Cond.instanceMethod yX11_value ∈ lwg := tb_7 (List.mem_of_getElem? (i := 80) rfl) rfl
theorem wd_1615 : Cond.selects yX11_value.cls yX11_value yX11_value ∈ lwg := tb_7 (List.mem_of_getElem? (i := 81) rfl) rfl
theorem wd_1616 : Cond.code yX11_value cX11_value 3 (some .int) ∈ lwg := tb_7 (List.mem_of_getElem? (i := 82) rfl) rfl
theorem wd_1625 : Cond.methodLink RL 96 yX11_areOne ∈ lwg := tb_7 (List.mem_of_getElem? (i := 91) rfl) rfl
theorem wd_1626 : Cond.instanceMethod yX11_areOne ∈ lwg := tb_7 (List.mem_of_getElem? (i := 92) rfl) rfl
theorem wd_1627 : Cond.selects yX11_areOne.cls yX11_areOne yX11_areOne ∈ lwg := tb_7 (List.mem_of_getElem? (i := 93) rfl) rfl
theorem wd_1628 : Cond.code yX11_areOne cX11_areOne 3 (some .boolean) ∈ lwg := tb_7 (List.mem_of_getElem? (i := 94) rfl) rfl
theorem wd_1632 : Cond.methodLink RL 100 yX11_part ∈ lwg := tb_7 (List.mem_of_getElem? (i := 98) rfl) rfl
theorem wd_1633 : Cond.instanceMethod yX11_part ∈ lwg := tb_7 (List.mem_of_getElem? (i := 99) rfl) rfl
theorem wd_1634 : Cond.selects yX11_part.cls yX11_part yX11_part ∈ lwg := tb_7 (List.mem_of_getElem? (i := 100) rfl) rfl
theorem wd_1635 : Cond.code yX11_part cX11_part 4 (some .int) ∈ lwg := tb_7 (List.mem_of_getElem? (i := 101) rfl) rfl
theorem wd_1645 : Cond.methodLink RL 103 yX11_isMadeBy ∈ lwg := tb_7 (List.mem_of_getElem? (i := 111) rfl) rfl
theorem wd_1646 : Cond.instanceMethod yX11_isMadeBy ∈ lwg := tb_7 (List.mem_of_getElem? (i := 112) rfl) rfl
theorem wd_1647 : Cond.selects yX11_isMadeBy.cls yX11_isMadeBy yX11_isMadeBy ∈ lwg := tb_7 (List.mem_of_getElem? (i := 113) rfl) rfl
theorem wd_1648 : Cond.code yX11_isMadeBy cX11_isMadeBy 3 (some .boolean) ∈ lwg := tb_7 (List.mem_of_getElem? (i := 114) rfl) rfl
theorem wd_1653 : Cond.methodLink RL 106 yX11_fired ∈ lwg := tb_7 (List.mem_of_getElem? (i := 119) rfl) rfl
theorem wd_1654 : Cond.instanceMethod yX11_fired ∈ lwg := tb_7 (List.mem_of_getElem? (i := 120) rfl) rfl
theorem wd_1655 : Cond.selects yX11_fired.cls yX11_fired yX11_fired ∈ lwg := tb_7 (List.mem_of_getElem? (i := 121) rfl) rfl
theorem wd_1656 : Cond.code yX11_fired cX11_fired 2 (some .int) ∈ lwg := tb_7 (List.mem_of_getElem? (i := 122) rfl) rfl
theorem ml_L_7 : MLV RL 7 yX11_variable cX11_variable 2 (some .int) 0 := ⟨⟨wd_945, wd_946, wd_947, wd_95, wd_948⟩, by decide +kernel, by decide +kernel, by decide +kernel⟩
theorem ml_L_15 : MLV RL 15 yX11_equate cX11_equate 3 (some .int) 2 := ⟨⟨wd_1026, wd_1027, wd_1028, wd_95, wd_1029⟩, by decide +kernel, by decide +kernel, by decide +kernel⟩
theorem ml_L_21 : MLV RL 21 yX11_token cX11_token 5 (some .int) 4 := ⟨⟨wd_1068, wd_1069, wd_1070, wd_95, wd_1071⟩, by decide +kernel, by decide +kernel, by decide +kernel⟩
theorem ml_L_25 : MLV RL 25 yX11_both cX11_both 3 (some .int) 2 := ⟨⟨wd_1083, wd_1084, wd_1085, wd_95, wd_1086⟩, by decide +kernel, by decide +kernel, by decide +kernel⟩
theorem ml_L_30 : MLV RL 30 yX11_when cX11_when 6 (some .int) 4 := ⟨⟨wd_1110, wd_1111, wd_1112, wd_95, wd_1113⟩, by decide +kernel, by decide +kernel, by decide +kernel⟩
theorem ml_L_34 : MLV RL 34 yX11_either cX11_either 5 (some .int) 4 := ⟨⟨wd_1123, wd_1124, wd_1125, wd_95, wd_1126⟩, by decide +kernel, by decide +kernel, by decide +kernel⟩
theorem ml_L_37 : MLV RL 37 yX11_hide cX11_hide 3 (some .int) 2 := ⟨⟨wd_1131, wd_1132, wd_1133, wd_95, wd_1134⟩, by decide +kernel, by decide +kernel, by decide +kernel⟩
theorem ml_L_40 : MLV RL 40 yX11_call cX11_call 4 (some .int) 3 := ⟨⟨wd_1138, wd_1139, wd_1140, wd_95, wd_1141⟩, by decide +kernel, by decide +kernel, by decide +kernel⟩
theorem ml_L_44 : MLV RL 44 yX11_next cX11_next 2 (some .int) 1 := ⟨⟨wd_1150, wd_1151, wd_1152, wd_95, wd_1153⟩, by decide +kernel, by decide +kernel, by decide +kernel⟩
theorem ml_L_48 : MLV RL 48 yX11_each cX11_each 2 (some .int) 1 := ⟨⟨wd_1157, wd_1158, wd_1159, wd_95, wd_1160⟩, by decide +kernel, by decide +kernel, by decide +kernel⟩
theorem ml_L_51 : MLV RL 51 yX11_unless cX11_unless 7 (some .int) 5 := ⟨⟨wd_1164, wd_1165, wd_1166, wd_95, wd_1167⟩, by decide +kernel, by decide +kernel, by decide +kernel⟩
theorem ml_L_55 : MLV RL 55 yX11_lot cX11_lot 5 (some .int) 4 := ⟨⟨wd_1171, wd_1172, wd_1173, wd_95, wd_1174⟩, by decide +kernel, by decide +kernel, by decide +kernel⟩
theorem ml_L_58 : MLV RL 58 yX11_attempt cX11_attempt 3 (some .int) 2 := ⟨⟨wd_1178, wd_1179, wd_1180, wd_95, wd_1181⟩, by decide +kernel, by decide +kernel, by decide +kernel⟩
theorem ml_L_61 : MLV RL 61 yX11_define cX11_define 4 (some .int) 2 := ⟨⟨wd_1185, wd_1186, wd_1187, wd_95, wd_1188⟩, by decide +kernel, by decide +kernel, by decide +kernel⟩
theorem ml_L_64 : MLV RL 64 yX11_head cX11_head 7 (some .boolean) 4 := ⟨⟨wd_1192, wd_1193, wd_1194, wd_95, wd_1195⟩, by decide +kernel, by decide +kernel, by decide +kernel⟩
theorem ml_L_68 : MLV RL 68 yX11_other cX11_other 6 (some .int) 4 := ⟨⟨wd_1221, wd_1222, wd_1223, wd_95, wd_1224⟩, by decide +kernel, by decide +kernel, by decide +kernel⟩
theorem ml_L_71 : MLV RL 71 yX11_guard cX11_guard 6 (some .boolean) 3 := ⟨⟨wd_1229, wd_1230, wd_1231, wd_95, wd_1232⟩, by decide +kernel, by decide +kernel, by decide +kernel⟩
theorem ml_L_75 : MLV RL 75 yX11_body cX11_body 5 (some .int) 3 := ⟨⟨wd_1254, wd_1255, wd_1256, wd_95, wd_1257⟩, by decide +kernel, by decide +kernel, by decide +kernel⟩
theorem ml_L_78 : MLV RL 78 yX11_rule cX11_rule 2 (some .int) 0 := ⟨⟨wd_1266, wd_1267, wd_1268, wd_95, wd_1269⟩, by decide +kernel, by decide +kernel, by decide +kernel⟩
theorem ml_L_81 : MLV RL 81 yX11_begin cX11_begin 4 (some .int) 3 := ⟨⟨wd_1274, wd_1275, wd_1276, wd_95, wd_1277⟩, by decide +kernel, by decide +kernel, by decide +kernel⟩
theorem ml_L_84 : MLV RL 84 yX11_step cX11_step 1 (some .int) 0 := ⟨⟨wd_1288, wd_1289, wd_1290, wd_95, wd_1291⟩, by decide +kernel, by decide +kernel, by decide +kernel⟩
theorem ml_L_87 : MLV RL 87 yX11_seed cX11_seed 3 (some .int) 1 := ⟨⟨wd_1296, wd_1297, wd_1298, wd_95, wd_1299⟩, by decide +kernel, by decide +kernel, by decide +kernel⟩
theorem ml_L_90 : MLV RL 90 yX11_ends cX11_ends 3 (some .int) 0 := ⟨⟨wd_1304, wd_1305, wd_1306, wd_95, wd_1307⟩, by decide +kernel, by decide +kernel, by decide +kernel⟩
theorem ml_L_93 : MLV RL 93 yX11_value cX11_value 3 (some .int) 1 := ⟨⟨wd_1613, wd_1614, wd_1615, wd_95, wd_1616⟩, by decide +kernel, by decide +kernel, by decide +kernel⟩
theorem ml_L_96 : MLV RL 96 yX11_areOne cX11_areOne 3 (some .boolean) 2 := ⟨⟨wd_1625, wd_1626, wd_1627, wd_95, wd_1628⟩, by decide +kernel, by decide +kernel, by decide +kernel⟩
theorem ml_L_100 : MLV RL 100 yX11_part cX11_part 4 (some .int) 2 := ⟨⟨wd_1632, wd_1633, wd_1634, wd_95, wd_1635⟩, by decide +kernel, by decide +kernel, by decide +kernel⟩
theorem ml_L_103 : MLV RL 103 yX11_isMadeBy cX11_isMadeBy 3 (some .boolean) 2 := ⟨⟨wd_1645, wd_1646, wd_1647, wd_95, wd_1648⟩, by decide +kernel, by decide +kernel, by decide +kernel⟩
theorem ml_L_106 : MLV RL 106 yX11_fired cX11_fired 2 (some .int) 1 := ⟨⟨wd_1653, wd_1654, wd_1655, wd_95, wd_1656⟩, by decide +kernel, by decide +kernel, by decide +kernel⟩
theorem hnd_L_variable_0 : HND cL_variable RL [(0, 8, 11, 13)] 3 3 0 1 := ⟨[], ⟨0, 8, 11, 13⟩, [], rfl, (fun z hz => by cases hz), by decide, by decide, wd_944, by decide, 2, 1, 1, by decide, Or.inr ⟨2, dL_variable_11, rfl, rfl⟩, dL_variable_12, by decide, dL_variable_13⟩
theorem hnd_L_equate_1 : HND cL_equate RL [(0, 10, 13, 19), (0, 10, 17, 13)] 5 5 1 1 := ⟨[], ⟨0, 10, 13, 19⟩, [⟨0, 10, 17, 13⟩], rfl, (fun z hz => by cases hz), by decide, by decide, wd_1025, by decide, 4, 2, 1, by decide, Or.inl ⟨dL_equate_13, rfl⟩, dL_equate_15, by decide, dL_equate_16⟩
theorem hnd_L_equate_0 : HND cL_equate RL [(0, 10, 13, 19), (0, 10, 17, 13)] 5 5 0 2 := ⟨[⟨0, 10, 13, 19⟩], ⟨0, 10, 17, 13⟩, [], rfl, (List.forall_mem_cons.mpr ⟨⟨by decide, 1, by decide, by decide, wd_1025⟩, (fun z hz => by cases hz)⟩), by decide, by decide, wd_944, by decide, 4, 2, 2, by decide, Or.inl ⟨dL_equate_17, rfl⟩, dL_equate_19, by decide, dL_equate_20⟩
theorem hnd_L_token_1 : HND cL_token RL [(0, 14, 17, 19), (0, 14, 21, 13)] 9 7 1 1 := ⟨[], ⟨0, 14, 17, 19⟩, [⟨0, 14, 21, 13⟩], rfl, (fun z hz => by cases hz), by decide, by decide, wd_1025, by decide, 6, 2, 1, by decide, Or.inl ⟨dL_token_17, rfl⟩, dL_token_19, by decide, dL_token_20⟩
theorem hnd_L_token_0 : HND cL_token RL [(0, 14, 17, 19), (0, 14, 21, 13)] 9 7 0 2 := ⟨[⟨0, 14, 17, 19⟩], ⟨0, 14, 21, 13⟩, [], rfl, (List.forall_mem_cons.mpr ⟨⟨by decide, 1, by decide, by decide, wd_1025⟩, (fun z hz => by cases hz)⟩), by decide, by decide, wd_944, by decide, 6, 2, 2, by decide, Or.inl ⟨dL_token_21, rfl⟩, dL_token_23, by decide, dL_token_24⟩
theorem hnd_L_both_2 : HND cL_both RL [(0, 10, 13, 28), (0, 10, 17, 13)] 5 5 2 1 := ⟨[], ⟨0, 10, 13, 28⟩, [⟨0, 10, 17, 13⟩], rfl, (fun z hz => by cases hz), by decide, by decide, wd_1082, by decide, 4, 2, 1, by decide, Or.inl ⟨dL_both_13, rfl⟩, dL_both_15, by decide, dL_both_16⟩
theorem hnd_L_both_0 : HND cL_both RL [(0, 10, 13, 28), (0, 10, 17, 13)] 5 5 0 2 := ⟨[⟨0, 10, 13, 28⟩], ⟨0, 10, 17, 13⟩, [], rfl, (List.forall_mem_cons.mpr ⟨⟨by decide, 2, by decide, by decide, wd_1082⟩, (fun z hz => by cases hz)⟩), by decide, by decide, wd_944, by decide, 4, 2, 2, by decide, Or.inl ⟨dL_both_17, rfl⟩, dL_both_19, by decide, dL_both_20⟩
theorem hnd_L_when_2 : HND cL_when RL [(0, 14, 17, 28), (0, 14, 21, 19), (0, 14, 25, 13)] 9 7 2 1 := ⟨[], ⟨0, 14, 17, 28⟩, [⟨0, 14, 21, 19⟩, ⟨0, 14, 25, 13⟩], rfl, (fun z hz => by cases hz), by decide, by decide, wd_1082, by decide, 6, 2, 1, by decide, Or.inl ⟨dL_when_17, rfl⟩, dL_when_19, by decide, dL_when_20⟩
theorem hnd_L_when_1 : HND cL_when RL [(0, 14, 17, 28), (0, 14, 21, 19), (0, 14, 25, 13)] 9 7 1 2 := ⟨[⟨0, 14, 17, 28⟩], ⟨0, 14, 21, 19⟩, [⟨0, 14, 25, 13⟩], rfl, (List.forall_mem_cons.mpr ⟨⟨by decide, 2, by decide, by decide, wd_1082⟩, (fun z hz => by cases hz)⟩), by decide, by decide, wd_1025, by decide, 6, 2, 2, by decide, Or.inl ⟨dL_when_21, rfl⟩, dL_when_23, by decide, dL_when_24⟩
theorem hnd_L_when_0 : HND cL_when RL [(0, 14, 17, 28), (0, 14, 21, 19), (0, 14, 25, 13)] 9 7 0 3 := ⟨[⟨0, 14, 17, 28⟩, ⟨0, 14, 21, 19⟩], ⟨0, 14, 25, 13⟩, [], rfl, (List.forall_mem_cons.mpr ⟨⟨by decide, 2, by decide, by decide, wd_1082⟩, List.forall_mem_cons.mpr ⟨⟨by decide, 1, by decide, by decide, wd_1025⟩, (fun z hz => by cases hz)⟩⟩), by decide, by decide, wd_944, by decide, 6, 2, 3, by decide, Or.inl ⟨dL_when_25, rfl⟩, dL_when_27, by decide, dL_when_28⟩
theorem hnd_L_either_2 : HND cL_either RL [(0, 14, 17, 28), (0, 14, 21, 19), (0, 14, 25, 13)] 9 7 2 1 := ⟨[], ⟨0, 14, 17, 28⟩, [⟨0, 14, 21, 19⟩, ⟨0, 14, 25, 13⟩], rfl, (fun z hz => by cases hz), by decide, by decide, wd_1082, by decide, 6, 2, 1, by decide, Or.inl ⟨dL_either_17, rfl⟩, dL_either_19, by decide, dL_either_20⟩
theorem hnd_L_either_1 : HND cL_either RL [(0, 14, 17, 28), (0, 14, 21, 19), (0, 14, 25, 13)] 9 7 1 2 := ⟨[⟨0, 14, 17, 28⟩], ⟨0, 14, 21, 19⟩, [⟨0, 14, 25, 13⟩], rfl, (List.forall_mem_cons.mpr ⟨⟨by decide, 2, by decide, by decide, wd_1082⟩, (fun z hz => by cases hz)⟩), by decide, by decide, wd_1025, by decide, 6, 2, 2, by decide, Or.inl ⟨dL_either_21, rfl⟩, dL_either_23, by decide, dL_either_24⟩
theorem hnd_L_either_0 : HND cL_either RL [(0, 14, 17, 28), (0, 14, 21, 19), (0, 14, 25, 13)] 9 7 0 3 := ⟨[⟨0, 14, 17, 28⟩, ⟨0, 14, 21, 19⟩], ⟨0, 14, 25, 13⟩, [], rfl, (List.forall_mem_cons.mpr ⟨⟨by decide, 2, by decide, by decide, wd_1082⟩, List.forall_mem_cons.mpr ⟨⟨by decide, 1, by decide, by decide, wd_1025⟩, (fun z hz => by cases hz)⟩⟩), by decide, by decide, wd_944, by decide, 6, 2, 3, by decide, Or.inl ⟨dL_either_25, rfl⟩, dL_either_27, by decide, dL_either_28⟩
theorem hnd_L_hide_2 : HND cL_hide RL [(0, 10, 13, 28), (0, 10, 17, 19), (0, 10, 21, 13)] 5 5 2 1 := ⟨[], ⟨0, 10, 13, 28⟩, [⟨0, 10, 17, 19⟩, ⟨0, 10, 21, 13⟩], rfl, (fun z hz => by cases hz), by decide, by decide, wd_1082, by decide, 4, 2, 1, by decide, Or.inl ⟨dL_hide_13, rfl⟩, dL_hide_15, by decide, dL_hide_16⟩
theorem hnd_L_hide_1 : HND cL_hide RL [(0, 10, 13, 28), (0, 10, 17, 19), (0, 10, 21, 13)] 5 5 1 2 := ⟨[⟨0, 10, 13, 28⟩], ⟨0, 10, 17, 19⟩, [⟨0, 10, 21, 13⟩], rfl, (List.forall_mem_cons.mpr ⟨⟨by decide, 2, by decide, by decide, wd_1082⟩, (fun z hz => by cases hz)⟩), by decide, by decide, wd_1025, by decide, 4, 2, 2, by decide, Or.inl ⟨dL_hide_17, rfl⟩, dL_hide_19, by decide, dL_hide_20⟩
theorem hnd_L_hide_0 : HND cL_hide RL [(0, 10, 13, 28), (0, 10, 17, 19), (0, 10, 21, 13)] 5 5 0 3 := ⟨[⟨0, 10, 13, 28⟩, ⟨0, 10, 17, 19⟩], ⟨0, 10, 21, 13⟩, [], rfl, (List.forall_mem_cons.mpr ⟨⟨by decide, 2, by decide, by decide, wd_1082⟩, List.forall_mem_cons.mpr ⟨⟨by decide, 1, by decide, by decide, wd_1025⟩, (fun z hz => by cases hz)⟩⟩), by decide, by decide, wd_944, by decide, 4, 2, 3, by decide, Or.inl ⟨dL_hide_21, rfl⟩, dL_hide_23, by decide, dL_hide_24⟩
theorem hnd_L_call_2 : HND cL_call RL [(0, 12, 15, 28), (0, 12, 19, 19), (0, 12, 23, 13)] 7 6 2 1 := ⟨[], ⟨0, 12, 15, 28⟩, [⟨0, 12, 19, 19⟩, ⟨0, 12, 23, 13⟩], rfl, (fun z hz => by cases hz), by decide, by decide, wd_1082, by decide, 5, 2, 1, by decide, Or.inl ⟨dL_call_15, rfl⟩, dL_call_17, by decide, dL_call_18⟩
theorem hnd_L_call_1 : HND cL_call RL [(0, 12, 15, 28), (0, 12, 19, 19), (0, 12, 23, 13)] 7 6 1 2 := ⟨[⟨0, 12, 15, 28⟩], ⟨0, 12, 19, 19⟩, [⟨0, 12, 23, 13⟩], rfl, (List.forall_mem_cons.mpr ⟨⟨by decide, 2, by decide, by decide, wd_1082⟩, (fun z hz => by cases hz)⟩), by decide, by decide, wd_1025, by decide, 5, 2, 2, by decide, Or.inl ⟨dL_call_19, rfl⟩, dL_call_21, by decide, dL_call_22⟩
theorem hnd_L_call_0 : HND cL_call RL [(0, 12, 15, 28), (0, 12, 19, 19), (0, 12, 23, 13)] 7 6 0 3 := ⟨[⟨0, 12, 15, 28⟩, ⟨0, 12, 19, 19⟩], ⟨0, 12, 23, 13⟩, [], rfl, (List.forall_mem_cons.mpr ⟨⟨by decide, 2, by decide, by decide, wd_1082⟩, List.forall_mem_cons.mpr ⟨⟨by decide, 1, by decide, by decide, wd_1025⟩, (fun z hz => by cases hz)⟩⟩), by decide, by decide, wd_944, by decide, 5, 2, 3, by decide, Or.inl ⟨dL_call_23, rfl⟩, dL_call_25, by decide, dL_call_26⟩
theorem hnd_L_next_2 : HND cL_next RL [(0, 9, 12, 28), (0, 9, 15, 13)] 4 4 2 1 := ⟨[], ⟨0, 9, 12, 28⟩, [⟨0, 9, 15, 13⟩], rfl, (fun z hz => by cases hz), by decide, by decide, wd_1082, by decide, 3, 1, 1, by decide, Or.inr ⟨3, dL_next_12, rfl, rfl⟩, dL_next_13, by decide, dL_next_14⟩
theorem hnd_L_next_0 : HND cL_next RL [(0, 9, 12, 28), (0, 9, 15, 13)] 4 4 0 2 := ⟨[⟨0, 9, 12, 28⟩], ⟨0, 9, 15, 13⟩, [], rfl, (List.forall_mem_cons.mpr ⟨⟨by decide, 2, by decide, by decide, wd_1082⟩, (fun z hz => by cases hz)⟩), by decide, by decide, wd_944, by decide, 3, 1, 2, by decide, Or.inr ⟨3, dL_next_15, rfl, rfl⟩, dL_next_16, by decide, dL_next_17⟩
theorem hnd_L_each_2 : HND cL_each RL [(0, 9, 12, 28), (0, 9, 15, 13)] 4 4 2 1 := ⟨[], ⟨0, 9, 12, 28⟩, [⟨0, 9, 15, 13⟩], rfl, (fun z hz => by cases hz), by decide, by decide, wd_1082, by decide, 3, 1, 1, by decide, Or.inr ⟨3, dL_each_12, rfl, rfl⟩, dL_each_13, by decide, dL_each_14⟩
theorem hnd_L_each_0 : HND cL_each RL [(0, 9, 12, 28), (0, 9, 15, 13)] 4 4 0 2 := ⟨[⟨0, 9, 12, 28⟩], ⟨0, 9, 15, 13⟩, [], rfl, (List.forall_mem_cons.mpr ⟨⟨by decide, 2, by decide, by decide, wd_1082⟩, (fun z hz => by cases hz)⟩), by decide, by decide, wd_944, by decide, 3, 1, 2, by decide, Or.inr ⟨3, dL_each_15, rfl, rfl⟩, dL_each_16, by decide, dL_each_17⟩
theorem hnd_L_unless_2 : HND cL_unless RL [(0, 16, 19, 28), (0, 16, 23, 19), (0, 16, 27, 13)] 11 8 2 1 := ⟨[], ⟨0, 16, 19, 28⟩, [⟨0, 16, 23, 19⟩, ⟨0, 16, 27, 13⟩], rfl, (fun z hz => by cases hz), by decide, by decide, wd_1082, by decide, 7, 2, 1, by decide, Or.inl ⟨dL_unless_19, rfl⟩, dL_unless_21, by decide, dL_unless_22⟩
theorem hnd_L_unless_1 : HND cL_unless RL [(0, 16, 19, 28), (0, 16, 23, 19), (0, 16, 27, 13)] 11 8 1 2 := ⟨[⟨0, 16, 19, 28⟩], ⟨0, 16, 23, 19⟩, [⟨0, 16, 27, 13⟩], rfl, (List.forall_mem_cons.mpr ⟨⟨by decide, 2, by decide, by decide, wd_1082⟩, (fun z hz => by cases hz)⟩), by decide, by decide, wd_1025, by decide, 7, 2, 2, by decide, Or.inl ⟨dL_unless_23, rfl⟩, dL_unless_25, by decide, dL_unless_26⟩
theorem hnd_L_unless_0 : HND cL_unless RL [(0, 16, 19, 28), (0, 16, 23, 19), (0, 16, 27, 13)] 11 8 0 3 := ⟨[⟨0, 16, 19, 28⟩, ⟨0, 16, 23, 19⟩], ⟨0, 16, 27, 13⟩, [], rfl, (List.forall_mem_cons.mpr ⟨⟨by decide, 2, by decide, by decide, wd_1082⟩, List.forall_mem_cons.mpr ⟨⟨by decide, 1, by decide, by decide, wd_1025⟩, (fun z hz => by cases hz)⟩⟩), by decide, by decide, wd_944, by decide, 7, 2, 3, by decide, Or.inl ⟨dL_unless_27, rfl⟩, dL_unless_29, by decide, dL_unless_30⟩
theorem hnd_L_lot_2 : HND cL_lot RL [(0, 14, 17, 28), (0, 14, 21, 19), (0, 14, 25, 13)] 9 7 2 1 := ⟨[], ⟨0, 14, 17, 28⟩, [⟨0, 14, 21, 19⟩, ⟨0, 14, 25, 13⟩], rfl, (fun z hz => by cases hz), by decide, by decide, wd_1082, by decide, 6, 2, 1, by decide, Or.inl ⟨dL_lot_17, rfl⟩, dL_lot_19, by decide, dL_lot_20⟩
theorem hnd_L_lot_1 : HND cL_lot RL [(0, 14, 17, 28), (0, 14, 21, 19), (0, 14, 25, 13)] 9 7 1 2 := ⟨[⟨0, 14, 17, 28⟩], ⟨0, 14, 21, 19⟩, [⟨0, 14, 25, 13⟩], rfl, (List.forall_mem_cons.mpr ⟨⟨by decide, 2, by decide, by decide, wd_1082⟩, (fun z hz => by cases hz)⟩), by decide, by decide, wd_1025, by decide, 6, 2, 2, by decide, Or.inl ⟨dL_lot_21, rfl⟩, dL_lot_23, by decide, dL_lot_24⟩
theorem hnd_L_lot_0 : HND cL_lot RL [(0, 14, 17, 28), (0, 14, 21, 19), (0, 14, 25, 13)] 9 7 0 3 := ⟨[⟨0, 14, 17, 28⟩, ⟨0, 14, 21, 19⟩], ⟨0, 14, 25, 13⟩, [], rfl, (List.forall_mem_cons.mpr ⟨⟨by decide, 2, by decide, by decide, wd_1082⟩, List.forall_mem_cons.mpr ⟨⟨by decide, 1, by decide, by decide, wd_1025⟩, (fun z hz => by cases hz)⟩⟩), by decide, by decide, wd_944, by decide, 6, 2, 3, by decide, Or.inl ⟨dL_lot_25, rfl⟩, dL_lot_27, by decide, dL_lot_28⟩
theorem hnd_L_attempt_2 : HND cL_attempt RL [(0, 10, 13, 28), (0, 10, 17, 13)] 5 5 2 1 := ⟨[], ⟨0, 10, 13, 28⟩, [⟨0, 10, 17, 13⟩], rfl, (fun z hz => by cases hz), by decide, by decide, wd_1082, by decide, 4, 2, 1, by decide, Or.inl ⟨dL_attempt_13, rfl⟩, dL_attempt_15, by decide, dL_attempt_16⟩
theorem hnd_L_attempt_0 : HND cL_attempt RL [(0, 10, 13, 28), (0, 10, 17, 13)] 5 5 0 2 := ⟨[⟨0, 10, 13, 28⟩], ⟨0, 10, 17, 13⟩, [], rfl, (List.forall_mem_cons.mpr ⟨⟨by decide, 2, by decide, by decide, wd_1082⟩, (fun z hz => by cases hz)⟩), by decide, by decide, wd_944, by decide, 4, 2, 2, by decide, Or.inl ⟨dL_attempt_17, rfl⟩, dL_attempt_19, by decide, dL_attempt_20⟩
theorem hnd_L_define_2 : HND cL_define RL [(0, 10, 13, 28)] 5 5 2 1 := ⟨[], ⟨0, 10, 13, 28⟩, [], rfl, (fun z hz => by cases hz), by decide, by decide, wd_1082, by decide, 4, 2, 1, by decide, Or.inl ⟨dL_define_13, rfl⟩, dL_define_15, by decide, dL_define_16⟩
theorem hnd_L_head_1 : HND cL_head RL [(0, 21, 24, 19)] 9 7 1 1 := ⟨[], ⟨0, 21, 24, 19⟩, [], rfl, (fun z hz => by cases hz), by decide, by decide, wd_1025, by decide, 6, 2, 1, by decide, Or.inl ⟨dL_head_24, rfl⟩, dL_head_26, by decide, dL_head_27⟩
theorem hnd_L_other_1 : HND cL_other RL [(0, 14, 17, 19), (0, 14, 21, 13)] 9 7 1 1 := ⟨[], ⟨0, 14, 17, 19⟩, [⟨0, 14, 21, 13⟩], rfl, (fun z hz => by cases hz), by decide, by decide, wd_1025, by decide, 6, 2, 1, by decide, Or.inl ⟨dL_other_17, rfl⟩, dL_other_19, by decide, dL_other_20⟩
theorem hnd_L_other_0 : HND cL_other RL [(0, 14, 17, 19), (0, 14, 21, 13)] 9 7 0 2 := ⟨[⟨0, 14, 17, 19⟩], ⟨0, 14, 21, 13⟩, [], rfl, (List.forall_mem_cons.mpr ⟨⟨by decide, 1, by decide, by decide, wd_1025⟩, (fun z hz => by cases hz)⟩), by decide, by decide, wd_944, by decide, 6, 2, 2, by decide, Or.inl ⟨dL_other_21, rfl⟩, dL_other_23, by decide, dL_other_24⟩
theorem hnd_L_guard_1 : HND cL_guard RL [(0, 19, 22, 19), (0, 19, 26, 13)] 7 6 1 1 := ⟨[], ⟨0, 19, 22, 19⟩, [⟨0, 19, 26, 13⟩], rfl, (fun z hz => by cases hz), by decide, by decide, wd_1025, by decide, 5, 2, 1, by decide, Or.inl ⟨dL_guard_22, rfl⟩, dL_guard_24, by decide, dL_guard_25⟩
theorem hnd_L_guard_0 : HND cL_guard RL [(0, 19, 22, 19), (0, 19, 26, 13)] 7 6 0 2 := ⟨[⟨0, 19, 22, 19⟩], ⟨0, 19, 26, 13⟩, [], rfl, (List.forall_mem_cons.mpr ⟨⟨by decide, 1, by decide, by decide, wd_1025⟩, (fun z hz => by cases hz)⟩), by decide, by decide, wd_944, by decide, 5, 2, 2, by decide, Or.inl ⟨dL_guard_26, rfl⟩, dL_guard_28, by decide, dL_guard_29⟩
theorem hnd_L_body_1 : HND cL_body RL [(0, 12, 15, 19), (0, 12, 19, 13)] 7 6 1 1 := ⟨[], ⟨0, 12, 15, 19⟩, [⟨0, 12, 19, 13⟩], rfl, (fun z hz => by cases hz), by decide, by decide, wd_1025, by decide, 5, 2, 1, by decide, Or.inl ⟨dL_body_15, rfl⟩, dL_body_17, by decide, dL_body_18⟩
theorem hnd_L_body_0 : HND cL_body RL [(0, 12, 15, 19), (0, 12, 19, 13)] 7 6 0 2 := ⟨[⟨0, 12, 15, 19⟩], ⟨0, 12, 19, 13⟩, [], rfl, (List.forall_mem_cons.mpr ⟨⟨by decide, 1, by decide, by decide, wd_1025⟩, (fun z hz => by cases hz)⟩), by decide, by decide, wd_944, by decide, 5, 2, 2, by decide, Or.inl ⟨dL_body_19, rfl⟩, dL_body_21, by decide, dL_body_22⟩
theorem hnd_L_rule_0 : HND cL_rule RL [(0, 8, 11, 13)] 3 3 0 1 := ⟨[], ⟨0, 8, 11, 13⟩, [], rfl, (fun z hz => by cases hz), by decide, by decide, wd_944, by decide, 2, 1, 1, by decide, Or.inr ⟨2, dL_rule_11, rfl, rfl⟩, dL_rule_12, by decide, dL_rule_13⟩
theorem hnd_L_begin_2 : HND cL_begin RL [(0, 12, 15, 28), (0, 12, 19, 19), (0, 12, 23, 13)] 7 6 2 1 := ⟨[], ⟨0, 12, 15, 28⟩, [⟨0, 12, 19, 19⟩, ⟨0, 12, 23, 13⟩], rfl, (fun z hz => by cases hz), by decide, by decide, wd_1082, by decide, 5, 2, 1, by decide, Or.inl ⟨dL_begin_15, rfl⟩, dL_begin_17, by decide, dL_begin_18⟩
theorem hnd_L_begin_1 : HND cL_begin RL [(0, 12, 15, 28), (0, 12, 19, 19), (0, 12, 23, 13)] 7 6 1 2 := ⟨[⟨0, 12, 15, 28⟩], ⟨0, 12, 19, 19⟩, [⟨0, 12, 23, 13⟩], rfl, (List.forall_mem_cons.mpr ⟨⟨by decide, 2, by decide, by decide, wd_1082⟩, (fun z hz => by cases hz)⟩), by decide, by decide, wd_1025, by decide, 5, 2, 2, by decide, Or.inl ⟨dL_begin_19, rfl⟩, dL_begin_21, by decide, dL_begin_22⟩
theorem hnd_L_begin_0 : HND cL_begin RL [(0, 12, 15, 28), (0, 12, 19, 19), (0, 12, 23, 13)] 7 6 0 3 := ⟨[⟨0, 12, 15, 28⟩, ⟨0, 12, 19, 19⟩], ⟨0, 12, 23, 13⟩, [], rfl, (List.forall_mem_cons.mpr ⟨⟨by decide, 2, by decide, by decide, wd_1082⟩, List.forall_mem_cons.mpr ⟨⟨by decide, 1, by decide, by decide, wd_1025⟩, (fun z hz => by cases hz)⟩⟩), by decide, by decide, wd_944, by decide, 5, 2, 3, by decide, Or.inl ⟨dL_begin_23, rfl⟩, dL_begin_25, by decide, dL_begin_26⟩
theorem hnd_L_step_0 : HND cL_step RL [(0, 8, 11, 13)] 3 3 0 1 := ⟨[], ⟨0, 8, 11, 13⟩, [], rfl, (fun z hz => by cases hz), by decide, by decide, wd_944, by decide, 2, 1, 1, by decide, Or.inr ⟨2, dL_step_11, rfl, rfl⟩, dL_step_12, by decide, dL_step_13⟩
theorem hnd_L_seed_1 : HND cL_seed RL [(0, 9, 12, 19)] 4 4 1 1 := ⟨[], ⟨0, 9, 12, 19⟩, [], rfl, (fun z hz => by cases hz), by decide, by decide, wd_1025, by decide, 3, 1, 1, by decide, Or.inr ⟨3, dL_seed_12, rfl, rfl⟩, dL_seed_13, by decide, dL_seed_14⟩
theorem hnd_L_ends_0 : HND cL_ends RL [(0, 8, 11, 13)] 3 3 0 1 := ⟨[], ⟨0, 8, 11, 13⟩, [], rfl, (fun z hz => by cases hz), by decide, by decide, wd_944, by decide, 2, 1, 1, by decide, Or.inr ⟨2, dL_ends_11, rfl, rfl⟩, dL_ends_12, by decide, dL_ends_13⟩
theorem hnd_L_value_2 : HND cL_value RL [(0, 9, 12, 28)] 4 4 2 1 := ⟨[], ⟨0, 9, 12, 28⟩, [], rfl, (fun z hz => by cases hz), by decide, by decide, wd_1082, by decide, 3, 1, 1, by decide, Or.inr ⟨3, dL_value_12, rfl, rfl⟩, dL_value_13, by decide, dL_value_14⟩
theorem hnd_L_areOne_2 : HND cL_areOne RL [(0, 17, 20, 28)] 5 5 2 1 := ⟨[], ⟨0, 17, 20, 28⟩, [], rfl, (fun z hz => by cases hz), by decide, by decide, wd_1082, by decide, 4, 2, 1, by decide, Or.inl ⟨dL_areOne_20, rfl⟩, dL_areOne_22, by decide, dL_areOne_23⟩
theorem hnd_L_part_2 : HND cL_part RL [(0, 10, 13, 28), (0, 10, 17, 19)] 5 5 2 1 := ⟨[], ⟨0, 10, 13, 28⟩, [⟨0, 10, 17, 19⟩], rfl, (fun z hz => by cases hz), by decide, by decide, wd_1082, by decide, 4, 2, 1, by decide, Or.inl ⟨dL_part_13, rfl⟩, dL_part_15, by decide, dL_part_16⟩
theorem hnd_L_part_1 : HND cL_part RL [(0, 10, 13, 28), (0, 10, 17, 19)] 5 5 1 2 := ⟨[⟨0, 10, 13, 28⟩], ⟨0, 10, 17, 19⟩, [], rfl, (List.forall_mem_cons.mpr ⟨⟨by decide, 2, by decide, by decide, wd_1082⟩, (fun z hz => by cases hz)⟩), by decide, by decide, wd_1025, by decide, 4, 2, 2, by decide, Or.inl ⟨dL_part_17, rfl⟩, dL_part_19, by decide, dL_part_20⟩
theorem hnd_L_isMadeBy_2 : HND cL_isMadeBy RL [(0, 17, 20, 28)] 5 5 2 1 := ⟨[], ⟨0, 17, 20, 28⟩, [], rfl, (fun z hz => by cases hz), by decide, by decide, wd_1082, by decide, 4, 2, 1, by decide, Or.inl ⟨dL_isMadeBy_20, rfl⟩, dL_isMadeBy_22, by decide, dL_isMadeBy_23⟩
theorem hnd_L_fired_2 : HND cL_fired RL [(0, 9, 12, 28)] 4 4 2 1 := ⟨[], ⟨0, 9, 12, 28⟩, [], rfl, (fun z hz => by cases hz), by decide, by decide, wd_1082, by decide, 3, 1, 1, by decide, Or.inr ⟨3, dL_fired_12, rfl, rfl⟩, dL_fired_13, by decide, dL_fired_14⟩
