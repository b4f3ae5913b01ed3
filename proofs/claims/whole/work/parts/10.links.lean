/-! printed: words by their places, constants, fields, calls -/
theorem tb_0 {w : Cond} (h : w ∈ k2_sels lw_privs) (g : goodWord w = true) : w ∈ lwg := List.mem_filter.mpr ⟨List.mem_append_left _ h, g⟩
theorem tb_1 {w : Cond} (h : w ∈ tables_1_1) (g : goodWord w = true) : w ∈ lwg := List.mem_filter.mpr ⟨List.mem_append_right _ (List.mem_append_left _ h), g⟩
theorem tb_2 {w : Cond} (h : w ∈ tables_1_2) (g : goodWord w = true) : w ∈ lwg := List.mem_filter.mpr ⟨List.mem_append_right _ (List.mem_append_right _ (List.mem_append_left _ h)), g⟩
theorem tb_3 {w : Cond} (h : w ∈ tables_1_3) (g : goodWord w = true) : w ∈ lwg := List.mem_filter.mpr ⟨List.mem_append_right _ (List.mem_append_right _ (List.mem_append_right _ (List.mem_append_left _ h))), g⟩
theorem tb_4 {w : Cond} (h : w ∈ tables_1_4) (g : goodWord w = true) : w ∈ lwg := List.mem_filter.mpr ⟨List.mem_append_right _ (List.mem_append_right _ (List.mem_append_right _ (List.mem_append_right _ (List.mem_append_left _ h)))), g⟩
theorem tb_5 {w : Cond} (h : w ∈ tables_1_5) (g : goodWord w = true) : w ∈ lwg := List.mem_filter.mpr ⟨List.mem_append_right _ (List.mem_append_right _ (List.mem_append_right _ (List.mem_append_right _ (List.mem_append_right _ (List.mem_append_left _ h))))), g⟩
theorem tb_6 {w : Cond} (h : w ∈ tables_1_6) (g : goodWord w = true) : w ∈ lwg := List.mem_filter.mpr ⟨List.mem_append_right _ (List.mem_append_right _ (List.mem_append_right _ (List.mem_append_right _ (List.mem_append_right _ (List.mem_append_right _ (List.mem_append_left _ h)))))), g⟩
theorem tb_7 {w : Cond} (h : w ∈ tables_1_7) (g : goodWord w = true) : w ∈ lwg := List.mem_filter.mpr ⟨List.mem_append_right _ (List.mem_append_right _ (List.mem_append_right _ (List.mem_append_right _ (List.mem_append_right _ (List.mem_append_right _ (List.mem_append_right _ (List.mem_append_left _ h))))))), g⟩
theorem tb_8 {w : Cond} (h : w ∈ tables_1_8) (g : goodWord w = true) : w ∈ lwg := List.mem_filter.mpr ⟨List.mem_append_right _ (List.mem_append_right _ (List.mem_append_right _ (List.mem_append_right _ (List.mem_append_right _ (List.mem_append_right _ (List.mem_append_right _ (List.mem_append_right _ (List.mem_append_left _ h)))))))), g⟩
theorem tb_9 {w : Cond} (h : w ∈ tables_1_9) (g : goodWord w = true) : w ∈ lwg := List.mem_filter.mpr ⟨List.mem_append_right _ (List.mem_append_right _ (List.mem_append_right _ (List.mem_append_right _ (List.mem_append_right _ (List.mem_append_right _ (List.mem_append_right _ (List.mem_append_right _ (List.mem_append_right _ (h))))))))), g⟩
theorem wd_0 : Cond.selects yX10_giveUp.cls yX10_giveUp yX10_giveUp ∈ lwg := tb_0 (List.mem_of_getElem? (i := 0) rfl) rfl
theorem wd_1 : Cond.selects yX6_advanceActive.cls yX6_advanceActive yX6_advanceActive ∈ lwg := tb_0 (List.mem_of_getElem? (i := 1) rfl) rfl
theorem wd_2 : Cond.selects yX6_isPartner.cls yX6_isPartner yX6_isPartner ∈ lwg := tb_0 (List.mem_of_getElem? (i := 2) rfl) rfl
theorem wd_3 : Cond.selects yX6_isNew.cls yX6_isNew yX6_isNew ∈ lwg := tb_0 (List.mem_of_getElem? (i := 3) rfl) rfl
theorem wd_4 : Cond.selects yX6_isMatch.cls yX6_isMatch yX6_isMatch ∈ lwg := tb_0 (List.mem_of_getElem? (i := 4) rfl) rfl
theorem wd_5 : Cond.selects yX6_fire.cls yX6_fire yX6_fire ∈ lwg := tb_0 (List.mem_of_getElem? (i := 5) rfl) rfl
theorem wd_6 : Cond.selects yX6_remember.cls yX6_remember yX6_remember ∈ lwg := tb_0 (List.mem_of_getElem? (i := 6) rfl) rfl
theorem wd_7 : Cond.selects yX6_push.cls yX6_push yX6_push ∈ lwg := tb_0 (List.mem_of_getElem? (i := 7) rfl) rfl
theorem wd_8 : Cond.selects yX6_advanceWaking.cls yX6_advanceWaking yX6_advanceWaking ∈ lwg := tb_0 (List.mem_of_getElem? (i := 8) rfl) rfl
theorem wd_9 : Cond.selects yX6_advanceBodies.cls yX6_advanceBodies yX6_advanceBodies ∈ lwg := tb_0 (List.mem_of_getElem? (i := 9) rfl) rfl
theorem wd_10 : Cond.selects yX8_rootOf.cls yX8_rootOf yX8_rootOf ∈ lwg := tb_0 (List.mem_of_getElem? (i := 10) rfl) rfl
theorem wd_11 : Cond.selects yX8_join.cls yX8_join yX8_join ∈ lwg := tb_0 (List.mem_of_getElem? (i := 11) rfl) rfl
theorem wd_12 : Cond.selects yX10_act.cls yX10_act yX10_act ∈ lwg := tb_0 (List.mem_of_getElem? (i := 12) rfl) rfl
theorem wd_13 : Cond.selects yX10_sideOf.cls yX10_sideOf yX10_sideOf ∈ lwg := tb_0 (List.mem_of_getElem? (i := 13) rfl) rfl
theorem wd_14 : Cond.selects yX10_isEntailed.cls yX10_isEntailed yX10_isEntailed ∈ lwg := tb_0 (List.mem_of_getElem? (i := 14) rfl) rfl
theorem wd_15 : Cond.selects yX10_ask.cls yX10_ask yX10_ask ∈ lwg := tb_0 (List.mem_of_getElem? (i := 15) rfl) rfl
theorem wd_16 : Cond.selects yX10_conceal.cls yX10_conceal yX10_conceal ∈ lwg := tb_0 (List.mem_of_getElem? (i := 16) rfl) rfl
theorem wd_17 : Cond.selects yX10_enter.cls yX10_enter yX10_enter ∈ lwg := tb_0 (List.mem_of_getElem? (i := 17) rfl) rfl
theorem wd_18 : Cond.selects yX2_multiply.cls yX2_multiply yX2_multiply ∈ lwg := tb_0 (List.mem_of_getElem? (i := 18) rfl) rfl
theorem wd_19 : Cond.selects yX10_dare.cls yX10_dare yX10_dare ∈ lwg := tb_0 (List.mem_of_getElem? (i := 19) rfl) rfl
theorem wd_20 : Cond.selects yX10_goOn.cls yX10_goOn yX10_goOn ∈ lwg := tb_0 (List.mem_of_getElem? (i := 20) rfl) rfl
theorem wd_21 : Cond.selects yX10_assume.cls yX10_assume yX10_assume ∈ lwg := tb_0 (List.mem_of_getElem? (i := 21) rfl) rfl
theorem wd_22 : Cond.selects yX10_finish.cls yX10_finish yX10_finish ∈ lwg := tb_0 (List.mem_of_getElem? (i := 22) rfl) rfl
theorem wd_28 : Cond.selects yX11_begunRule.cls yX11_begunRule yX11_begunRule ∈ lwg := tb_0 (List.mem_of_getElem? (i := 28) rfl) rfl
theorem wd_29 : Cond.selects yX7_bind.cls yX7_bind yX7_bind ∈ lwg := tb_0 (List.mem_of_getElem? (i := 29) rfl) rfl
theorem wd_33 : Cond.selects yX9_recordTokens.cls yX9_recordTokens yX9_recordTokens ∈ lwg := tb_0 (List.mem_of_getElem? (i := 33) rfl) rfl
theorem wd_34 : Cond.selects yX9_isSame.cls yX9_isSame yX9_isSame ∈ lwg := tb_0 (List.mem_of_getElem? (i := 34) rfl) rfl
theorem wd_37 : Cond.selects yX12_stop.cls yX12_stop yX12_stop ∈ lwg := tb_0 (List.mem_of_getElem? (i := 37) rfl) rfl
theorem wd_38 : Cond.selects yX12_makeVariable.cls yX12_makeVariable yX12_makeVariable ∈ lwg := tb_0 (List.mem_of_getElem? (i := 38) rfl) rfl
theorem wd_39 : Cond.selects yX12_makeNode.cls yX12_makeNode yX12_makeNode ∈ lwg := tb_0 (List.mem_of_getElem? (i := 39) rfl) rfl
theorem wd_40 : Cond.selects yX12_toldNode.cls yX12_toldNode yX12_toldNode ∈ lwg := tb_0 (List.mem_of_getElem? (i := 40) rfl) rfl
theorem wd_41 : Cond.selects yX12_isNode.cls yX12_isNode yX12_isNode ∈ lwg := tb_0 (List.mem_of_getElem? (i := 41) rfl) rfl
theorem wd_42 : Cond.selects yX12_putHead.cls yX12_putHead yX12_putHead ∈ lwg := tb_0 (List.mem_of_getElem? (i := 42) rfl) rfl
theorem wd_43 : Cond.selects yX12_isOfHead.cls yX12_isOfHead yX12_isOfHead ∈ lwg := tb_0 (List.mem_of_getElem? (i := 43) rfl) rfl
theorem wd_44 : Cond.selects yX12_isOutside.cls yX12_isOutside yX12_isOutside ∈ lwg := tb_0 (List.mem_of_getElem? (i := 44) rfl) rfl
theorem wd_45 : Cond.selects yX12_run.cls yX12_run yX12_run ∈ lwg := tb_0 (List.mem_of_getElem? (i := 45) rfl) rfl
theorem wd_46 : Cond.selects yX12_forget.cls yX12_forget yX12_forget ∈ lwg := tb_0 (List.mem_of_getElem? (i := 46) rfl) rfl
theorem wd_47 : Cond.selects yX12_another.cls yX12_another yX12_another ∈ lwg := tb_0 (List.mem_of_getElem? (i := 47) rfl) rfl
theorem wd_48 : Cond.selects yX12_enqueue.cls yX12_enqueue yX12_enqueue ∈ lwg := tb_0 (List.mem_of_getElem? (i := 48) rfl) rfl
theorem wd_49 : Cond.selects yX12_dequeue.cls yX12_dequeue yX12_dequeue ∈ lwg := tb_0 (List.mem_of_getElem? (i := 49) rfl) rfl
theorem wd_50 : Cond.selects yX12_act.cls yX12_act yX12_act ∈ lwg := tb_0 (List.mem_of_getElem? (i := 50) rfl) rfl
theorem wd_51 : Cond.selects yX12_look.cls yX12_look yX12_look ∈ lwg := tb_0 (List.mem_of_getElem? (i := 51) rfl) rfl
theorem wd_52 : Cond.selects yX12_tellEqual.cls yX12_tellEqual yX12_tellEqual ∈ lwg := tb_0 (List.mem_of_getElem? (i := 52) rfl) rfl
theorem wd_53 : Cond.selects yX12_againFor.cls yX12_againFor yX12_againFor ∈ lwg := tb_0 (List.mem_of_getElem? (i := 53) rfl) rfl
theorem wd_54 : Cond.selects yX12_pushFrame.cls yX12_pushFrame yX12_pushFrame ∈ lwg := tb_0 (List.mem_of_getElem? (i := 54) rfl) rfl
theorem wd_55 : Cond.selects yX12_settle.cls yX12_settle yX12_settle ∈ lwg := tb_0 (List.mem_of_getElem? (i := 55) rfl) rfl
theorem wd_56 : Cond.selects yX12_goActive.cls yX12_goActive yX12_goActive ∈ lwg := tb_0 (List.mem_of_getElem? (i := 56) rfl) rfl
theorem wd_57 : Cond.selects yX12_canFire.cls yX12_canFire yX12_canFire ∈ lwg := tb_0 (List.mem_of_getElem? (i := 57) rfl) rfl
theorem wd_58 : Cond.selects yX12_fits.cls yX12_fits yX12_fits ∈ lwg := tb_0 (List.mem_of_getElem? (i := 58) rfl) rfl
theorem wd_59 : Cond.selects yX12_areEqual.cls yX12_areEqual yX12_areEqual ∈ lwg := tb_0 (List.mem_of_getElem? (i := 59) rfl) rfl
theorem wd_60 : Cond.selects yX12_valueOf.cls yX12_valueOf yX12_valueOf ∈ lwg := tb_0 (List.mem_of_getElem? (i := 60) rfl) rfl
theorem wd_61 : Cond.selects yX12_termOf.cls yX12_termOf yX12_termOf ∈ lwg := tb_0 (List.mem_of_getElem? (i := 61) rfl) rfl
theorem wd_62 : Cond.selects yX12_entails.cls yX12_entails yX12_entails ∈ lwg := tb_0 (List.mem_of_getElem? (i := 62) rfl) rfl
theorem wd_63 : Cond.selects yX12_tokenOf.cls yX12_tokenOf yX12_tokenOf ∈ lwg := tb_0 (List.mem_of_getElem? (i := 63) rfl) rfl
theorem wd_64 : Cond.selects yX12_removes.cls yX12_removes yX12_removes ∈ lwg := tb_0 (List.mem_of_getElem? (i := 64) rfl) rfl
theorem wd_65 : Cond.selects yX12_fire.cls yX12_fire yX12_fire ∈ lwg := tb_0 (List.mem_of_getElem? (i := 65) rfl) rfl
theorem wd_66 : Cond.selects yX12_addSlice.cls yX12_addSlice yX12_addSlice ∈ lwg := tb_0 (List.mem_of_getElem? (i := 66) rfl) rfl
theorem wd_67 : Cond.selects yX12_goBodies.cls yX12_goBodies yX12_goBodies ∈ lwg := tb_0 (List.mem_of_getElem? (i := 67) rfl) rfl
theorem wd_68 : Cond.selects yX12_tellToken.cls yX12_tellToken yX12_tellToken ∈ lwg := tb_0 (List.mem_of_getElem? (i := 68) rfl) rfl
theorem wd_69 : Cond.selects yX12_pushActive.cls yX12_pushActive yX12_pushActive ∈ lwg := tb_0 (List.mem_of_getElem? (i := 69) rfl) rfl
theorem wd_70 : Cond.selects yX12_goAgain.cls yX12_goAgain yX12_goAgain ∈ lwg := tb_0 (List.mem_of_getElem? (i := 70) rfl) rfl
theorem wd_71 : Cond.selects yX12_holds.cls yX12_holds yX12_holds ∈ lwg := tb_0 (List.mem_of_getElem? (i := 71) rfl) rfl
theorem wd_72 : Cond.selects yX12_goOn.cls yX12_goOn yX12_goOn ∈ lwg := tb_0 (List.mem_of_getElem? (i := 72) rfl) rfl
theorem wd_73 : Cond.selects yX12_waitFor.cls yX12_waitFor yX12_waitFor ∈ lwg := tb_0 (List.mem_of_getElem? (i := 73) rfl) rfl
theorem wd_74 : Cond.selects yX12_actEither.cls yX12_actEither yX12_actEither ∈ lwg := tb_0 (List.mem_of_getElem? (i := 74) rfl) rfl
theorem wd_75 : Cond.selects yX12_wayOf.cls yX12_wayOf yX12_wayOf ∈ lwg := tb_0 (List.mem_of_getElem? (i := 75) rfl) rfl
theorem wd_76 : Cond.selects yX12_forNext.cls yX12_forNext yX12_forNext ∈ lwg := tb_0 (List.mem_of_getElem? (i := 76) rfl) rfl
theorem wd_77 : Cond.selects yX12_actLot.cls yX12_actLot yX12_actLot ∈ lwg := tb_0 (List.mem_of_getElem? (i := 77) rfl) rfl
theorem wd_78 : Cond.selects yX12_countPrimes.cls yX12_countPrimes yX12_countPrimes ∈ lwg := tb_0 (List.mem_of_getElem? (i := 78) rfl) rfl
theorem wd_79 : Cond.selects yX12_actTry.cls yX12_actTry yX12_actTry ∈ lwg := tb_0 (List.mem_of_getElem? (i := 79) rfl) rfl
theorem wd_80 : Cond.selects yX12_wakeAll.cls yX12_wakeAll yX12_wakeAll ∈ lwg := tb_0 (List.mem_of_getElem? (i := 80) rfl) rfl
theorem wd_81 : Cond.selects yX12_assume.cls yX12_assume yX12_assume ∈ lwg := tb_0 (List.mem_of_getElem? (i := 81) rfl) rfl
theorem wd_82 : Cond.selects yX12_dropWait.cls yX12_dropWait yX12_dropWait ∈ lwg := tb_0 (List.mem_of_getElem? (i := 82) rfl) rfl
theorem wd_83 : Cond.selects yX12_endLevel.cls yX12_endLevel yX12_endLevel ∈ lwg := tb_0 (List.mem_of_getElem? (i := 83) rfl) rfl
theorem wd_84 : Cond.selects yX12_commit.cls yX12_commit yX12_commit ∈ lwg := tb_0 (List.mem_of_getElem? (i := 84) rfl) rfl
theorem wd_85 : Cond.selects yX12_finish.cls yX12_finish yX12_finish ∈ lwg := tb_0 (List.mem_of_getElem? (i := 85) rfl) rfl
theorem wd_86 : Cond.selects yX12_layEnd.cls yX12_layEnd yX12_layEnd ∈ lwg := tb_0 (List.mem_of_getElem? (i := 86) rfl) rfl
theorem wd_87 : Cond.selects yX12_asTold.cls yX12_asTold yX12_asTold ∈ lwg := tb_0 (List.mem_of_getElem? (i := 87) rfl) rfl
theorem wd_88 : Cond.selects yX12_keepEnd.cls yX12_keepEnd yX12_keepEnd ∈ lwg := tb_0 (List.mem_of_getElem? (i := 88) rfl) rfl
theorem wd_89 : Cond.selects yX12_isEnd.cls yX12_isEnd yX12_isEnd ∈ lwg := tb_0 (List.mem_of_getElem? (i := 89) rfl) rfl
theorem wd_90 : Cond.selects yX12_restore.cls yX12_restore yX12_restore ∈ lwg := tb_0 (List.mem_of_getElem? (i := 90) rfl) rfl
theorem wd_91 : Cond.selects yX12_nextSchedule.cls yX12_nextSchedule yX12_nextSchedule ∈ lwg := tb_0 (List.mem_of_getElem? (i := 91) rfl) rfl
theorem wd_92 : Cond.selects yX12_isVariable.cls yX12_isVariable yX12_isVariable ∈ lwg := tb_0 (List.mem_of_getElem? (i := 92) rfl) rfl
theorem wd_93 : Cond.selects yX12_isToken.cls yX12_isToken yX12_isToken ∈ lwg := tb_0 (List.mem_of_getElem? (i := 93) rfl) rfl
theorem wd_95 : Cond.initialized yX11_isSlot.cls ∈ lwg := tb_1 (List.mem_of_getElem? (i := 1) rfl) rfl
theorem wd_97 : Cond.initialized yX9_restart.cls ∈ lwg := tb_1 (List.mem_of_getElem? (i := 3) rfl) rfl
theorem wd_98 : Cond.initialized yX7_isBinding.cls ∈ lwg := tb_1 (List.mem_of_getElem? (i := 4) rfl) rfl
theorem wd_99 : Cond.initialized yX10_forNext.cls ∈ lwg := tb_1 (List.mem_of_getElem? (i := 5) rfl) rfl
theorem wd_100 : Cond.initialized yX8_makeVariable.cls ∈ lwg := tb_1 (List.mem_of_getElem? (i := 6) rfl) rfl
theorem wd_101 : Cond.initialized yX2_line.cls ∈ lwg := tb_1 (List.mem_of_getElem? (i := 7) rfl) rfl
theorem wd_102 : Cond.initialized yX0_include.cls ∈ lwg := tb_1 (List.mem_of_getElem? (i := 8) rfl) rfl
theorem wd_103 : Cond.initialized yX6_advance.cls ∈ lwg := tb_1 (List.mem_of_getElem? (i := 9) rfl) rfl
theorem wd_105 : Cond.initialized yX4_open.cls ∈ lwg := tb_1 (List.mem_of_getElem? (i := 11) rfl) rfl
theorem wd_106 : Cond.initialized yX1_drop.cls ∈ lwg := tb_1 (List.mem_of_getElem? (i := 12) rfl) rfl
theorem wd_107 : Cond.initialized yJ7_fill_53178.cls ∈ lwg := tb_1 (List.mem_of_getElem? (i := 13) rfl) rfl
theorem wd_108 : Cond.initialized yX12_standing.cls ∈ lwg := tb_1 (List.mem_of_getElem? (i := 14) rfl) rfl
theorem wd_115 : Cond.initialized "java/lang/Math" ∈ lwg := tb_1 (List.mem_of_getElem? (i := 21) rfl) rfl
theorem wd_116 : Cond.initialized "java/lang/System" ∈ lwg := tb_1 (List.mem_of_getElem? (i := 22) rfl) rfl
theorem wd_141 : Cond.fieldLink RX5 9 "Tellcourt$Nodes" "kind" "[I" ∈ lwg := tb_1 (List.mem_of_getElem? (i := 47) rfl) rfl
theorem wd_143 : Cond.fieldLink RX10 209 "Tellcourt$Nodes" "kind" "[I" ∈ lwg := tb_1 (List.mem_of_getElem? (i := 49) rfl) rfl
theorem wd_144 : Cond.fieldLink RX5 15 "Tellcourt$Nodes" "what" "[I" ∈ lwg := tb_1 (List.mem_of_getElem? (i := 50) rfl) rfl
theorem wd_145 : Cond.fieldLink RX10 214 "Tellcourt$Nodes" "what" "[I" ∈ lwg := tb_1 (List.mem_of_getElem? (i := 51) rfl) rfl
theorem wd_146 : Cond.fieldLink RX5 18 "Tellcourt$Nodes" "a" "[I" ∈ lwg := tb_1 (List.mem_of_getElem? (i := 52) rfl) rfl
theorem wd_147 : Cond.fieldLink RX10 217 "Tellcourt$Nodes" "a" "[I" ∈ lwg := tb_1 (List.mem_of_getElem? (i := 53) rfl) rfl
theorem wd_148 : Cond.fieldLink RX5 21 "Tellcourt$Nodes" "b" "[I" ∈ lwg := tb_1 (List.mem_of_getElem? (i := 54) rfl) rfl
theorem wd_149 : Cond.fieldLink RX10 223 "Tellcourt$Nodes" "b" "[I" ∈ lwg := tb_1 (List.mem_of_getElem? (i := 55) rfl) rfl
theorem wd_150 : Cond.fieldLink RX5 24 "Tellcourt$Nodes" "one" "[I" ∈ lwg := tb_1 (List.mem_of_getElem? (i := 56) rfl) rfl
theorem wd_151 : Cond.fieldLink RX10 226 "Tellcourt$Nodes" "one" "[I" ∈ lwg := tb_1 (List.mem_of_getElem? (i := 57) rfl) rfl
theorem wd_152 : Cond.fieldLink RX5 27 "Tellcourt$Nodes" "other" "[I" ∈ lwg := tb_1 (List.mem_of_getElem? (i := 58) rfl) rfl
theorem wd_153 : Cond.fieldLink RX10 229 "Tellcourt$Nodes" "other" "[I" ∈ lwg := tb_1 (List.mem_of_getElem? (i := 59) rfl) rfl
theorem wd_154 : Cond.fieldLink RX5 30 "Tellcourt$Nodes" "count" "I" ∈ lwg := tb_1 (List.mem_of_getElem? (i := 60) rfl) rfl
theorem wd_180 : Cond.fieldLink RX9 9 "Tellcourt$Survey" "choice" "[I" ∈ lwg := tb_1 (List.mem_of_getElem? (i := 86) rfl) rfl
theorem wd_181 : Cond.fieldLink RX9 15 "Tellcourt$Survey" "choices" "[I" ∈ lwg := tb_1 (List.mem_of_getElem? (i := 87) rfl) rfl
theorem wd_182 : Cond.fieldLink RX9 21 "Tellcourt$Survey" "planned" "I" ∈ lwg := tb_1 (List.mem_of_getElem? (i := 88) rfl) rfl
theorem wd_183 : Cond.fieldLink RX9 25 "Tellcourt$Survey" "chosen" "I" ∈ lwg := tb_1 (List.mem_of_getElem? (i := 89) rfl) rfl
theorem wd_184 : Cond.fieldLink RX9 18 "Tellcourt$Survey" "rows" "[I" ∈ lwg := tb_1 (List.mem_of_getElem? (i := 90) rfl) rfl
theorem wd_185 : Cond.fieldLink RX9 28 "Tellcourt$Survey" "found" "I" ∈ lwg := tb_1 (List.mem_of_getElem? (i := 91) rfl) rfl
theorem wd_205 : Cond.fieldLink RX7 9 "Tellcourt$Rule" "sorts" "[I" ∈ lwg := tb_1 (List.mem_of_getElem? (i := 111) rfl) rfl
theorem wd_206 : Cond.fieldLink RX6 135 "Tellcourt$Rule" "sorts" "[I" ∈ lwg := tb_1 (List.mem_of_getElem? (i := 112) rfl) rfl
theorem wd_207 : Cond.fieldLink RX7 15 "Tellcourt$Rule" "patterns" "[I" ∈ lwg := tb_1 (List.mem_of_getElem? (i := 113) rfl) rfl
theorem wd_208 : Cond.fieldLink RX6 163 "Tellcourt$Rule" "patterns" "[I" ∈ lwg := tb_1 (List.mem_of_getElem? (i := 114) rfl) rfl
theorem wd_209 : Cond.fieldLink RX7 18 "Tellcourt$Rule" "stays" "[Z" ∈ lwg := tb_1 (List.mem_of_getElem? (i := 115) rfl) rfl
theorem wd_210 : Cond.fieldLink RX6 224 "Tellcourt$Rule" "stays" "[Z" ∈ lwg := tb_1 (List.mem_of_getElem? (i := 116) rfl) rfl
theorem wd_211 : Cond.fieldLink RX7 22 "Tellcourt$Rule" "bodySorts" "[I" ∈ lwg := tb_1 (List.mem_of_getElem? (i := 117) rfl) rfl
theorem wd_212 : Cond.fieldLink RX6 243 "Tellcourt$Rule" "bodySorts" "[I" ∈ lwg := tb_1 (List.mem_of_getElem? (i := 118) rfl) rfl
theorem wd_213 : Cond.fieldLink RX7 25 "Tellcourt$Rule" "bodyTerms" "[I" ∈ lwg := tb_1 (List.mem_of_getElem? (i := 119) rfl) rfl
theorem wd_214 : Cond.fieldLink RX6 240 "Tellcourt$Rule" "bodyTerms" "[I" ∈ lwg := tb_1 (List.mem_of_getElem? (i := 120) rfl) rfl
theorem wd_215 : Cond.fieldLink RX7 28 "Tellcourt$Rule" "heads" "I" ∈ lwg := tb_1 (List.mem_of_getElem? (i := 121) rfl) rfl
theorem wd_216 : Cond.fieldLink RX6 130 "Tellcourt$Rule" "heads" "I" ∈ lwg := tb_1 (List.mem_of_getElem? (i := 122) rfl) rfl
theorem wd_218 : Cond.fieldLink RX7 32 "Tellcourt$Rule" "bodies" "I" ∈ lwg := tb_1 (List.mem_of_getElem? (i := 124) rfl) rfl
theorem wd_220 : Cond.fieldLink RX6 237 "Tellcourt$Rule" "bodies" "I" ∈ lwg := tb_1 (List.mem_of_getElem? (i := 126) rfl) rfl
theorem wd_221 : Cond.fieldLink RX7 35 "Tellcourt$Rule" "bound" "I" ∈ lwg := tb_1 (List.mem_of_getElem? (i := 127) rfl) rfl
theorem wd_222 : Cond.fieldLink RX7 38 "Tellcourt$Rule" "isGuarded" "Z" ∈ lwg := tb_1 (List.mem_of_getElem? (i := 128) rfl) rfl
theorem wd_223 : Cond.fieldLink RX6 178 "Tellcourt$Rule" "isGuarded" "Z" ∈ lwg := tb_1 (List.mem_of_getElem? (i := 129) rfl) rfl
theorem wd_225 : Cond.fieldLink RX7 50 "Tellcourt$Rule" "condition" "I" ∈ lwg := tb_1 (List.mem_of_getElem? (i := 131) rfl) rfl
theorem wd_226 : Cond.fieldLink RX6 181 "Tellcourt$Rule" "condition" "I" ∈ lwg := tb_1 (List.mem_of_getElem? (i := 132) rfl) rfl
theorem wd_227 : Cond.fieldLink RX7 53 "Tellcourt$Rule" "guardA" "I" ∈ lwg := tb_1 (List.mem_of_getElem? (i := 133) rfl) rfl
theorem wd_228 : Cond.fieldLink RX6 184 "Tellcourt$Rule" "guardA" "I" ∈ lwg := tb_1 (List.mem_of_getElem? (i := 134) rfl) rfl
theorem wd_229 : Cond.fieldLink RX7 56 "Tellcourt$Rule" "guardB" "I" ∈ lwg := tb_1 (List.mem_of_getElem? (i := 135) rfl) rfl
theorem wd_230 : Cond.fieldLink RX6 187 "Tellcourt$Rule" "guardB" "I" ∈ lwg := tb_1 (List.mem_of_getElem? (i := 136) rfl) rfl
theorem wd_269 : Cond.fieldLink RX8 9 "Tellcourt$Store" "classOf" "[I" ∈ lwg := tb_1 (List.mem_of_getElem? (i := 175) rfl) rfl
theorem wd_271 : Cond.fieldLink RX8 15 "Tellcourt$Store" "values" "[I" ∈ lwg := tb_1 (List.mem_of_getElem? (i := 177) rfl) rfl
theorem wd_272 : Cond.fieldLink RX11 50 "Tellcourt$Store" "variables" "I" ∈ lwg := tb_1 (List.mem_of_getElem? (i := 178) rfl) rfl
theorem wd_273 : Cond.fieldLink RX8 48 "Tellcourt$Store" "variables" "I" ∈ lwg := tb_1 (List.mem_of_getElem? (i := 179) rfl) rfl
theorem wd_274 : Cond.fieldLink RX8 18 "Tellcourt$Store" "sort" "[I" ∈ lwg := tb_1 (List.mem_of_getElem? (i := 180) rfl) rfl
theorem wd_275 : Cond.fieldLink RX9 66 "Tellcourt$Store" "sort" "[I" ∈ lwg := tb_1 (List.mem_of_getElem? (i := 181) rfl) rfl
theorem wd_276 : Cond.fieldLink RX6 138 "Tellcourt$Store" "sort" "[I" ∈ lwg := tb_1 (List.mem_of_getElem? (i := 182) rfl) rfl
theorem wd_278 : Cond.fieldLink RX8 21 "Tellcourt$Store" "first" "[I" ∈ lwg := tb_1 (List.mem_of_getElem? (i := 184) rfl) rfl
theorem wd_279 : Cond.fieldLink RX9 72 "Tellcourt$Store" "first" "[I" ∈ lwg := tb_1 (List.mem_of_getElem? (i := 185) rfl) rfl
theorem wd_280 : Cond.fieldLink RX6 157 "Tellcourt$Store" "first" "[I" ∈ lwg := tb_1 (List.mem_of_getElem? (i := 186) rfl) rfl
theorem wd_282 : Cond.fieldLink RX8 24 "Tellcourt$Store" "second" "[I" ∈ lwg := tb_1 (List.mem_of_getElem? (i := 188) rfl) rfl
theorem wd_283 : Cond.fieldLink RX9 75 "Tellcourt$Store" "second" "[I" ∈ lwg := tb_1 (List.mem_of_getElem? (i := 189) rfl) rfl
theorem wd_284 : Cond.fieldLink RX6 160 "Tellcourt$Store" "second" "[I" ∈ lwg := tb_1 (List.mem_of_getElem? (i := 190) rfl) rfl
theorem wd_286 : Cond.fieldLink RX8 27 "Tellcourt$Store" "lasts" "[Z" ∈ lwg := tb_1 (List.mem_of_getElem? (i := 192) rfl) rfl
theorem wd_287 : Cond.fieldLink RX9 69 "Tellcourt$Store" "lasts" "[Z" ∈ lwg := tb_1 (List.mem_of_getElem? (i := 193) rfl) rfl
theorem wd_288 : Cond.fieldLink RX6 227 "Tellcourt$Store" "lasts" "[Z" ∈ lwg := tb_1 (List.mem_of_getElem? (i := 194) rfl) rfl
theorem wd_290 : Cond.fieldLink RX8 31 "Tellcourt$Store" "stands" "[Z" ∈ lwg := tb_1 (List.mem_of_getElem? (i := 196) rfl) rfl
theorem wd_291 : Cond.fieldLink RX9 62 "Tellcourt$Store" "stands" "[Z" ∈ lwg := tb_1 (List.mem_of_getElem? (i := 197) rfl) rfl
theorem wd_292 : Cond.fieldLink RX6 126 "Tellcourt$Store" "stands" "[Z" ∈ lwg := tb_1 (List.mem_of_getElem? (i := 198) rfl) rfl
theorem wd_294 : Cond.fieldLink RX8 34 "Tellcourt$Store" "low" "[J" ∈ lwg := tb_1 (List.mem_of_getElem? (i := 200) rfl) rfl
theorem wd_295 : Cond.fieldLink RX0 36 "Tellcourt$Store" "low" "[J" ∈ lwg := tb_1 (List.mem_of_getElem? (i := 201) rfl) rfl
theorem wd_296 : Cond.fieldLink RX6 229 "Tellcourt$Store" "low" "[J" ∈ lwg := tb_1 (List.mem_of_getElem? (i := 202) rfl) rfl
theorem wd_298 : Cond.fieldLink RX8 38 "Tellcourt$Store" "high" "[J" ∈ lwg := tb_1 (List.mem_of_getElem? (i := 204) rfl) rfl
theorem wd_299 : Cond.fieldLink RX0 45 "Tellcourt$Store" "high" "[J" ∈ lwg := tb_1 (List.mem_of_getElem? (i := 205) rfl) rfl
theorem wd_300 : Cond.fieldLink RX6 231 "Tellcourt$Store" "high" "[J" ∈ lwg := tb_1 (List.mem_of_getElem? (i := 206) rfl) rfl
theorem wd_302 : Cond.fieldLink RX0 23 "Tellcourt$Store" "tokens" "I" ∈ lwg := tb_1 (List.mem_of_getElem? (i := 208) rfl) rfl
theorem wd_303 : Cond.fieldLink RX8 52 "Tellcourt$Store" "tokens" "I" ∈ lwg := tb_1 (List.mem_of_getElem? (i := 209) rfl) rfl
theorem wd_304 : Cond.fieldLink RX9 59 "Tellcourt$Store" "tokens" "I" ∈ lwg := tb_1 (List.mem_of_getElem? (i := 210) rfl) rfl
theorem wd_305 : Cond.fieldLink RX6 102 "Tellcourt$Store" "tokens" "I" ∈ lwg := tb_1 (List.mem_of_getElem? (i := 211) rfl) rfl
theorem wd_306 : Cond.fieldLink RX11 248 "Tellcourt$Store" "tokens" "I" ∈ lwg := tb_1 (List.mem_of_getElem? (i := 212) rfl) rfl
theorem wd_307 : Cond.fieldLink RX8 55 "Tellcourt$Store" "acts" "I" ∈ lwg := tb_1 (List.mem_of_getElem? (i := 213) rfl) rfl
theorem wd_308 : Cond.fieldLink RX10 136 "Tellcourt$Store" "acts" "I" ∈ lwg := tb_1 (List.mem_of_getElem? (i := 214) rfl) rfl
theorem wd_310 : Cond.fieldLink RX11 56 "Tellcourt$Store" "hasFailed" "Z" ∈ lwg := tb_1 (List.mem_of_getElem? (i := 216) rfl) rfl
theorem wd_311 : Cond.fieldLink RX8 58 "Tellcourt$Store" "hasFailed" "Z" ∈ lwg := tb_1 (List.mem_of_getElem? (i := 217) rfl) rfl
theorem wd_312 : Cond.fieldLink RX9 37 "Tellcourt$Store" "hasFailed" "Z" ∈ lwg := tb_1 (List.mem_of_getElem? (i := 218) rfl) rfl
theorem wd_313 : Cond.fieldLink RX10 147 "Tellcourt$Store" "hasFailed" "Z" ∈ lwg := tb_1 (List.mem_of_getElem? (i := 219) rfl) rfl
theorem wd_314 : Cond.fieldLink RX6 65 "Tellcourt$Store" "hasFailed" "Z" ∈ lwg := tb_1 (List.mem_of_getElem? (i := 220) rfl) rfl
theorem wd_349 : Cond.fieldLink RX2 9 "Tellcourt$Draws" "PRIMES" "[I" ∈ lwg := tb_2 (List.mem_of_getElem? (i := 15) rfl) rfl
theorem wd_351 : Cond.fieldLink RX2 15 "Tellcourt$Draws" "powers" "[I" ∈ lwg := tb_2 (List.mem_of_getElem? (i := 17) rfl) rfl
theorem wd_352 : Cond.fieldLink RX2 18 "Tellcourt$Draws" "x" "I" ∈ lwg := tb_2 (List.mem_of_getElem? (i := 18) rfl) rfl
theorem wd_353 : Cond.fieldLink RX11 213 "Tellcourt$Draws" "x" "I" ∈ lwg := tb_2 (List.mem_of_getElem? (i := 19) rfl) rfl
theorem wd_367 : Cond.fieldLink RX0 9 "Tellcourt$Agent" "frame" "[I" ∈ lwg := tb_2 (List.mem_of_getElem? (i := 33) rfl) rfl
theorem wd_368 : Cond.fieldLink RX1 29 "Tellcourt$Agent" "frame" "[I" ∈ lwg := tb_2 (List.mem_of_getElem? (i := 34) rfl) rfl
theorem wd_369 : Cond.fieldLink RX10 265 "Tellcourt$Agent" "frame" "[I" ∈ lwg := tb_2 (List.mem_of_getElem? (i := 35) rfl) rfl
theorem wd_370 : Cond.fieldLink RX0 15 "Tellcourt$Agent" "node" "I" ∈ lwg := tb_2 (List.mem_of_getElem? (i := 36) rfl) rfl
theorem wd_371 : Cond.fieldLink RX1 53 "Tellcourt$Agent" "node" "I" ∈ lwg := tb_2 (List.mem_of_getElem? (i := 37) rfl) rfl
theorem wd_372 : Cond.fieldLink RX10 200 "Tellcourt$Agent" "node" "I" ∈ lwg := tb_2 (List.mem_of_getElem? (i := 38) rfl) rfl
theorem wd_373 : Cond.fieldLink RX1 40 "Tellcourt$Agent" "low" "J" ∈ lwg := tb_2 (List.mem_of_getElem? (i := 39) rfl) rfl
theorem wd_374 : Cond.fieldLink RX0 28 "Tellcourt$Agent" "low" "J" ∈ lwg := tb_2 (List.mem_of_getElem? (i := 40) rfl) rfl
theorem wd_375 : Cond.fieldLink RX10 113 "Tellcourt$Agent" "low" "J" ∈ lwg := tb_2 (List.mem_of_getElem? (i := 41) rfl) rfl
theorem wd_376 : Cond.fieldLink RX1 44 "Tellcourt$Agent" "high" "J" ∈ lwg := tb_2 (List.mem_of_getElem? (i := 42) rfl) rfl
theorem wd_377 : Cond.fieldLink RX0 39 "Tellcourt$Agent" "high" "J" ∈ lwg := tb_2 (List.mem_of_getElem? (i := 43) rfl) rfl
theorem wd_378 : Cond.fieldLink RX10 117 "Tellcourt$Agent" "high" "J" ∈ lwg := tb_2 (List.mem_of_getElem? (i := 44) rfl) rfl
theorem wd_402 : Cond.fieldLink RX6 223 "Tellcourt$Frame" "binds" "[I" ∈ lwg := tb_2 (List.mem_of_getElem? (i := 68) rfl) rfl
theorem wd_403 : Cond.fieldLink RX6 71 "Tellcourt$Frame" "kind" "I" ∈ lwg := tb_2 (List.mem_of_getElem? (i := 69) rfl) rfl
theorem wd_404 : Cond.fieldLink RX6 74 "Tellcourt$Frame" "token" "I" ∈ lwg := tb_2 (List.mem_of_getElem? (i := 70) rfl) rfl
theorem wd_405 : Cond.fieldLink RX6 77 "Tellcourt$Frame" "place" "I" ∈ lwg := tb_2 (List.mem_of_getElem? (i := 71) rfl) rfl
theorem wd_406 : Cond.fieldLink RX6 217 "Tellcourt$Frame" "rule" "I" ∈ lwg := tb_2 (List.mem_of_getElem? (i := 72) rfl) rfl
theorem wd_407 : Cond.fieldLink RX6 80 "Tellcourt$Frame" "body" "I" ∈ lwg := tb_2 (List.mem_of_getElem? (i := 73) rfl) rfl
theorem wd_408 : Cond.fieldLink RX6 220 "Tellcourt$Frame" "lasts" "Z" ∈ lwg := tb_2 (List.mem_of_getElem? (i := 74) rfl) rfl
theorem wd_409 : Cond.fieldLink RX6 83 "Tellcourt$Frame" "low" "J" ∈ lwg := tb_2 (List.mem_of_getElem? (i := 75) rfl) rfl
theorem wd_410 : Cond.fieldLink RX6 87 "Tellcourt$Frame" "high" "J" ∈ lwg := tb_2 (List.mem_of_getElem? (i := 76) rfl) rfl
theorem wd_430 : Cond.fieldLink RX6 31 "Tellcourt$Rewriter" "store" "LTellcourt$Store;" ∈ lwg := tb_2 (List.mem_of_getElem? (i := 96) rfl) rfl
theorem wd_431 : Cond.fieldLink RX6 35 "Tellcourt$Rewriter" "rules" "[LTellcourt$Rule;" ∈ lwg := tb_2 (List.mem_of_getElem? (i := 97) rfl) rfl
theorem wd_432 : Cond.fieldLink RX6 13 "Tellcourt$Rewriter" "frames" "[LTellcourt$Frame;" ∈ lwg := tb_2 (List.mem_of_getElem? (i := 98) rfl) rfl
theorem wd_433 : Cond.fieldLink RX6 40 "Tellcourt$Rewriter" "depth" "I" ∈ lwg := tb_2 (List.mem_of_getElem? (i := 99) rfl) rfl
theorem wd_434 : Cond.fieldLink RX6 17 "Tellcourt$Rewriter" "binds" "[I" ∈ lwg := tb_2 (List.mem_of_getElem? (i := 100) rfl) rfl
theorem wd_435 : Cond.fieldLink RX6 21 "Tellcourt$Rewriter" "history" "[J" ∈ lwg := tb_2 (List.mem_of_getElem? (i := 101) rfl) rfl
theorem wd_436 : Cond.fieldLink RX6 25 "Tellcourt$Rewriter" "recent" "[I" ∈ lwg := tb_2 (List.mem_of_getElem? (i := 102) rfl) rfl
theorem wd_437 : Cond.fieldLink RX6 47 "Tellcourt$Rewriter" "remembered" "I" ∈ lwg := tb_2 (List.mem_of_getElem? (i := 103) rfl) rfl
theorem wd_438 : Cond.fieldLink RX10 271 "Tellcourt$Rewriter" "remembered" "I" ∈ lwg := tb_2 (List.mem_of_getElem? (i := 104) rfl) rfl
theorem wd_439 : Cond.fieldLink RX6 28 "Tellcourt$Rewriter" "firings" "[I" ∈ lwg := tb_2 (List.mem_of_getElem? (i := 105) rfl) rfl
theorem wd_441 : Cond.fieldLink RX6 44 "Tellcourt$Rewriter" "made" "I" ∈ lwg := tb_2 (List.mem_of_getElem? (i := 107) rfl) rfl
theorem wd_442 : Cond.fieldLink RX11 164 "Tellcourt$Rewriter" "made" "I" ∈ lwg := tb_2 (List.mem_of_getElem? (i := 108) rfl) rfl
theorem wd_475 : Cond.fieldLink RX1 9 "Tellcourt$AgentList" "room" "I" ∈ lwg := tb_2 (List.mem_of_getElem? (i := 141) rfl) rfl
theorem wd_476 : Cond.fieldLink RX1 15 "Tellcourt$AgentList" "nodeOf" "[I" ∈ lwg := tb_2 (List.mem_of_getElem? (i := 142) rfl) rfl
theorem wd_477 : Cond.fieldLink RX1 19 "Tellcourt$AgentList" "frames" "[I" ∈ lwg := tb_2 (List.mem_of_getElem? (i := 143) rfl) rfl
theorem wd_478 : Cond.fieldLink RX1 22 "Tellcourt$AgentList" "slices" "[J" ∈ lwg := tb_2 (List.mem_of_getElem? (i := 144) rfl) rfl
theorem wd_479 : Cond.fieldLink RX1 26 "Tellcourt$AgentList" "size" "I" ∈ lwg := tb_2 (List.mem_of_getElem? (i := 145) rfl) rfl
theorem wd_480 : Cond.fieldLink RX4 43 "Tellcourt$AgentList" "size" "I" ∈ lwg := tb_2 (List.mem_of_getElem? (i := 146) rfl) rfl
theorem wd_481 : Cond.fieldLink RX10 106 "Tellcourt$AgentList" "size" "I" ∈ lwg := tb_2 (List.mem_of_getElem? (i := 147) rfl) rfl
theorem wd_493 : Cond.fieldLink RX4 14 "Tellcourt$Level" "queue" "LTellcourt$AgentList;" ∈ lwg := tb_2 (List.mem_of_getElem? (i := 159) rfl) rfl
theorem wd_494 : Cond.fieldLink RX10 124 "Tellcourt$Level" "queue" "LTellcourt$AgentList;" ∈ lwg := tb_2 (List.mem_of_getElem? (i := 160) rfl) rfl
theorem wd_495 : Cond.fieldLink RX4 20 "Tellcourt$Level" "waits" "LTellcourt$AgentList;" ∈ lwg := tb_2 (List.mem_of_getElem? (i := 161) rfl) rfl
theorem wd_496 : Cond.fieldLink RX10 127 "Tellcourt$Level" "waits" "LTellcourt$AgentList;" ∈ lwg := tb_2 (List.mem_of_getElem? (i := 162) rfl) rfl
theorem wd_497 : Cond.fieldLink RX4 23 "Tellcourt$Level" "assumed" "LTellcourt$AgentList;" ∈ lwg := tb_2 (List.mem_of_getElem? (i := 163) rfl) rfl
theorem wd_498 : Cond.fieldLink RX10 130 "Tellcourt$Level" "assumed" "LTellcourt$AgentList;" ∈ lwg := tb_2 (List.mem_of_getElem? (i := 164) rfl) rfl
theorem wd_499 : Cond.fieldLink RX4 26 "Tellcourt$Level" "next" "LTellcourt$AgentList;" ∈ lwg := tb_2 (List.mem_of_getElem? (i := 165) rfl) rfl
theorem wd_500 : Cond.fieldLink RX10 96 "Tellcourt$Level" "next" "LTellcourt$AgentList;" ∈ lwg := tb_2 (List.mem_of_getElem? (i := 166) rfl) rfl
theorem wd_502 : Cond.fieldLink RX10 194 "Tellcourt$Level" "otherwise" "LTellcourt$AgentList;" ∈ lwg := tb_2 (List.mem_of_getElem? (i := 168) rfl) rfl
theorem wd_504 : Cond.fieldLink RX8 72 "Tellcourt$Level" "classOf" "[I" ∈ lwg := tb_2 (List.mem_of_getElem? (i := 170) rfl) rfl
theorem wd_506 : Cond.fieldLink RX8 73 "Tellcourt$Level" "values" "[I" ∈ lwg := tb_2 (List.mem_of_getElem? (i := 172) rfl) rfl
theorem wd_508 : Cond.fieldLink RX8 74 "Tellcourt$Level" "stands" "[Z" ∈ lwg := tb_2 (List.mem_of_getElem? (i := 174) rfl) rfl
theorem wd_509 : Cond.fieldLink RX8 68 "Tellcourt$Level" "variables" "I" ∈ lwg := tb_2 (List.mem_of_getElem? (i := 175) rfl) rfl
theorem wd_510 : Cond.fieldLink RX8 71 "Tellcourt$Level" "tokens" "I" ∈ lwg := tb_2 (List.mem_of_getElem? (i := 176) rfl) rfl
theorem wd_511 : Cond.fieldLink RX10 187 "Tellcourt$Level" "remembered" "I" ∈ lwg := tb_2 (List.mem_of_getElem? (i := 177) rfl) rfl
theorem wd_535 : Cond.methodLink RX10 59 yJ7_fill_53178 ∈ lwg := tb_2 (List.mem_of_getElem? (i := 201) rfl) rfl
theorem wd_536 : Cond.static yJ7_fill_53178 ∈ lwg := tb_2 (List.mem_of_getElem? (i := 202) rfl) rfl
theorem wd_537 : Cond.code yJ7_fill_53178 cJ7_fill_53178 4 none ∈ lwg := tb_2 (List.mem_of_getElem? (i := 203) rfl) rfl
theorem wd_538 : Cond.fieldLink RX10 45 "Tellcourt$World" "nodes" "LTellcourt$Nodes;" ∈ lwg := tb_2 (List.mem_of_getElem? (i := 204) rfl) rfl
theorem wd_539 : Cond.fieldLink RX10 12 "Tellcourt$World" "store" "LTellcourt$Store;" ∈ lwg := tb_2 (List.mem_of_getElem? (i := 205) rfl) rfl
theorem wd_540 : Cond.fieldLink RX11 46 "Tellcourt$World" "store" "LTellcourt$Store;" ∈ lwg := tb_2 (List.mem_of_getElem? (i := 206) rfl) rfl
theorem wd_541 : Cond.fieldLink RX10 54 "Tellcourt$World" "rewriter" "LTellcourt$Rewriter;" ∈ lwg := tb_2 (List.mem_of_getElem? (i := 207) rfl) rfl
theorem wd_542 : Cond.fieldLink RX11 160 "Tellcourt$World" "rewriter" "LTellcourt$Rewriter;" ∈ lwg := tb_2 (List.mem_of_getElem? (i := 208) rfl) rfl
theorem wd_543 : Cond.fieldLink RX10 21 "Tellcourt$World" "draws" "LTellcourt$Draws;" ∈ lwg := tb_2 (List.mem_of_getElem? (i := 209) rfl) rfl
theorem wd_544 : Cond.fieldLink RX11 209 "Tellcourt$World" "draws" "LTellcourt$Draws;" ∈ lwg := tb_2 (List.mem_of_getElem? (i := 210) rfl) rfl
theorem wd_545 : Cond.fieldLink RX10 25 "Tellcourt$World" "definitions" "[I" ∈ lwg := tb_2 (List.mem_of_getElem? (i := 211) rfl) rfl
theorem wd_546 : Cond.fieldLink RX11 115 "Tellcourt$World" "definitions" "[I" ∈ lwg := tb_2 (List.mem_of_getElem? (i := 212) rfl) rfl
theorem wd_547 : Cond.fieldLink RX10 29 "Tellcourt$World" "taken" "[I" ∈ lwg := tb_2 (List.mem_of_getElem? (i := 213) rfl) rfl
theorem wd_548 : Cond.fieldLink RX10 34 "Tellcourt$World" "levels" "[LTellcourt$Level;" ∈ lwg := tb_2 (List.mem_of_getElem? (i := 214) rfl) rfl
theorem wd_549 : Cond.fieldLink RX10 41 "Tellcourt$World" "hand" "LTellcourt$Agent;" ∈ lwg := tb_2 (List.mem_of_getElem? (i := 215) rfl) rfl
theorem wd_550 : Cond.fieldLink RX10 139 "Tellcourt$World" "depth" "I" ∈ lwg := tb_2 (List.mem_of_getElem? (i := 216) rfl) rfl
theorem wd_551 : Cond.fieldLink RX10 142 "Tellcourt$World" "isOver" "Z" ∈ lwg := tb_2 (List.mem_of_getElem? (i := 217) rfl) rfl
theorem wd_552 : Cond.fieldLink RX10 73 "Tellcourt$World" "steps" "I" ∈ lwg := tb_2 (List.mem_of_getElem? (i := 218) rfl) rfl
theorem wd_554 : Cond.fieldLink RX10 77 "Tellcourt$World" "clock" "I" ∈ lwg := tb_2 (List.mem_of_getElem? (i := 220) rfl) rfl
theorem wd_555 : Cond.fieldLink RX11 235 "Tellcourt$World" "clock" "I" ∈ lwg := tb_2 (List.mem_of_getElem? (i := 221) rfl) rfl
theorem wd_582 : Cond.fieldLink RX11 18 "Tellcourt" "rules" "[LTellcourt$Rule;" ∈ lwg := tb_3 (List.mem_of_getElem? (i := 8) rfl) rfl
theorem wd_583 : Cond.fieldLink RX11 39 "Tellcourt" "world" "LTellcourt$World;" ∈ lwg := tb_3 (List.mem_of_getElem? (i := 9) rfl) rfl
theorem wd_584 : Cond.fieldLink RX11 43 "Tellcourt" "scratch" "LTellcourt$World;" ∈ lwg := tb_3 (List.mem_of_getElem? (i := 10) rfl) rfl
theorem wd_585 : Cond.fieldLink RX11 25 "Tellcourt" "survey" "LTellcourt$Survey;" ∈ lwg := tb_3 (List.mem_of_getElem? (i := 11) rfl) rfl
theorem wd_586 : Cond.fieldLink RX11 29 "Tellcourt" "journal" "[I" ∈ lwg := tb_3 (List.mem_of_getElem? (i := 12) rfl) rfl
theorem wd_587 : Cond.fieldLink RX11 287 "Tellcourt" "entries" "I" ∈ lwg := tb_3 (List.mem_of_getElem? (i := 13) rfl) rfl
theorem wd_588 : Cond.fieldLink RX11 121 "Tellcourt" "isRuleBegun" "Z" ∈ lwg := tb_3 (List.mem_of_getElem? (i := 14) rfl) rfl
theorem wd_626 : Cond.methodLink RX11 283 yX8_countStanding ∈ lwg := tb_3 (List.mem_of_getElem? (i := 52) rfl) rfl
theorem wd_627 : Cond.instanceMethod yX8_countStanding ∈ lwg := tb_3 (List.mem_of_getElem? (i := 53) rfl) rfl
theorem wd_628 : Cond.selects yX8_countStanding.cls yX8_countStanding yX8_countStanding ∈ lwg := tb_3 (List.mem_of_getElem? (i := 54) rfl) rfl
theorem wd_629 : Cond.code yX8_countStanding cX8_countStanding 3 (some .int) ∈ lwg := tb_3 (List.mem_of_getElem? (i := 55) rfl) rfl
theorem wd_634 : Cond.methodLink RX11 286 yX10_clear ∈ lwg := tb_3 (List.mem_of_getElem? (i := 60) rfl) rfl
theorem wd_635 : Cond.instanceMethod yX10_clear ∈ lwg := tb_3 (List.mem_of_getElem? (i := 61) rfl) rfl
theorem wd_636 : Cond.selects yX10_clear.cls yX10_clear yX10_clear ∈ lwg := tb_3 (List.mem_of_getElem? (i := 62) rfl) rfl
theorem wd_637 : Cond.code yX10_clear cX10_clear 1 none ∈ lwg := tb_3 (List.mem_of_getElem? (i := 63) rfl) rfl
theorem wd_638 : Cond.methodLink RX10 65 yX8_clear ∈ lwg := tb_3 (List.mem_of_getElem? (i := 64) rfl) rfl
theorem wd_639 : Cond.instanceMethod yX8_clear ∈ lwg := tb_3 (List.mem_of_getElem? (i := 65) rfl) rfl
theorem wd_640 : Cond.selects yX8_clear.cls yX8_clear yX8_clear ∈ lwg := tb_3 (List.mem_of_getElem? (i := 66) rfl) rfl
theorem wd_641 : Cond.code yX8_clear cX8_clear 1 none ∈ lwg := tb_3 (List.mem_of_getElem? (i := 67) rfl) rfl
theorem wd_642 : Cond.methodLink RX10 68 yX6_clear ∈ lwg := tb_3 (List.mem_of_getElem? (i := 68) rfl) rfl
theorem wd_643 : Cond.instanceMethod yX6_clear ∈ lwg := tb_3 (List.mem_of_getElem? (i := 69) rfl) rfl
theorem wd_644 : Cond.selects yX6_clear.cls yX6_clear yX6_clear ∈ lwg := tb_3 (List.mem_of_getElem? (i := 70) rfl) rfl
theorem wd_645 : Cond.code yX6_clear cX6_clear 1 none ∈ lwg := tb_3 (List.mem_of_getElem? (i := 71) rfl) rfl
theorem wd_646 : Cond.methodLink RX6 50 yJ7_fill_d0a16 ∈ lwg := tb_3 (List.mem_of_getElem? (i := 72) rfl) rfl
theorem wd_647 : Cond.static yJ7_fill_d0a16 ∈ lwg := tb_3 (List.mem_of_getElem? (i := 73) rfl) rfl
theorem wd_648 : Cond.code yJ7_fill_d0a16 cJ7_fill_d0a16 5 none ∈ lwg := tb_3 (List.mem_of_getElem? (i := 74) rfl) rfl
theorem wd_649 : Cond.methodLink RX6 56 yJ7_fill_53178 ∈ lwg := tb_3 (List.mem_of_getElem? (i := 75) rfl) rfl
theorem wd_650 : Cond.methodLink RX10 69 yX2_clear ∈ lwg := tb_3 (List.mem_of_getElem? (i := 76) rfl) rfl
theorem wd_651 : Cond.instanceMethod yX2_clear ∈ lwg := tb_3 (List.mem_of_getElem? (i := 77) rfl) rfl
theorem wd_652 : Cond.selects yX2_clear.cls yX2_clear yX2_clear ∈ lwg := tb_3 (List.mem_of_getElem? (i := 78) rfl) rfl
theorem wd_653 : Cond.code yX2_clear cX2_clear 1 none ∈ lwg := tb_3 (List.mem_of_getElem? (i := 79) rfl) rfl
theorem wd_654 : Cond.methodLink RX2 22 yJ7_fill_53178 ∈ lwg := tb_3 (List.mem_of_getElem? (i := 80) rfl) rfl
theorem wd_655 : Cond.methodLink RX10 70 yX4_open ∈ lwg := tb_3 (List.mem_of_getElem? (i := 81) rfl) rfl
theorem wd_656 : Cond.instanceMethod yX4_open ∈ lwg := tb_3 (List.mem_of_getElem? (i := 82) rfl) rfl
theorem wd_657 : Cond.selects yX4_open.cls yX4_open yX4_open ∈ lwg := tb_3 (List.mem_of_getElem? (i := 83) rfl) rfl
theorem wd_658 : Cond.code yX4_open cX4_open 1 none ∈ lwg := tb_3 (List.mem_of_getElem? (i := 84) rfl) rfl
theorem wd_659 : Cond.methodLink RX11 71 yX8_makeVariable ∈ lwg := tb_3 (List.mem_of_getElem? (i := 85) rfl) rfl
theorem wd_660 : Cond.instanceMethod yX8_makeVariable ∈ lwg := tb_3 (List.mem_of_getElem? (i := 86) rfl) rfl
theorem wd_661 : Cond.selects yX8_makeVariable.cls yX8_makeVariable yX8_makeVariable ∈ lwg := tb_3 (List.mem_of_getElem? (i := 87) rfl) rfl
theorem wd_662 : Cond.code yX8_makeVariable cX8_makeVariable 1 (some .int) ∈ lwg := tb_3 (List.mem_of_getElem? (i := 88) rfl) rfl
theorem wd_663 : Cond.methodLink RX11 190 yX10_admit ∈ lwg := tb_3 (List.mem_of_getElem? (i := 89) rfl) rfl
theorem wd_664 : Cond.instanceMethod yX10_admit ∈ lwg := tb_3 (List.mem_of_getElem? (i := 90) rfl) rfl
theorem wd_665 : Cond.selects yX10_admit.cls yX10_admit yX10_admit ∈ lwg := tb_3 (List.mem_of_getElem? (i := 91) rfl) rfl
theorem wd_666 : Cond.code yX10_admit cX10_admit 4 none ∈ lwg := tb_3 (List.mem_of_getElem? (i := 92) rfl) rfl
theorem wd_667 : Cond.methodLink RX10 109 yX0_take ∈ lwg := tb_3 (List.mem_of_getElem? (i := 93) rfl) rfl
theorem wd_668 : Cond.instanceMethod yX0_take ∈ lwg := tb_3 (List.mem_of_getElem? (i := 94) rfl) rfl
theorem wd_669 : Cond.selects yX0_take.cls yX0_take yX0_take ∈ lwg := tb_3 (List.mem_of_getElem? (i := 95) rfl) rfl
theorem wd_670 : Cond.code yX0_take cX0_take 4 none ∈ lwg := tb_3 (List.mem_of_getElem? (i := 96) rfl) rfl
theorem wd_671 : Cond.methodLink RX10 120 yX1_add ∈ lwg := tb_3 (List.mem_of_getElem? (i := 97) rfl) rfl
theorem wd_672 : Cond.instanceMethod yX1_add ∈ lwg := tb_3 (List.mem_of_getElem? (i := 98) rfl) rfl
theorem wd_673 : Cond.selects yX1_add.cls yX1_add yX1_add ∈ lwg := tb_3 (List.mem_of_getElem? (i := 99) rfl) rfl
theorem wd_674 : Cond.code yX1_add cX1_add 3 none ∈ lwg := tb_3 (List.mem_of_getElem? (i := 100) rfl) rfl
theorem wd_675 : Cond.methodLink RX1 34 arraycopyName ∈ lwg := tb_3 (List.mem_of_getElem? (i := 101) rfl) rfl
theorem wd_676 : Cond.static arraycopyName ∈ lwg := tb_3 (List.mem_of_getElem? (i := 102) rfl) rfl
theorem wd_677 : Cond.native arraycopyName ∈ lwg := tb_3 (List.mem_of_getElem? (i := 103) rfl) rfl
theorem wd_678 : Cond.methodLink RX11 198 yX9_restart ∈ lwg := tb_3 (List.mem_of_getElem? (i := 104) rfl) rfl
theorem wd_679 : Cond.instanceMethod yX9_restart ∈ lwg := tb_3 (List.mem_of_getElem? (i := 105) rfl) rfl
theorem wd_680 : Cond.selects yX9_restart.cls yX9_restart yX9_restart ∈ lwg := tb_3 (List.mem_of_getElem? (i := 106) rfl) rfl
theorem wd_681 : Cond.code yX9_restart cX9_restart 1 none ∈ lwg := tb_3 (List.mem_of_getElem? (i := 107) rfl) rfl
theorem wd_682 : Cond.methodLink RX11 201 yX10_doStep ∈ lwg := tb_3 (List.mem_of_getElem? (i := 108) rfl) rfl
theorem wd_683 : Cond.instanceMethod yX10_doStep ∈ lwg := tb_3 (List.mem_of_getElem? (i := 109) rfl) rfl
theorem wd_684 : Cond.selects yX10_doStep.cls yX10_doStep yX10_doStep ∈ lwg := tb_3 (List.mem_of_getElem? (i := 110) rfl) rfl
theorem wd_685 : Cond.code yX10_doStep cX10_doStep 7 none ∈ lwg := tb_3 (List.mem_of_getElem? (i := 111) rfl) rfl
theorem wd_686 : Cond.methodLink RX10 100 yX1_addAll ∈ lwg := tb_3 (List.mem_of_getElem? (i := 112) rfl) rfl
theorem wd_687 : Cond.instanceMethod yX1_addAll ∈ lwg := tb_3 (List.mem_of_getElem? (i := 113) rfl) rfl
theorem wd_688 : Cond.selects yX1_addAll.cls yX1_addAll yX1_addAll ∈ lwg := tb_3 (List.mem_of_getElem? (i := 114) rfl) rfl
theorem wd_689 : Cond.code yX1_addAll cX1_addAll 3 none ∈ lwg := tb_3 (List.mem_of_getElem? (i := 115) rfl) rfl
theorem wd_690 : Cond.methodLink RX1 47 Lib.Math.min.name ∈ lwg := tb_3 (List.mem_of_getElem? (i := 116) rfl) rfl
theorem wd_691 : Cond.static Lib.Math.min.name ∈ lwg := tb_3 (List.mem_of_getElem? (i := 117) rfl) rfl
theorem wd_692 : Cond.code Lib.Math.min.name Lib.Math.min.code 2 (some .int) ∈ lwg := tb_3 (List.mem_of_getElem? (i := 118) rfl) rfl
theorem wd_693 : Cond.methodLink RX10 133 yX6_startStep ∈ lwg := tb_3 (List.mem_of_getElem? (i := 119) rfl) rfl
theorem wd_694 : Cond.instanceMethod yX6_startStep ∈ lwg := tb_3 (List.mem_of_getElem? (i := 120) rfl) rfl
theorem wd_695 : Cond.selects yX6_startStep.cls yX6_startStep yX6_startStep ∈ lwg := tb_3 (List.mem_of_getElem? (i := 121) rfl) rfl
theorem wd_696 : Cond.code yX6_startStep cX6_startStep 1 none ∈ lwg := tb_3 (List.mem_of_getElem? (i := 122) rfl) rfl
theorem wd_697 : Jvm.Cond.constant RX10 146 (1000000) ∈ lwg := tb_3 (List.mem_of_getElem? (i := 123) rfl) rfl
theorem wd_698 : Cond.methodLink RX10 150 yX10_giveUp ∈ lwg := tb_3 (List.mem_of_getElem? (i := 124) rfl) rfl
theorem wd_700 : Cond.instanceMethod yX10_giveUp ∈ lwg := tb_3 (List.mem_of_getElem? (i := 126) rfl) rfl
theorem wd_701 : Cond.code yX10_giveUp cX10_giveUp 2 none ∈ lwg := tb_3 (List.mem_of_getElem? (i := 127) rfl) rfl
theorem wd_702 : Cond.methodLink RX10 181 yX6_stop ∈ lwg := tb_3 (List.mem_of_getElem? (i := 128) rfl) rfl
theorem wd_703 : Cond.instanceMethod yX6_stop ∈ lwg := tb_3 (List.mem_of_getElem? (i := 129) rfl) rfl
theorem wd_704 : Cond.selects yX6_stop.cls yX6_stop yX6_stop ∈ lwg := tb_3 (List.mem_of_getElem? (i := 130) rfl) rfl
theorem wd_705 : Cond.code yX6_stop cX6_stop 1 none ∈ lwg := tb_3 (List.mem_of_getElem? (i := 131) rfl) rfl
theorem wd_706 : Cond.methodLink RX10 184 yX8_restore ∈ lwg := tb_3 (List.mem_of_getElem? (i := 132) rfl) rfl
theorem wd_707 : Cond.instanceMethod yX8_restore ∈ lwg := tb_3 (List.mem_of_getElem? (i := 133) rfl) rfl
theorem wd_708 : Cond.selects yX8_restore.cls yX8_restore yX8_restore ∈ lwg := tb_3 (List.mem_of_getElem? (i := 134) rfl) rfl
theorem wd_709 : Cond.code yX8_restore cX8_restore 4 none ∈ lwg := tb_3 (List.mem_of_getElem? (i := 135) rfl) rfl
theorem wd_710 : Cond.methodLink RX10 190 yX6_forget ∈ lwg := tb_3 (List.mem_of_getElem? (i := 136) rfl) rfl
theorem wd_711 : Cond.instanceMethod yX6_forget ∈ lwg := tb_3 (List.mem_of_getElem? (i := 137) rfl) rfl
theorem wd_712 : Cond.selects yX6_forget.cls yX6_forget yX6_forget ∈ lwg := tb_3 (List.mem_of_getElem? (i := 138) rfl) rfl
theorem wd_713 : Cond.code yX6_forget cX6_forget 5 none ∈ lwg := tb_3 (List.mem_of_getElem? (i := 139) rfl) rfl
theorem wd_714 : Cond.methodLink RX6 193 yX6_historyRow ∈ lwg := tb_3 (List.mem_of_getElem? (i := 140) rfl) rfl
theorem wd_715 : Cond.static yX6_historyRow ∈ lwg := tb_3 (List.mem_of_getElem? (i := 141) rfl) rfl
theorem wd_716 : Cond.code yX6_historyRow cX6_historyRow 3 (some .int) ∈ lwg := tb_3 (List.mem_of_getElem? (i := 142) rfl) rfl
theorem wd_717 : Cond.methodLink RX6 197 yX6_historyBit ∈ lwg := tb_3 (List.mem_of_getElem? (i := 143) rfl) rfl
theorem wd_718 : Cond.static yX6_historyBit ∈ lwg := tb_3 (List.mem_of_getElem? (i := 144) rfl) rfl
theorem wd_719 : Cond.code yX6_historyBit cX6_historyBit 1 (some .long) ∈ lwg := tb_3 (List.mem_of_getElem? (i := 145) rfl) rfl
theorem wd_720 : Jvm.Cond.constantLong RX6 205 (-1) ∈ lwg := tb_3 (List.mem_of_getElem? (i := 146) rfl) rfl
theorem wd_721 : Cond.methodLink RX10 197 yX1_read ∈ lwg := tb_3 (List.mem_of_getElem? (i := 147) rfl) rfl
theorem wd_722 : Cond.instanceMethod yX1_read ∈ lwg := tb_3 (List.mem_of_getElem? (i := 148) rfl) rfl
theorem wd_723 : Cond.selects yX1_read.cls yX1_read yX1_read ∈ lwg := tb_3 (List.mem_of_getElem? (i := 149) rfl) rfl
theorem wd_724 : Cond.code yX1_read cX1_read 3 none ∈ lwg := tb_3 (List.mem_of_getElem? (i := 150) rfl) rfl
theorem wd_725 : Cond.methodLink RX10 154 yX6_isBusy ∈ lwg := tb_3 (List.mem_of_getElem? (i := 151) rfl) rfl
theorem wd_726 : Cond.instanceMethod yX6_isBusy ∈ lwg := tb_3 (List.mem_of_getElem? (i := 152) rfl) rfl
theorem wd_727 : Cond.selects yX6_isBusy.cls yX6_isBusy yX6_isBusy ∈ lwg := tb_3 (List.mem_of_getElem? (i := 153) rfl) rfl
theorem wd_728 : Cond.code yX6_isBusy cX6_isBusy 1 (some .boolean) ∈ lwg := tb_3 (List.mem_of_getElem? (i := 154) rfl) rfl
theorem wd_729 : Cond.methodLink RX10 158 yX6_advance ∈ lwg := tb_3 (List.mem_of_getElem? (i := 155) rfl) rfl
theorem wd_730 : Cond.instanceMethod yX6_advance ∈ lwg := tb_3 (List.mem_of_getElem? (i := 156) rfl) rfl
theorem wd_731 : Cond.selects yX6_advance.cls yX6_advance yX6_advance ∈ lwg := tb_3 (List.mem_of_getElem? (i := 157) rfl) rfl
theorem wd_732 : Cond.code yX6_advance cX6_advance 2 none ∈ lwg := tb_3 (List.mem_of_getElem? (i := 158) rfl) rfl
theorem wd_733 : Cond.methodLink RX6 116 yX6_advanceActive ∈ lwg := tb_3 (List.mem_of_getElem? (i := 159) rfl) rfl
theorem wd_735 : Cond.instanceMethod yX6_advanceActive ∈ lwg := tb_3 (List.mem_of_getElem? (i := 161) rfl) rfl
theorem wd_736 : Cond.code yX6_advanceActive cX6_advanceActive 13 none ∈ lwg := tb_3 (List.mem_of_getElem? (i := 162) rfl) rfl
theorem wd_737 : Cond.methodLink RX6 141 yX6_isPartner ∈ lwg := tb_3 (List.mem_of_getElem? (i := 163) rfl) rfl
theorem wd_739 : Cond.instanceMethod yX6_isPartner ∈ lwg := tb_3 (List.mem_of_getElem? (i := 165) rfl) rfl
theorem wd_740 : Cond.code yX6_isPartner cX6_isPartner 5 (some .boolean) ∈ lwg := tb_3 (List.mem_of_getElem? (i := 166) rfl) rfl
theorem wd_741 : Cond.methodLink RX6 145 yX6_isNew ∈ lwg := tb_3 (List.mem_of_getElem? (i := 167) rfl) rfl
theorem wd_743 : Cond.instanceMethod yX6_isNew ∈ lwg := tb_3 (List.mem_of_getElem? (i := 169) rfl) rfl
theorem wd_744 : Cond.code yX6_isNew cX6_isNew 4 (some .boolean) ∈ lwg := tb_3 (List.mem_of_getElem? (i := 170) rfl) rfl
theorem wd_745 : Cond.methodLink RX6 149 yX6_isMatch ∈ lwg := tb_3 (List.mem_of_getElem? (i := 171) rfl) rfl
theorem wd_747 : Cond.instanceMethod yX6_isMatch ∈ lwg := tb_3 (List.mem_of_getElem? (i := 173) rfl) rfl
theorem wd_748 : Cond.code yX6_isMatch cX6_isMatch 8 (some .boolean) ∈ lwg := tb_3 (List.mem_of_getElem? (i := 174) rfl) rfl
theorem wd_750 : Cond.static yX11_isSlot ∈ lwg := tb_3 (List.mem_of_getElem? (i := 176) rfl) rfl
theorem wd_751 : Cond.code yX11_isSlot cX11_isSlot 1 (some .boolean) ∈ lwg := tb_3 (List.mem_of_getElem? (i := 177) rfl) rfl
theorem wd_752 : Cond.methodLink RX6 170 yX6_resolve ∈ lwg := tb_3 (List.mem_of_getElem? (i := 178) rfl) rfl
theorem wd_753 : Cond.static yX6_resolve ∈ lwg := tb_3 (List.mem_of_getElem? (i := 179) rfl) rfl
theorem wd_754 : Cond.code yX6_resolve cX6_resolve 2 (some .int) ∈ lwg := tb_3 (List.mem_of_getElem? (i := 180) rfl) rfl
theorem wd_755 : Cond.methodLink RX6 174 yX8_form ∈ lwg := tb_3 (List.mem_of_getElem? (i := 181) rfl) rfl
theorem wd_756 : Cond.instanceMethod yX8_form ∈ lwg := tb_3 (List.mem_of_getElem? (i := 182) rfl) rfl
theorem wd_757 : Cond.selects yX8_form.cls yX8_form yX8_form ∈ lwg := tb_3 (List.mem_of_getElem? (i := 183) rfl) rfl
theorem wd_758 : Cond.code yX8_form cX8_form 4 (some .int) ∈ lwg := tb_3 (List.mem_of_getElem? (i := 184) rfl) rfl
theorem wd_759 : Cond.methodLink RX6 190 yX8_isEntailed ∈ lwg := tb_3 (List.mem_of_getElem? (i := 185) rfl) rfl
theorem wd_760 : Cond.instanceMethod yX8_isEntailed ∈ lwg := tb_3 (List.mem_of_getElem? (i := 186) rfl) rfl
theorem wd_761 : Cond.selects yX8_isEntailed.cls yX8_isEntailed yX8_isEntailed ∈ lwg := tb_3 (List.mem_of_getElem? (i := 187) rfl) rfl
theorem wd_762 : Cond.code yX8_isEntailed cX8_isEntailed 7 (some .boolean) ∈ lwg := tb_3 (List.mem_of_getElem? (i := 188) rfl) rfl
theorem wd_763 : Cond.methodLink RX8 75 yX8_lowest ∈ lwg := tb_3 (List.mem_of_getElem? (i := 189) rfl) rfl
theorem wd_764 : Cond.instanceMethod yX8_lowest ∈ lwg := tb_3 (List.mem_of_getElem? (i := 190) rfl) rfl
theorem wd_765 : Cond.selects yX8_lowest.cls yX8_lowest yX8_lowest ∈ lwg := tb_3 (List.mem_of_getElem? (i := 191) rfl) rfl
theorem wd_766 : Cond.code yX8_lowest cX8_lowest 7 (some .int) ∈ lwg := tb_3 (List.mem_of_getElem? (i := 192) rfl) rfl
theorem wd_767 : Cond.methodLink RX8 79 yX8_form ∈ lwg := tb_3 (List.mem_of_getElem? (i := 193) rfl) rfl
theorem wd_768 : Cond.methodLink RX6 153 yX6_fire ∈ lwg := tb_3 (List.mem_of_getElem? (i := 194) rfl) rfl
theorem wd_770 : Cond.instanceMethod yX6_fire ∈ lwg := tb_3 (List.mem_of_getElem? (i := 196) rfl) rfl
theorem wd_771 : Cond.code yX6_fire cX6_fire 8 none ∈ lwg := tb_3 (List.mem_of_getElem? (i := 197) rfl) rfl
theorem wd_772 : Cond.methodLink RX6 207 yX8_mayAct ∈ lwg := tb_3 (List.mem_of_getElem? (i := 198) rfl) rfl
theorem wd_773 : Cond.instanceMethod yX8_mayAct ∈ lwg := tb_3 (List.mem_of_getElem? (i := 199) rfl) rfl
theorem wd_774 : Cond.selects yX8_mayAct.cls yX8_mayAct yX8_mayAct ∈ lwg := tb_3 (List.mem_of_getElem? (i := 200) rfl) rfl
theorem wd_775 : Cond.code yX8_mayAct cX8_mayAct 1 (some .boolean) ∈ lwg := tb_3 (List.mem_of_getElem? (i := 201) rfl) rfl
theorem wd_776 : Cond.methodLink RX6 211 yX7_removesNone ∈ lwg := tb_3 (List.mem_of_getElem? (i := 202) rfl) rfl
theorem wd_777 : Cond.instanceMethod yX7_removesNone ∈ lwg := tb_3 (List.mem_of_getElem? (i := 203) rfl) rfl
theorem wd_778 : Cond.selects yX7_removesNone.cls yX7_removesNone yX7_removesNone ∈ lwg := tb_3 (List.mem_of_getElem? (i := 204) rfl) rfl
theorem wd_779 : Cond.code yX7_removesNone cX7_removesNone 1 (some .boolean) ∈ lwg := tb_3 (List.mem_of_getElem? (i := 205) rfl) rfl
theorem wd_780 : Cond.methodLink RX6 214 yX6_remember ∈ lwg := tb_3 (List.mem_of_getElem? (i := 206) rfl) rfl
theorem wd_782 : Cond.instanceMethod yX6_remember ∈ lwg := tb_3 (List.mem_of_getElem? (i := 208) rfl) rfl
theorem wd_783 : Cond.code yX6_remember cX6_remember 4 none ∈ lwg := tb_3 (List.mem_of_getElem? (i := 209) rfl) rfl
theorem wd_784 : Cond.methodLink RX6 200 Lib.Math.max.name ∈ lwg := tb_3 (List.mem_of_getElem? (i := 210) rfl) rfl
theorem wd_785 : Cond.static Lib.Math.max.name ∈ lwg := tb_3 (List.mem_of_getElem? (i := 211) rfl) rfl
theorem wd_786 : Cond.code Lib.Math.max.name Lib.Math.max.code 2 (some .int) ∈ lwg := tb_3 (List.mem_of_getElem? (i := 212) rfl) rfl
theorem wd_787 : Cond.methodLink RX6 94 yX6_push ∈ lwg := tb_3 (List.mem_of_getElem? (i := 213) rfl) rfl
theorem wd_789 : Cond.instanceMethod yX6_push ∈ lwg := tb_3 (List.mem_of_getElem? (i := 215) rfl) rfl
theorem wd_790 : Cond.code yX6_push cX6_push 3 (some (.object "Tellcourt$Frame")) ∈ lwg := tb_3 (List.mem_of_getElem? (i := 216) rfl) rfl
theorem wd_791 : Cond.methodLink RX6 59 arraycopyName ∈ lwg := tb_3 (List.mem_of_getElem? (i := 217) rfl) rfl
theorem wd_792 : Cond.methodLink RX6 109 yX8_lowBit ∈ lwg := tb_3 (List.mem_of_getElem? (i := 218) rfl) rfl
theorem wd_793 : Cond.static yX8_lowBit ∈ lwg := tb_3 (List.mem_of_getElem? (i := 219) rfl) rfl
theorem wd_794 : Cond.code yX8_lowBit cX8_lowBit 1 (some .long) ∈ lwg := tb_3 (List.mem_of_getElem? (i := 220) rfl) rfl
theorem wd_795 : Cond.methodLink RX6 113 yX8_highBit ∈ lwg := tb_3 (List.mem_of_getElem? (i := 221) rfl) rfl
theorem wd_796 : Cond.static yX8_highBit ∈ lwg := tb_3 (List.mem_of_getElem? (i := 222) rfl) rfl
theorem wd_797 : Cond.code yX8_highBit cX8_highBit 1 (some .long) ∈ lwg := tb_3 (List.mem_of_getElem? (i := 223) rfl) rfl
theorem wd_798 : Cond.methodLink RX6 120 yX6_advanceWaking ∈ lwg := tb_3 (List.mem_of_getElem? (i := 224) rfl) rfl
theorem wd_800 : Cond.instanceMethod yX6_advanceWaking ∈ lwg := tb_3 (List.mem_of_getElem? (i := 226) rfl) rfl
theorem wd_801 : Cond.code yX6_advanceWaking cX6_advanceWaking 3 none ∈ lwg := tb_3 (List.mem_of_getElem? (i := 227) rfl) rfl
theorem wd_802 : Cond.methodLink RX6 233 yX8_isIn ∈ lwg := tb_3 (List.mem_of_getElem? (i := 228) rfl) rfl
theorem wd_803 : Cond.static yX8_isIn ∈ lwg := tb_3 (List.mem_of_getElem? (i := 229) rfl) rfl
theorem wd_804 : Cond.code yX8_isIn cX8_isIn 5 (some .boolean) ∈ lwg := tb_3 (List.mem_of_getElem? (i := 230) rfl) rfl
theorem wd_805 : Cond.methodLink RX8 41 yX8_lowBit ∈ lwg := tb_3 (List.mem_of_getElem? (i := 231) rfl) rfl
theorem wd_806 : Cond.methodLink RX8 45 yX8_highBit ∈ lwg := tb_3 (List.mem_of_getElem? (i := 232) rfl) rfl
theorem wd_807 : Cond.methodLink RX6 123 yX6_advanceBodies ∈ lwg := tb_3 (List.mem_of_getElem? (i := 233) rfl) rfl
theorem wd_809 : Cond.instanceMethod yX6_advanceBodies ∈ lwg := tb_3 (List.mem_of_getElem? (i := 235) rfl) rfl
theorem wd_810 : Cond.code yX6_advanceBodies cX6_advanceBodies 6 none ∈ lwg := tb_3 (List.mem_of_getElem? (i := 236) rfl) rfl
theorem wd_811 : Cond.methodLink RX6 246 yX6_tellEqual ∈ lwg := tb_3 (List.mem_of_getElem? (i := 237) rfl) rfl
theorem wd_812 : Cond.instanceMethod yX6_tellEqual ∈ lwg := tb_3 (List.mem_of_getElem? (i := 238) rfl) rfl
theorem wd_813 : Cond.selects yX6_tellEqual.cls yX6_tellEqual yX6_tellEqual ∈ lwg := tb_3 (List.mem_of_getElem? (i := 239) rfl) rfl
theorem wd_814 : Cond.code yX6_tellEqual cX6_tellEqual 6 none ∈ lwg := tb_4 (List.mem_of_getElem? (i := 0) rfl) rfl
theorem wd_815 : Cond.methodLink RX6 98 yX8_unite ∈ lwg := tb_4 (List.mem_of_getElem? (i := 1) rfl) rfl
theorem wd_816 : Cond.instanceMethod yX8_unite ∈ lwg := tb_4 (List.mem_of_getElem? (i := 2) rfl) rfl
theorem wd_817 : Cond.selects yX8_unite.cls yX8_unite yX8_unite ∈ lwg := tb_4 (List.mem_of_getElem? (i := 3) rfl) rfl
theorem wd_818 : Cond.code yX8_unite cX8_unite 9 (some .int) ∈ lwg := tb_4 (List.mem_of_getElem? (i := 4) rfl) rfl
theorem wd_819 : Cond.methodLink RX8 83 yX8_rootOf ∈ lwg := tb_4 (List.mem_of_getElem? (i := 5) rfl) rfl
theorem wd_821 : Cond.instanceMethod yX8_rootOf ∈ lwg := tb_4 (List.mem_of_getElem? (i := 7) rfl) rfl
theorem wd_822 : Cond.code yX8_rootOf cX8_rootOf 3 (some .int) ∈ lwg := tb_4 (List.mem_of_getElem? (i := 8) rfl) rfl
theorem wd_823 : Cond.methodLink RX8 86 Lib.Math.min.name ∈ lwg := tb_4 (List.mem_of_getElem? (i := 9) rfl) rfl
theorem wd_824 : Cond.methodLink RX8 92 Lib.Math.max.name ∈ lwg := tb_4 (List.mem_of_getElem? (i := 10) rfl) rfl
theorem wd_825 : Cond.methodLink RX8 95 yX8_join ∈ lwg := tb_4 (List.mem_of_getElem? (i := 11) rfl) rfl
theorem wd_827 : Cond.instanceMethod yX8_join ∈ lwg := tb_4 (List.mem_of_getElem? (i := 13) rfl) rfl
theorem wd_828 : Cond.code yX8_join cX8_join 5 (some .int) ∈ lwg := tb_4 (List.mem_of_getElem? (i := 14) rfl) rfl
theorem wd_829 : Cond.methodLink RX6 105 yX8_isTouched ∈ lwg := tb_4 (List.mem_of_getElem? (i := 15) rfl) rfl
theorem wd_830 : Cond.instanceMethod yX8_isTouched ∈ lwg := tb_4 (List.mem_of_getElem? (i := 16) rfl) rfl
theorem wd_831 : Cond.selects yX8_isTouched.cls yX8_isTouched yX8_isTouched ∈ lwg := tb_4 (List.mem_of_getElem? (i := 17) rfl) rfl
theorem wd_832 : Cond.code yX8_isTouched cX8_isTouched 3 (some .boolean) ∈ lwg := tb_4 (List.mem_of_getElem? (i := 18) rfl) rfl
theorem wd_833 : Cond.methodLink RX6 250 yX6_tellToken ∈ lwg := tb_4 (List.mem_of_getElem? (i := 19) rfl) rfl
theorem wd_834 : Cond.instanceMethod yX6_tellToken ∈ lwg := tb_4 (List.mem_of_getElem? (i := 20) rfl) rfl
theorem wd_835 : Cond.selects yX6_tellToken.cls yX6_tellToken yX6_tellToken ∈ lwg := tb_4 (List.mem_of_getElem? (i := 21) rfl) rfl
theorem wd_836 : Cond.code yX6_tellToken cX6_tellToken 10 none ∈ lwg := tb_4 (List.mem_of_getElem? (i := 22) rfl) rfl
theorem wd_837 : Cond.methodLink RX6 90 yX8_addToken ∈ lwg := tb_4 (List.mem_of_getElem? (i := 23) rfl) rfl
theorem wd_838 : Cond.instanceMethod yX8_addToken ∈ lwg := tb_4 (List.mem_of_getElem? (i := 24) rfl) rfl
theorem wd_839 : Cond.selects yX8_addToken.cls yX8_addToken yX8_addToken ∈ lwg := tb_4 (List.mem_of_getElem? (i := 25) rfl) rfl
theorem wd_840 : Cond.code yX8_addToken cX8_addToken 9 (some .int) ∈ lwg := tb_4 (List.mem_of_getElem? (i := 26) rfl) rfl
theorem wd_841 : Cond.methodLink RX10 161 yX9_choose ∈ lwg := tb_4 (List.mem_of_getElem? (i := 27) rfl) rfl
theorem wd_842 : Cond.instanceMethod yX9_choose ∈ lwg := tb_4 (List.mem_of_getElem? (i := 28) rfl) rfl
theorem wd_843 : Cond.selects yX9_choose.cls yX9_choose yX9_choose ∈ lwg := tb_4 (List.mem_of_getElem? (i := 29) rfl) rfl
theorem wd_844 : Cond.code yX9_choose cX9_choose 3 (some .int) ∈ lwg := tb_4 (List.mem_of_getElem? (i := 30) rfl) rfl
theorem wd_845 : Cond.methodLink RX10 167 yX10_act ∈ lwg := tb_4 (List.mem_of_getElem? (i := 31) rfl) rfl
theorem wd_847 : Cond.instanceMethod yX10_act ∈ lwg := tb_4 (List.mem_of_getElem? (i := 33) rfl) rfl
theorem wd_848 : Cond.code yX10_act cX10_act 11 none ∈ lwg := tb_4 (List.mem_of_getElem? (i := 34) rfl) rfl
theorem wd_849 : Cond.methodLink RX10 203 yX1_drop ∈ lwg := tb_4 (List.mem_of_getElem? (i := 35) rfl) rfl
theorem wd_850 : Cond.instanceMethod yX1_drop ∈ lwg := tb_4 (List.mem_of_getElem? (i := 36) rfl) rfl
theorem wd_851 : Cond.selects yX1_drop.cls yX1_drop yX1_drop ∈ lwg := tb_4 (List.mem_of_getElem? (i := 37) rfl) rfl
theorem wd_852 : Cond.code yX1_drop cX1_drop 3 none ∈ lwg := tb_4 (List.mem_of_getElem? (i := 38) rfl) rfl
theorem wd_853 : Cond.methodLink RX10 206 yX8_mayAct ∈ lwg := tb_4 (List.mem_of_getElem? (i := 39) rfl) rfl
theorem wd_854 : Cond.methodLink RX10 220 yX0_look ∈ lwg := tb_4 (List.mem_of_getElem? (i := 40) rfl) rfl
theorem wd_855 : Cond.instanceMethod yX0_look ∈ lwg := tb_4 (List.mem_of_getElem? (i := 41) rfl) rfl
theorem wd_856 : Cond.selects yX0_look.cls yX0_look yX0_look ∈ lwg := tb_4 (List.mem_of_getElem? (i := 42) rfl) rfl
theorem wd_857 : Cond.code yX0_look cX0_look 2 (some .int) ∈ lwg := tb_4 (List.mem_of_getElem? (i := 43) rfl) rfl
theorem wd_859 : Cond.methodLink RX10 232 yX6_tellEqual ∈ lwg := tb_4 (List.mem_of_getElem? (i := 45) rfl) rfl
theorem wd_860 : Cond.methodLink RX10 236 yX6_tellToken ∈ lwg := tb_4 (List.mem_of_getElem? (i := 46) rfl) rfl
theorem wd_861 : Cond.methodLink RX10 240 yX10_sideOf ∈ lwg := tb_4 (List.mem_of_getElem? (i := 47) rfl) rfl
theorem wd_863 : Cond.instanceMethod yX10_sideOf ∈ lwg := tb_4 (List.mem_of_getElem? (i := 49) rfl) rfl
theorem wd_864 : Cond.code yX10_sideOf cX10_sideOf 5 (some .int) ∈ lwg := tb_4 (List.mem_of_getElem? (i := 50) rfl) rfl
theorem wd_865 : Cond.methodLink RX10 280 yX10_isEntailed ∈ lwg := tb_4 (List.mem_of_getElem? (i := 51) rfl) rfl
theorem wd_867 : Cond.instanceMethod yX10_isEntailed ∈ lwg := tb_4 (List.mem_of_getElem? (i := 53) rfl) rfl
theorem wd_868 : Cond.code yX10_isEntailed cX10_isEntailed 2 (some .boolean) ∈ lwg := tb_4 (List.mem_of_getElem? (i := 54) rfl) rfl
theorem wd_869 : Cond.methodLink RX10 284 yX8_isEntailed ∈ lwg := tb_4 (List.mem_of_getElem? (i := 55) rfl) rfl
theorem wd_870 : Cond.methodLink RX10 243 yX10_ask ∈ lwg := tb_4 (List.mem_of_getElem? (i := 56) rfl) rfl
theorem wd_872 : Cond.instanceMethod yX10_ask ∈ lwg := tb_4 (List.mem_of_getElem? (i := 58) rfl) rfl
theorem wd_873 : Cond.code yX10_ask cX10_ask 8 none ∈ lwg := tb_4 (List.mem_of_getElem? (i := 59) rfl) rfl
theorem wd_874 : Cond.methodLink RX10 272 yX8_lowest ∈ lwg := tb_4 (List.mem_of_getElem? (i := 60) rfl) rfl
theorem wd_875 : Cond.methodLink RX10 276 yX0_include ∈ lwg := tb_4 (List.mem_of_getElem? (i := 61) rfl) rfl
theorem wd_876 : Cond.instanceMethod yX0_include ∈ lwg := tb_4 (List.mem_of_getElem? (i := 62) rfl) rfl
theorem wd_877 : Cond.selects yX0_include.cls yX0_include yX0_include ∈ lwg := tb_4 (List.mem_of_getElem? (i := 63) rfl) rfl
theorem wd_878 : Cond.code yX0_include cX0_include 3 none ∈ lwg := tb_4 (List.mem_of_getElem? (i := 64) rfl) rfl
theorem wd_879 : Cond.methodLink RX0 32 yX8_lowBit ∈ lwg := tb_4 (List.mem_of_getElem? (i := 65) rfl) rfl
theorem wd_880 : Cond.methodLink RX0 42 yX8_highBit ∈ lwg := tb_4 (List.mem_of_getElem? (i := 66) rfl) rfl
theorem wd_881 : Cond.methodLink RX10 247 yX10_conceal ∈ lwg := tb_4 (List.mem_of_getElem? (i := 67) rfl) rfl
theorem wd_883 : Cond.instanceMethod yX10_conceal ∈ lwg := tb_4 (List.mem_of_getElem? (i := 69) rfl) rfl
theorem wd_884 : Cond.code yX10_conceal cX10_conceal 5 none ∈ lwg := tb_4 (List.mem_of_getElem? (i := 70) rfl) rfl
theorem wd_885 : Cond.methodLink RX10 261 yX8_makeVariable ∈ lwg := tb_4 (List.mem_of_getElem? (i := 71) rfl) rfl
theorem wd_886 : Cond.methodLink RX10 250 yX10_enter ∈ lwg := tb_4 (List.mem_of_getElem? (i := 72) rfl) rfl
theorem wd_888 : Cond.instanceMethod yX10_enter ∈ lwg := tb_4 (List.mem_of_getElem? (i := 74) rfl) rfl
theorem wd_889 : Cond.code yX10_enter cX10_enter 5 none ∈ lwg := tb_4 (List.mem_of_getElem? (i := 75) rfl) rfl
theorem wd_890 : Cond.methodLink RX10 254 yX2_isFirst ∈ lwg := tb_4 (List.mem_of_getElem? (i := 76) rfl) rfl
theorem wd_891 : Cond.instanceMethod yX2_isFirst ∈ lwg := tb_4 (List.mem_of_getElem? (i := 77) rfl) rfl
theorem wd_892 : Cond.selects yX2_isFirst.cls yX2_isFirst yX2_isFirst ∈ lwg := tb_4 (List.mem_of_getElem? (i := 78) rfl) rfl
theorem wd_893 : Cond.code yX2_isFirst cX2_isFirst 5 (some .boolean) ∈ lwg := tb_4 (List.mem_of_getElem? (i := 79) rfl) rfl
theorem wd_894 : Jvm.Cond.constant RX2 34 (65537) ∈ lwg := tb_4 (List.mem_of_getElem? (i := 80) rfl) rfl
theorem wd_895 : Cond.methodLink RX2 35 yX2_multiply ∈ lwg := tb_4 (List.mem_of_getElem? (i := 81) rfl) rfl
theorem wd_897 : Cond.instanceMethod yX2_multiply ∈ lwg := tb_4 (List.mem_of_getElem? (i := 83) rfl) rfl
theorem wd_898 : Cond.code yX2_multiply cX2_multiply 5 none ∈ lwg := tb_4 (List.mem_of_getElem? (i := 84) rfl) rfl
theorem wd_899 : Cond.methodLink RX10 258 yX10_dare ∈ lwg := tb_4 (List.mem_of_getElem? (i := 85) rfl) rfl
theorem wd_901 : Cond.instanceMethod yX10_dare ∈ lwg := tb_4 (List.mem_of_getElem? (i := 87) rfl) rfl
theorem wd_902 : Cond.code yX10_dare cX10_dare 5 none ∈ lwg := tb_4 (List.mem_of_getElem? (i := 88) rfl) rfl
theorem wd_903 : Cond.methodLink RX10 268 yX8_save ∈ lwg := tb_4 (List.mem_of_getElem? (i := 89) rfl) rfl
theorem wd_904 : Cond.instanceMethod yX8_save ∈ lwg := tb_4 (List.mem_of_getElem? (i := 90) rfl) rfl
theorem wd_905 : Cond.selects yX8_save.cls yX8_save yX8_save ∈ lwg := tb_4 (List.mem_of_getElem? (i := 91) rfl) rfl
theorem wd_906 : Cond.code yX8_save cX8_save 2 none ∈ lwg := tb_4 (List.mem_of_getElem? (i := 92) rfl) rfl
theorem wd_907 : Cond.methodLink RX8 62 arraycopyName ∈ lwg := tb_4 (List.mem_of_getElem? (i := 93) rfl) rfl
theorem wd_908 : Cond.methodLink RX10 171 yX10_goOn ∈ lwg := tb_4 (List.mem_of_getElem? (i := 94) rfl) rfl
theorem wd_910 : Cond.instanceMethod yX10_goOn ∈ lwg := tb_4 (List.mem_of_getElem? (i := 96) rfl) rfl
theorem wd_911 : Cond.code yX10_goOn cX10_goOn 5 (some .boolean) ∈ lwg := tb_4 (List.mem_of_getElem? (i := 97) rfl) rfl
theorem wd_912 : Cond.methodLink RX10 175 yX10_assume ∈ lwg := tb_4 (List.mem_of_getElem? (i := 98) rfl) rfl
theorem wd_914 : Cond.instanceMethod yX10_assume ∈ lwg := tb_4 (List.mem_of_getElem? (i := 100) rfl) rfl
theorem wd_915 : Cond.code yX10_assume cX10_assume 4 (some .boolean) ∈ lwg := tb_4 (List.mem_of_getElem? (i := 101) rfl) rfl
theorem wd_916 : Cond.methodLink RX10 178 yX10_finish ∈ lwg := tb_4 (List.mem_of_getElem? (i := 102) rfl) rfl
theorem wd_918 : Cond.instanceMethod yX10_finish ∈ lwg := tb_4 (List.mem_of_getElem? (i := 104) rfl) rfl
theorem wd_919 : Cond.code yX10_finish cX10_finish 3 none ∈ lwg := tb_4 (List.mem_of_getElem? (i := 105) rfl) rfl
theorem wd_920 : Cond.methodLink RX10 287 yX8_dropPassing ∈ lwg := tb_4 (List.mem_of_getElem? (i := 106) rfl) rfl
theorem wd_921 : Cond.instanceMethod yX8_dropPassing ∈ lwg := tb_4 (List.mem_of_getElem? (i := 107) rfl) rfl
theorem wd_922 : Cond.selects yX8_dropPassing.cls yX8_dropPassing yX8_dropPassing ∈ lwg := tb_4 (List.mem_of_getElem? (i := 108) rfl) rfl
theorem wd_923 : Cond.code yX8_dropPassing cX8_dropPassing 2 none ∈ lwg := tb_4 (List.mem_of_getElem? (i := 109) rfl) rfl
theorem wd_928 : Cond.methodLink RX11 185 yX10_forNext ∈ lwg := tb_4 (List.mem_of_getElem? (i := 114) rfl) rfl
theorem wd_929 : Cond.instanceMethod yX10_forNext ∈ lwg := tb_4 (List.mem_of_getElem? (i := 115) rfl) rfl
theorem wd_930 : Cond.selects yX10_forNext.cls yX10_forNext yX10_forNext ∈ lwg := tb_4 (List.mem_of_getElem? (i := 116) rfl) rfl
theorem wd_931 : Cond.code yX10_forNext cX10_forNext 1 (some .int) ∈ lwg := tb_4 (List.mem_of_getElem? (i := 117) rfl) rfl
theorem wd_936 : Cond.methodLink RX11 295 yX2_line ∈ lwg := tb_4 (List.mem_of_getElem? (i := 122) rfl) rfl
theorem wd_937 : Cond.instanceMethod yX2_line ∈ lwg := tb_4 (List.mem_of_getElem? (i := 123) rfl) rfl
theorem wd_938 : Cond.selects yX2_line.cls yX2_line yX2_line ∈ lwg := tb_4 (List.mem_of_getElem? (i := 124) rfl) rfl
theorem wd_939 : Cond.code yX2_line cX2_line 7 (some .int) ∈ lwg := tb_4 (List.mem_of_getElem? (i := 125) rfl) rfl
theorem wd_940 : Jvm.Cond.constantLong RX2 39 (1000003) ∈ lwg := tb_4 (List.mem_of_getElem? (i := 126) rfl) rfl
theorem wd_1036 : Cond.methodLink RX11 180 yX11_isValue ∈ lwg := tb_4 (List.mem_of_getElem? (i := 222) rfl) rfl
theorem wd_1037 : Cond.static yX11_isValue ∈ lwg := tb_4 (List.mem_of_getElem? (i := 223) rfl) rfl
theorem wd_1038 : Cond.code yX11_isValue cX11_isValue 1 (some .boolean) ∈ lwg := tb_4 (List.mem_of_getElem? (i := 224) rfl) rfl
theorem wd_1039 : Cond.methodLink RX11 327 yX11_isSlot ∈ lwg := tb_4 (List.mem_of_getElem? (i := 225) rfl) rfl
theorem wd_1200 : Cond.methodLink RX11 124 yX11_begunRule ∈ lwg := tb_5 (List.mem_of_getElem? (i := 146) rfl) rfl
theorem wd_1202 : Cond.instanceMethod yX11_begunRule ∈ lwg := tb_5 (List.mem_of_getElem? (i := 148) rfl) rfl
theorem wd_1203 : Cond.code yX11_begunRule cX11_begunRule 1 (some (.object "Tellcourt$Rule")) ∈ lwg := tb_5 (List.mem_of_getElem? (i := 149) rfl) rfl
theorem wd_1204 : Cond.methodLink RX11 330 Lib.Math.min.name ∈ lwg := tb_5 (List.mem_of_getElem? (i := 150) rfl) rfl
theorem wd_1213 : Cond.methodLink RX7 42 yX7_bind ∈ lwg := tb_5 (List.mem_of_getElem? (i := 159) rfl) rfl
theorem wd_1215 : Cond.instanceMethod yX7_bind ∈ lwg := tb_5 (List.mem_of_getElem? (i := 161) rfl) rfl
theorem wd_1216 : Cond.code yX7_bind cX7_bind 2 none ∈ lwg := tb_5 (List.mem_of_getElem? (i := 162) rfl) rfl
theorem wd_1241 : Cond.methodLink RX11 324 yX7_isBinding ∈ lwg := tb_5 (List.mem_of_getElem? (i := 187) rfl) rfl
theorem wd_1242 : Cond.instanceMethod yX7_isBinding ∈ lwg := tb_5 (List.mem_of_getElem? (i := 188) rfl) rfl
theorem wd_1243 : Cond.selects yX7_isBinding.cls yX7_isBinding yX7_isBinding ∈ lwg := tb_5 (List.mem_of_getElem? (i := 189) rfl) rfl
theorem wd_1244 : Cond.code yX7_isBinding cX7_isBinding 2 (some .boolean) ∈ lwg := tb_5 (List.mem_of_getElem? (i := 190) rfl) rfl
theorem wd_1313 : Cond.methodLink RX10 80 yX8_copyFrom ∈ lwg := tb_6 (List.mem_of_getElem? (i := 19) rfl) rfl
theorem wd_1314 : Cond.instanceMethod yX8_copyFrom ∈ lwg := tb_6 (List.mem_of_getElem? (i := 20) rfl) rfl
theorem wd_1315 : Cond.selects yX8_copyFrom.cls yX8_copyFrom yX8_copyFrom ∈ lwg := tb_6 (List.mem_of_getElem? (i := 21) rfl) rfl
theorem wd_1316 : Cond.code yX8_copyFrom cX8_copyFrom 2 none ∈ lwg := tb_6 (List.mem_of_getElem? (i := 22) rfl) rfl
theorem wd_1317 : Cond.methodLink RX10 84 yX6_copyFrom ∈ lwg := tb_6 (List.mem_of_getElem? (i := 23) rfl) rfl
theorem wd_1318 : Cond.instanceMethod yX6_copyFrom ∈ lwg := tb_6 (List.mem_of_getElem? (i := 24) rfl) rfl
theorem wd_1319 : Cond.selects yX6_copyFrom.cls yX6_copyFrom yX6_copyFrom ∈ lwg := tb_6 (List.mem_of_getElem? (i := 25) rfl) rfl
theorem wd_1320 : Cond.code yX6_copyFrom cX6_copyFrom 2 none ∈ lwg := tb_6 (List.mem_of_getElem? (i := 26) rfl) rfl
theorem wd_1321 : Cond.methodLink RX10 87 yX2_copyFrom ∈ lwg := tb_6 (List.mem_of_getElem? (i := 27) rfl) rfl
theorem wd_1322 : Cond.instanceMethod yX2_copyFrom ∈ lwg := tb_6 (List.mem_of_getElem? (i := 28) rfl) rfl
theorem wd_1323 : Cond.selects yX2_copyFrom.cls yX2_copyFrom yX2_copyFrom ∈ lwg := tb_6 (List.mem_of_getElem? (i := 29) rfl) rfl
theorem wd_1324 : Cond.code yX2_copyFrom cX2_copyFrom 2 none ∈ lwg := tb_6 (List.mem_of_getElem? (i := 30) rfl) rfl
theorem wd_1325 : Cond.methodLink RX2 28 arraycopyName ∈ lwg := tb_6 (List.mem_of_getElem? (i := 31) rfl) rfl
theorem wd_1326 : Cond.methodLink RX10 90 arraycopyName ∈ lwg := tb_6 (List.mem_of_getElem? (i := 32) rfl) rfl
theorem wd_1331 : Cond.methodLink RX9 31 yJ7_fill_fda19 ∈ lwg := tb_6 (List.mem_of_getElem? (i := 37) rfl) rfl
theorem wd_1332 : Cond.static yJ7_fill_fda19 ∈ lwg := tb_6 (List.mem_of_getElem? (i := 38) rfl) rfl
theorem wd_1333 : Cond.code yJ7_fill_fda19 cJ7_fill_fda19 5 none ∈ lwg := tb_6 (List.mem_of_getElem? (i := 39) rfl) rfl
theorem wd_1334 : Cond.methodLink RJ7 13 yJ7_rangeCheck_23922 ∈ lwg := tb_6 (List.mem_of_getElem? (i := 40) rfl) rfl
theorem wd_1335 : Cond.static yJ7_rangeCheck_23922 ∈ lwg := tb_6 (List.mem_of_getElem? (i := 41) rfl) rfl
theorem wd_1336 : Cond.code yJ7_rangeCheck_23922 cJ7_rangeCheck_23922 3 none ∈ lwg := tb_6 (List.mem_of_getElem? (i := 42) rfl) rfl
theorem wd_1596 : Cond.methodLink RX9 43 yX8_countStanding ∈ lwg := tb_7 (List.mem_of_getElem? (i := 62) rfl) rfl
theorem wd_1597 : Cond.methodLink RX9 47 yX8_form ∈ lwg := tb_7 (List.mem_of_getElem? (i := 63) rfl) rfl
theorem wd_1598 : Cond.methodLink RX9 51 yX9_recordTokens ∈ lwg := tb_7 (List.mem_of_getElem? (i := 64) rfl) rfl
theorem wd_1600 : Cond.instanceMethod yX9_recordTokens ∈ lwg := tb_7 (List.mem_of_getElem? (i := 66) rfl) rfl
theorem wd_1601 : Cond.code yX9_recordTokens cX9_recordTokens 7 none ∈ lwg := tb_7 (List.mem_of_getElem? (i := 67) rfl) rfl
theorem wd_1602 : Cond.methodLink RX9 55 yX9_isSame ∈ lwg := tb_7 (List.mem_of_getElem? (i := 68) rfl) rfl
theorem wd_1604 : Cond.instanceMethod yX9_isSame ∈ lwg := tb_7 (List.mem_of_getElem? (i := 70) rfl) rfl
theorem wd_1605 : Cond.code yX9_isSame cX9_isSame 4 (some .boolean) ∈ lwg := tb_7 (List.mem_of_getElem? (i := 71) rfl) rfl
theorem wd_1664 : Cond.fieldLink RX12 7 "TellcourtModel" "st" "[I" ∈ lwg := tb_7 (List.mem_of_getElem? (i := 130) rfl) rfl
theorem wd_1665 : Cond.fieldLink RX12 13 "TellcourtModel" "kept" "[I" ∈ lwg := tb_7 (List.mem_of_getElem? (i := 131) rfl) rfl
theorem wd_1666 : Cond.fieldLink RX12 16 "TellcourtModel" "kinds" "[I" ∈ lwg := tb_7 (List.mem_of_getElem? (i := 132) rfl) rfl
theorem wd_1667 : Cond.fieldLink RX12 19 "TellcourtModel" "n1" "[I" ∈ lwg := tb_7 (List.mem_of_getElem? (i := 133) rfl) rfl
theorem wd_1668 : Cond.fieldLink RX12 22 "TellcourtModel" "n2" "[I" ∈ lwg := tb_7 (List.mem_of_getElem? (i := 134) rfl) rfl
theorem wd_1669 : Cond.fieldLink RX12 25 "TellcourtModel" "n3" "[I" ∈ lwg := tb_7 (List.mem_of_getElem? (i := 135) rfl) rfl
theorem wd_1670 : Cond.fieldLink RX12 28 "TellcourtModel" "n4" "[I" ∈ lwg := tb_7 (List.mem_of_getElem? (i := 136) rfl) rfl
theorem wd_1671 : Cond.fieldLink RX12 130 "TellcourtModel" "nodes" "I" ∈ lwg := tb_7 (List.mem_of_getElem? (i := 137) rfl) rfl
theorem wd_1672 : Cond.fieldLink RX12 31 "TellcourtModel" "defined" "[I" ∈ lwg := tb_7 (List.mem_of_getElem? (i := 138) rfl) rfl
theorem wd_1673 : Cond.fieldLink RX12 34 "TellcourtModel" "heads" "[I" ∈ lwg := tb_7 (List.mem_of_getElem? (i := 139) rfl) rfl
theorem wd_1674 : Cond.fieldLink RX12 37 "TellcourtModel" "headOf" "[I" ∈ lwg := tb_7 (List.mem_of_getElem? (i := 140) rfl) rfl
theorem wd_1675 : Cond.fieldLink RX12 40 "TellcourtModel" "guards" "[I" ∈ lwg := tb_7 (List.mem_of_getElem? (i := 141) rfl) rfl
theorem wd_1676 : Cond.fieldLink RX12 43 "TellcourtModel" "bodies" "[I" ∈ lwg := tb_7 (List.mem_of_getElem? (i := 142) rfl) rfl
theorem wd_1677 : Cond.fieldLink RX12 46 "TellcourtModel" "bodyOf" "[I" ∈ lwg := tb_7 (List.mem_of_getElem? (i := 143) rfl) rfl
theorem wd_1678 : Cond.fieldLink RX12 187 "TellcourtModel" "rules" "I" ∈ lwg := tb_7 (List.mem_of_getElem? (i := 144) rfl) rfl
theorem wd_1679 : Cond.fieldLink RX12 49 "TellcourtModel" "draftHead" "[I" ∈ lwg := tb_7 (List.mem_of_getElem? (i := 145) rfl) rfl
theorem wd_1680 : Cond.fieldLink RX12 52 "TellcourtModel" "draftGuard" "[I" ∈ lwg := tb_7 (List.mem_of_getElem? (i := 146) rfl) rfl
theorem wd_1681 : Cond.fieldLink RX12 55 "TellcourtModel" "draftBody" "[I" ∈ lwg := tb_7 (List.mem_of_getElem? (i := 147) rfl) rfl
theorem wd_1682 : Cond.fieldLink RX12 234 "TellcourtModel" "draftHeads" "I" ∈ lwg := tb_7 (List.mem_of_getElem? (i := 148) rfl) rfl
theorem wd_1683 : Cond.fieldLink RX12 243 "TellcourtModel" "draftBodies" "I" ∈ lwg := tb_7 (List.mem_of_getElem? (i := 149) rfl) rfl
theorem wd_1684 : Cond.fieldLink RX12 240 "TellcourtModel" "isBegun" "Z" ∈ lwg := tb_7 (List.mem_of_getElem? (i := 150) rfl) rfl
theorem wd_1685 : Cond.fieldLink RX12 58 "TellcourtModel" "agents" "[I" ∈ lwg := tb_7 (List.mem_of_getElem? (i := 151) rfl) rfl
theorem wd_1686 : Cond.fieldLink RX12 252 "TellcourtModel" "agentsMany" "I" ∈ lwg := tb_7 (List.mem_of_getElem? (i := 152) rfl) rfl
theorem wd_1687 : Cond.fieldLink RX12 61 "TellcourtModel" "queue" "[I" ∈ lwg := tb_7 (List.mem_of_getElem? (i := 153) rfl) rfl
theorem wd_1688 : Cond.fieldLink RX12 64 "TellcourtModel" "queueMany" "[I" ∈ lwg := tb_7 (List.mem_of_getElem? (i := 154) rfl) rfl
theorem wd_1689 : Cond.fieldLink RX12 67 "TellcourtModel" "waits" "[I" ∈ lwg := tb_7 (List.mem_of_getElem? (i := 155) rfl) rfl
theorem wd_1690 : Cond.fieldLink RX12 70 "TellcourtModel" "waitsMany" "[I" ∈ lwg := tb_7 (List.mem_of_getElem? (i := 156) rfl) rfl
theorem wd_1691 : Cond.fieldLink RX12 73 "TellcourtModel" "assumed" "[I" ∈ lwg := tb_7 (List.mem_of_getElem? (i := 157) rfl) rfl
theorem wd_1692 : Cond.fieldLink RX12 76 "TellcourtModel" "assumedMany" "[I" ∈ lwg := tb_7 (List.mem_of_getElem? (i := 158) rfl) rfl
theorem wd_1693 : Cond.fieldLink RX12 79 "TellcourtModel" "nexts" "[I" ∈ lwg := tb_7 (List.mem_of_getElem? (i := 159) rfl) rfl
theorem wd_1694 : Cond.fieldLink RX12 82 "TellcourtModel" "nextsMany" "[I" ∈ lwg := tb_7 (List.mem_of_getElem? (i := 160) rfl) rfl
theorem wd_1695 : Cond.fieldLink RX12 85 "TellcourtModel" "tried" "[I" ∈ lwg := tb_7 (List.mem_of_getElem? (i := 161) rfl) rfl
theorem wd_1696 : Cond.fieldLink RX12 88 "TellcourtModel" "saved" "[I" ∈ lwg := tb_7 (List.mem_of_getElem? (i := 162) rfl) rfl
theorem wd_1697 : Cond.fieldLink RX12 255 "TellcourtModel" "level" "I" ∈ lwg := tb_7 (List.mem_of_getElem? (i := 163) rfl) rfl
theorem wd_1698 : Cond.fieldLink RX12 181 "TellcourtModel" "acts" "I" ∈ lwg := tb_7 (List.mem_of_getElem? (i := 164) rfl) rfl
theorem wd_1699 : Cond.fieldLink RX12 133 "TellcourtModel" "fails" "Z" ∈ lwg := tb_7 (List.mem_of_getElem? (i := 165) rfl) rfl
theorem wd_1700 : Cond.fieldLink RX12 91 "TellcourtModel" "frames" "[I" ∈ lwg := tb_7 (List.mem_of_getElem? (i := 166) rfl) rfl
theorem wd_1701 : Cond.fieldLink RX12 156 "TellcourtModel" "top" "I" ∈ lwg := tb_7 (List.mem_of_getElem? (i := 167) rfl) rfl
theorem wd_1702 : Cond.fieldLink RX12 94 "TellcourtModel" "bound" "[I" ∈ lwg := tb_7 (List.mem_of_getElem? (i := 168) rfl) rfl
theorem wd_1703 : Cond.fieldLink RX12 97 "TellcourtModel" "slice" "[I" ∈ lwg := tb_7 (List.mem_of_getElem? (i := 169) rfl) rfl
theorem wd_1705 : Cond.fieldLink RX12 306 "TellcourtModel" "chooses" "Z" ∈ lwg := tb_7 (List.mem_of_getElem? (i := 171) rfl) rfl
theorem wd_1706 : Cond.fieldLink RX12 103 "TellcourtModel" "choices" "[I" ∈ lwg := tb_7 (List.mem_of_getElem? (i := 172) rfl) rfl
theorem wd_1707 : Cond.fieldLink RX12 106 "TellcourtModel" "sizes" "[I" ∈ lwg := tb_7 (List.mem_of_getElem? (i := 173) rfl) rfl
theorem wd_1708 : Cond.fieldLink RX12 309 "TellcourtModel" "taken" "I" ∈ lwg := tb_7 (List.mem_of_getElem? (i := 174) rfl) rfl
theorem wd_1709 : Cond.fieldLink RX12 109 "TellcourtModel" "ends" "[I" ∈ lwg := tb_7 (List.mem_of_getElem? (i := 175) rfl) rfl
theorem wd_1711 : Cond.fieldLink RX12 352 "TellcourtModel" "endsMany" "I" ∈ lwg := tb_7 (List.mem_of_getElem? (i := 177) rfl) rfl
theorem wd_1712 : Cond.fieldLink RX12 115 "TellcourtModel" "endNow" "[I" ∈ lwg := tb_7 (List.mem_of_getElem? (i := 178) rfl) rfl
theorem wd_1713 : Cond.fieldLink RX12 346 "TellcourtModel" "varsNow" "I" ∈ lwg := tb_7 (List.mem_of_getElem? (i := 179) rfl) rfl
theorem wd_1714 : Cond.fieldLink RX12 118 "TellcourtModel" "thrown" "I" ∈ lwg := tb_7 (List.mem_of_getElem? (i := 180) rfl) rfl
theorem wd_1826 : Cond.methodLink RX12 137 yX12_stop ∈ lwg := tb_8 (List.mem_of_getElem? (i := 52) rfl) rfl
theorem wd_1828 : Cond.instanceMethod yX12_stop ∈ lwg := tb_8 (List.mem_of_getElem? (i := 54) rfl) rfl
theorem wd_1829 : Cond.code yX12_stop cX12_stop 2 (some .int) ∈ lwg := tb_8 (List.mem_of_getElem? (i := 55) rfl) rfl
theorem wd_1830 : Cond.methodLink RX12 141 yX12_makeVariable ∈ lwg := tb_8 (List.mem_of_getElem? (i := 56) rfl) rfl
theorem wd_1832 : Cond.instanceMethod yX12_makeVariable ∈ lwg := tb_8 (List.mem_of_getElem? (i := 58) rfl) rfl
theorem wd_1833 : Cond.code yX12_makeVariable cX12_makeVariable 2 (some .int) ∈ lwg := tb_8 (List.mem_of_getElem? (i := 59) rfl) rfl
theorem wd_1838 : Cond.methodLink RX12 214 yX12_isTerm ∈ lwg := tb_8 (List.mem_of_getElem? (i := 64) rfl) rfl
theorem wd_1839 : Cond.static yX12_isTerm ∈ lwg := tb_8 (List.mem_of_getElem? (i := 65) rfl) rfl
theorem wd_1840 : Cond.code yX12_isTerm cX12_isTerm 1 (some .boolean) ∈ lwg := tb_8 (List.mem_of_getElem? (i := 66) rfl) rfl
theorem wd_1841 : Cond.methodLink RX12 126 yX12_isValue ∈ lwg := tb_8 (List.mem_of_getElem? (i := 67) rfl) rfl
theorem wd_1842 : Cond.static yX12_isValue ∈ lwg := tb_8 (List.mem_of_getElem? (i := 68) rfl) rfl
theorem wd_1843 : Cond.code yX12_isValue cX12_isValue 1 (some .boolean) ∈ lwg := tb_8 (List.mem_of_getElem? (i := 69) rfl) rfl
theorem wd_1844 : Cond.methodLink RX12 122 yX12_in ∈ lwg := tb_8 (List.mem_of_getElem? (i := 70) rfl) rfl
theorem wd_1845 : Cond.static yX12_in ∈ lwg := tb_8 (List.mem_of_getElem? (i := 71) rfl) rfl
theorem wd_1846 : Cond.code yX12_in cX12_in 3 (some .boolean) ∈ lwg := tb_8 (List.mem_of_getElem? (i := 72) rfl) rfl
theorem wd_1847 : Cond.methodLink RX12 217 yX12_makeNode ∈ lwg := tb_8 (List.mem_of_getElem? (i := 73) rfl) rfl
theorem wd_1849 : Cond.instanceMethod yX12_makeNode ∈ lwg := tb_8 (List.mem_of_getElem? (i := 75) rfl) rfl
theorem wd_1850 : Cond.code yX12_makeNode cX12_makeNode 6 (some .int) ∈ lwg := tb_8 (List.mem_of_getElem? (i := 76) rfl) rfl
theorem wd_1851 : Cond.methodLink RX12 221 yX12_toldNode ∈ lwg := tb_8 (List.mem_of_getElem? (i := 77) rfl) rfl
theorem wd_1853 : Cond.instanceMethod yX12_toldNode ∈ lwg := tb_8 (List.mem_of_getElem? (i := 79) rfl) rfl
theorem wd_1854 : Cond.code yX12_toldNode cX12_toldNode 3 (some .int) ∈ lwg := tb_8 (List.mem_of_getElem? (i := 80) rfl) rfl
theorem wd_1863 : Cond.methodLink RX12 225 yX12_isNode ∈ lwg := tb_8 (List.mem_of_getElem? (i := 89) rfl) rfl
theorem wd_1865 : Cond.instanceMethod yX12_isNode ∈ lwg := tb_8 (List.mem_of_getElem? (i := 91) rfl) rfl
theorem wd_1866 : Cond.code yX12_isNode cX12_isNode 2 (some .boolean) ∈ lwg := tb_8 (List.mem_of_getElem? (i := 92) rfl) rfl
theorem wd_1871 : Cond.methodLink RX12 231 yX12_areTold ∈ lwg := tb_8 (List.mem_of_getElem? (i := 97) rfl) rfl
theorem wd_1872 : Cond.static yX12_areTold ∈ lwg := tb_8 (List.mem_of_getElem? (i := 98) rfl) rfl
theorem wd_1873 : Cond.code yX12_areTold cX12_areTold 3 (some .boolean) ∈ lwg := tb_8 (List.mem_of_getElem? (i := 99) rfl) rfl
theorem wd_1874 : Cond.methodLink RX12 228 yX12_isCondition ∈ lwg := tb_8 (List.mem_of_getElem? (i := 100) rfl) rfl
theorem wd_1875 : Cond.static yX12_isCondition ∈ lwg := tb_8 (List.mem_of_getElem? (i := 101) rfl) rfl
theorem wd_1876 : Cond.code yX12_isCondition cX12_isCondition 1 (some .boolean) ∈ lwg := tb_8 (List.mem_of_getElem? (i := 102) rfl) rfl
theorem wd_1917 : Cond.methodLink RX12 237 yX12_isPattern ∈ lwg := tb_8 (List.mem_of_getElem? (i := 143) rfl) rfl
theorem wd_1918 : Cond.static yX12_isPattern ∈ lwg := tb_8 (List.mem_of_getElem? (i := 144) rfl) rfl
theorem wd_1919 : Cond.code yX12_isPattern cX12_isPattern 1 (some .boolean) ∈ lwg := tb_8 (List.mem_of_getElem? (i := 145) rfl) rfl
theorem wd_1920 : Cond.methodLink RX12 246 yX12_putHead ∈ lwg := tb_8 (List.mem_of_getElem? (i := 146) rfl) rfl
theorem wd_1922 : Cond.instanceMethod yX12_putHead ∈ lwg := tb_8 (List.mem_of_getElem? (i := 148) rfl) rfl
theorem wd_1923 : Cond.code yX12_putHead cX12_putHead 5 none ∈ lwg := tb_8 (List.mem_of_getElem? (i := 149) rfl) rfl
theorem wd_1932 : Cond.methodLink RX12 249 yX12_isOfHead ∈ lwg := tb_8 (List.mem_of_getElem? (i := 158) rfl) rfl
theorem wd_1934 : Cond.instanceMethod yX12_isOfHead ∈ lwg := tb_8 (List.mem_of_getElem? (i := 160) rfl) rfl
theorem wd_1935 : Cond.code yX12_isOfHead cX12_isOfHead 4 (some .boolean) ∈ lwg := tb_8 (List.mem_of_getElem? (i := 161) rfl) rfl
theorem wd_1948 : Cond.methodLink RX12 339 yX12_isOutside ∈ lwg := tb_8 (List.mem_of_getElem? (i := 174) rfl) rfl
theorem wd_1950 : Cond.instanceMethod yX12_isOutside ∈ lwg := tb_8 (List.mem_of_getElem? (i := 176) rfl) rfl
theorem wd_1951 : Cond.code yX12_isOutside cX12_isOutside 2 (some .boolean) ∈ lwg := tb_8 (List.mem_of_getElem? (i := 177) rfl) rfl
theorem wd_1956 : Cond.methodLink RX12 342 yX12_run ∈ lwg := tb_8 (List.mem_of_getElem? (i := 182) rfl) rfl
theorem wd_1958 : Cond.instanceMethod yX12_run ∈ lwg := tb_8 (List.mem_of_getElem? (i := 184) rfl) rfl
theorem wd_1959 : Cond.code yX12_run cX12_run 2 none ∈ lwg := tb_8 (List.mem_of_getElem? (i := 185) rfl) rfl
theorem wd_1960 : Cond.methodLink RX12 315 yX12_forget ∈ lwg := tb_8 (List.mem_of_getElem? (i := 186) rfl) rfl
theorem wd_1962 : Cond.instanceMethod yX12_forget ∈ lwg := tb_8 (List.mem_of_getElem? (i := 188) rfl) rfl
theorem wd_1963 : Cond.code yX12_forget cX12_forget 5 none ∈ lwg := tb_8 (List.mem_of_getElem? (i := 189) rfl) rfl
theorem wd_1964 : Cond.methodLink RX12 261 yX12_another ∈ lwg := tb_8 (List.mem_of_getElem? (i := 190) rfl) rfl
theorem wd_1966 : Cond.instanceMethod yX12_another ∈ lwg := tb_8 (List.mem_of_getElem? (i := 192) rfl) rfl
theorem wd_1967 : Cond.code yX12_another cX12_another 5 (some .int) ∈ lwg := tb_8 (List.mem_of_getElem? (i := 193) rfl) rfl
theorem wd_1968 : Cond.methodLink RX12 264 yX12_enqueue ∈ lwg := tb_8 (List.mem_of_getElem? (i := 194) rfl) rfl
theorem wd_1970 : Cond.instanceMethod yX12_enqueue ∈ lwg := tb_8 (List.mem_of_getElem? (i := 196) rfl) rfl
theorem wd_1971 : Cond.code yX12_enqueue cX12_enqueue 2 none ∈ lwg := tb_8 (List.mem_of_getElem? (i := 197) rfl) rfl
theorem wd_1972 : Cond.methodLink RX12 318 yX12_dequeue ∈ lwg := tb_8 (List.mem_of_getElem? (i := 198) rfl) rfl
theorem wd_1974 : Cond.instanceMethod yX12_dequeue ∈ lwg := tb_8 (List.mem_of_getElem? (i := 200) rfl) rfl
theorem wd_1975 : Cond.code yX12_dequeue cX12_dequeue 5 (some .int) ∈ lwg := tb_8 (List.mem_of_getElem? (i := 201) rfl) rfl
theorem wd_1976 : Cond.methodLink RX12 321 yX12_act ∈ lwg := tb_8 (List.mem_of_getElem? (i := 202) rfl) rfl
theorem wd_1978 : Cond.instanceMethod yX12_act ∈ lwg := tb_8 (List.mem_of_getElem? (i := 204) rfl) rfl
theorem wd_1979 : Cond.code yX12_act cX12_act 6 none ∈ lwg := tb_8 (List.mem_of_getElem? (i := 205) rfl) rfl
theorem wd_1980 : Cond.methodLink RX12 258 yX12_look ∈ lwg := tb_8 (List.mem_of_getElem? (i := 206) rfl) rfl
theorem wd_1982 : Cond.instanceMethod yX12_look ∈ lwg := tb_8 (List.mem_of_getElem? (i := 208) rfl) rfl
theorem wd_1983 : Cond.code yX12_look cX12_look 3 (some .int) ∈ lwg := tb_8 (List.mem_of_getElem? (i := 209) rfl) rfl
theorem wd_1984 : Cond.methodLink RX12 197 yX12_tellEqual ∈ lwg := tb_8 (List.mem_of_getElem? (i := 210) rfl) rfl
theorem wd_1986 : Cond.instanceMethod yX12_tellEqual ∈ lwg := tb_8 (List.mem_of_getElem? (i := 212) rfl) rfl
theorem wd_1987 : Cond.code yX12_tellEqual cX12_tellEqual 10 none ∈ lwg := tb_8 (List.mem_of_getElem? (i := 213) rfl) rfl
theorem wd_1988 : Cond.methodLink RX12 166 yX12_againFor ∈ lwg := tb_8 (List.mem_of_getElem? (i := 214) rfl) rfl
theorem wd_1990 : Cond.instanceMethod yX12_againFor ∈ lwg := tb_8 (List.mem_of_getElem? (i := 216) rfl) rfl
theorem wd_1991 : Cond.code yX12_againFor cX12_againFor 7 none ∈ lwg := tb_8 (List.mem_of_getElem? (i := 217) rfl) rfl
theorem wd_1992 : Cond.methodLink RX12 159 yX12_pushFrame ∈ lwg := tb_8 (List.mem_of_getElem? (i := 218) rfl) rfl
theorem wd_1994 : Cond.instanceMethod yX12_pushFrame ∈ lwg := tb_8 (List.mem_of_getElem? (i := 220) rfl) rfl
theorem wd_1995 : Cond.code yX12_pushFrame cX12_pushFrame 3 none ∈ lwg := tb_8 (List.mem_of_getElem? (i := 221) rfl) rfl
theorem wd_1996 : Cond.methodLink RX12 291 yX12_settle ∈ lwg := tb_8 (List.mem_of_getElem? (i := 222) rfl) rfl
theorem wd_1998 : Cond.instanceMethod yX12_settle ∈ lwg := tb_8 (List.mem_of_getElem? (i := 224) rfl) rfl
theorem wd_1999 : Cond.code yX12_settle cX12_settle 2 none ∈ lwg := tb_8 (List.mem_of_getElem? (i := 225) rfl) rfl
theorem wd_2000 : Cond.methodLink RX12 205 yX12_goActive ∈ lwg := tb_8 (List.mem_of_getElem? (i := 226) rfl) rfl
theorem wd_2002 : Cond.instanceMethod yX12_goActive ∈ lwg := tb_8 (List.mem_of_getElem? (i := 228) rfl) rfl
theorem wd_2003 : Cond.code yX12_goActive cX12_goActive 9 none ∈ lwg := tb_8 (List.mem_of_getElem? (i := 229) rfl) rfl
theorem wd_2004 : Cond.methodLink RX12 190 yX12_canFire ∈ lwg := tb_8 (List.mem_of_getElem? (i := 230) rfl) rfl
theorem wd_2006 : Cond.instanceMethod yX12_canFire ∈ lwg := tb_8 (List.mem_of_getElem? (i := 232) rfl) rfl
theorem wd_2007 : Cond.code yX12_canFire cX12_canFire 7 (some .boolean) ∈ lwg := tb_8 (List.mem_of_getElem? (i := 233) rfl) rfl
theorem wd_2008 : Cond.methodLink RX12 169 yX12_fits ∈ lwg := tb_8 (List.mem_of_getElem? (i := 234) rfl) rfl
theorem wd_2010 : Cond.instanceMethod yX12_fits ∈ lwg := tb_8 (List.mem_of_getElem? (i := 236) rfl) rfl
theorem wd_2011 : Cond.code yX12_fits cX12_fits 4 (some .boolean) ∈ lwg := tb_8 (List.mem_of_getElem? (i := 237) rfl) rfl
theorem wd_2012 : Cond.methodLink RX12 148 yX12_areEqual ∈ lwg := tb_8 (List.mem_of_getElem? (i := 238) rfl) rfl
theorem wd_2014 : Cond.instanceMethod yX12_areEqual ∈ lwg := tb_9 (List.mem_of_getElem? (i := 0) rfl) rfl
theorem wd_2015 : Cond.code yX12_areEqual cX12_areEqual 4 (some .boolean) ∈ lwg := tb_9 (List.mem_of_getElem? (i := 1) rfl) rfl
theorem wd_2016 : Cond.methodLink RX12 145 yX12_valueOf ∈ lwg := tb_9 (List.mem_of_getElem? (i := 2) rfl) rfl
theorem wd_2018 : Cond.instanceMethod yX12_valueOf ∈ lwg := tb_9 (List.mem_of_getElem? (i := 4) rfl) rfl
theorem wd_2019 : Cond.code yX12_valueOf cX12_valueOf 2 (some .int) ∈ lwg := tb_9 (List.mem_of_getElem? (i := 5) rfl) rfl
theorem wd_2020 : Cond.methodLink RX12 172 yX12_termOf ∈ lwg := tb_9 (List.mem_of_getElem? (i := 6) rfl) rfl
theorem wd_2022 : Cond.instanceMethod yX12_termOf ∈ lwg := tb_9 (List.mem_of_getElem? (i := 8) rfl) rfl
theorem wd_2023 : Cond.code yX12_termOf cX12_termOf 2 (some .int) ∈ lwg := tb_9 (List.mem_of_getElem? (i := 9) rfl) rfl
theorem wd_2024 : Cond.methodLink RX12 175 yX12_entails ∈ lwg := tb_9 (List.mem_of_getElem? (i := 10) rfl) rfl
theorem wd_2026 : Cond.instanceMethod yX12_entails ∈ lwg := tb_9 (List.mem_of_getElem? (i := 12) rfl) rfl
theorem wd_2027 : Cond.code yX12_entails cX12_entails 7 (some .boolean) ∈ lwg := tb_9 (List.mem_of_getElem? (i := 13) rfl) rfl
theorem wd_2028 : Cond.methodLink RX12 152 yX12_tokenOf ∈ lwg := tb_9 (List.mem_of_getElem? (i := 14) rfl) rfl
theorem wd_2030 : Cond.instanceMethod yX12_tokenOf ∈ lwg := tb_9 (List.mem_of_getElem? (i := 16) rfl) rfl
theorem wd_2031 : Cond.code yX12_tokenOf cX12_tokenOf 5 (some .int) ∈ lwg := tb_9 (List.mem_of_getElem? (i := 17) rfl) rfl
theorem wd_2032 : Cond.methodLink RX12 178 yX12_removes ∈ lwg := tb_9 (List.mem_of_getElem? (i := 18) rfl) rfl
theorem wd_2034 : Cond.instanceMethod yX12_removes ∈ lwg := tb_9 (List.mem_of_getElem? (i := 20) rfl) rfl
theorem wd_2035 : Cond.code yX12_removes cX12_removes 2 (some .boolean) ∈ lwg := tb_9 (List.mem_of_getElem? (i := 21) rfl) rfl
theorem wd_2036 : Cond.methodLink RX12 193 yX12_fire ∈ lwg := tb_9 (List.mem_of_getElem? (i := 22) rfl) rfl
theorem wd_2038 : Cond.instanceMethod yX12_fire ∈ lwg := tb_9 (List.mem_of_getElem? (i := 24) rfl) rfl
theorem wd_2039 : Cond.code yX12_fire cX12_fire 7 none ∈ lwg := tb_9 (List.mem_of_getElem? (i := 25) rfl) rfl
theorem wd_2040 : Cond.methodLink RX12 184 yX12_addSlice ∈ lwg := tb_9 (List.mem_of_getElem? (i := 26) rfl) rfl
theorem wd_2042 : Cond.instanceMethod yX12_addSlice ∈ lwg := tb_9 (List.mem_of_getElem? (i := 28) rfl) rfl
theorem wd_2043 : Cond.code yX12_addSlice cX12_addSlice 3 none ∈ lwg := tb_9 (List.mem_of_getElem? (i := 29) rfl) rfl
theorem wd_2044 : Cond.methodLink RX12 208 yX12_goBodies ∈ lwg := tb_9 (List.mem_of_getElem? (i := 30) rfl) rfl
theorem wd_2046 : Cond.instanceMethod yX12_goBodies ∈ lwg := tb_9 (List.mem_of_getElem? (i := 32) rfl) rfl
theorem wd_2047 : Cond.code yX12_goBodies cX12_goBodies 7 none ∈ lwg := tb_9 (List.mem_of_getElem? (i := 33) rfl) rfl
theorem wd_2048 : Cond.methodLink RX12 201 yX12_tellToken ∈ lwg := tb_9 (List.mem_of_getElem? (i := 34) rfl) rfl
theorem wd_2050 : Cond.instanceMethod yX12_tellToken ∈ lwg := tb_9 (List.mem_of_getElem? (i := 36) rfl) rfl
theorem wd_2051 : Cond.code yX12_tellToken cX12_tellToken 7 none ∈ lwg := tb_9 (List.mem_of_getElem? (i := 37) rfl) rfl
theorem wd_2052 : Cond.methodLink RX12 163 yX12_pushActive ∈ lwg := tb_9 (List.mem_of_getElem? (i := 38) rfl) rfl
theorem wd_2054 : Cond.instanceMethod yX12_pushActive ∈ lwg := tb_9 (List.mem_of_getElem? (i := 40) rfl) rfl
theorem wd_2055 : Cond.code yX12_pushActive cX12_pushActive 2 none ∈ lwg := tb_9 (List.mem_of_getElem? (i := 41) rfl) rfl
theorem wd_2056 : Cond.methodLink RX12 211 yX12_goAgain ∈ lwg := tb_9 (List.mem_of_getElem? (i := 42) rfl) rfl
theorem wd_2058 : Cond.instanceMethod yX12_goAgain ∈ lwg := tb_9 (List.mem_of_getElem? (i := 44) rfl) rfl
theorem wd_2059 : Cond.code yX12_goAgain cX12_goAgain 3 none ∈ lwg := tb_9 (List.mem_of_getElem? (i := 45) rfl) rfl
theorem wd_2060 : Cond.methodLink RX12 267 yX12_holds ∈ lwg := tb_9 (List.mem_of_getElem? (i := 46) rfl) rfl
theorem wd_2062 : Cond.instanceMethod yX12_holds ∈ lwg := tb_9 (List.mem_of_getElem? (i := 48) rfl) rfl
theorem wd_2063 : Cond.code yX12_holds cX12_holds 4 (some .boolean) ∈ lwg := tb_9 (List.mem_of_getElem? (i := 49) rfl) rfl
theorem wd_2064 : Cond.methodLink RX12 276 yX12_goOn ∈ lwg := tb_9 (List.mem_of_getElem? (i := 50) rfl) rfl
theorem wd_2066 : Cond.instanceMethod yX12_goOn ∈ lwg := tb_9 (List.mem_of_getElem? (i := 52) rfl) rfl
theorem wd_2067 : Cond.code yX12_goOn cX12_goOn 6 none ∈ lwg := tb_9 (List.mem_of_getElem? (i := 53) rfl) rfl
theorem wd_2068 : Cond.methodLink RX12 273 yX12_waitFor ∈ lwg := tb_9 (List.mem_of_getElem? (i := 54) rfl) rfl
theorem wd_2070 : Cond.instanceMethod yX12_waitFor ∈ lwg := tb_9 (List.mem_of_getElem? (i := 56) rfl) rfl
theorem wd_2071 : Cond.code yX12_waitFor cX12_waitFor 2 none ∈ lwg := tb_9 (List.mem_of_getElem? (i := 57) rfl) rfl
theorem wd_2072 : Cond.methodLink RX12 294 yX12_actEither ∈ lwg := tb_9 (List.mem_of_getElem? (i := 58) rfl) rfl
theorem wd_2074 : Cond.instanceMethod yX12_actEither ∈ lwg := tb_9 (List.mem_of_getElem? (i := 60) rfl) rfl
theorem wd_2075 : Cond.code yX12_actEither cX12_actEither 4 none ∈ lwg := tb_9 (List.mem_of_getElem? (i := 61) rfl) rfl
theorem wd_2076 : Cond.methodLink RX12 270 yX12_wayOf ∈ lwg := tb_9 (List.mem_of_getElem? (i := 62) rfl) rfl
theorem wd_2078 : Cond.instanceMethod yX12_wayOf ∈ lwg := tb_9 (List.mem_of_getElem? (i := 64) rfl) rfl
theorem wd_2079 : Cond.code yX12_wayOf cX12_wayOf 5 (some .int) ∈ lwg := tb_9 (List.mem_of_getElem? (i := 65) rfl) rfl
theorem wd_2080 : Cond.methodLink RX12 297 yX12_forNext ∈ lwg := tb_9 (List.mem_of_getElem? (i := 66) rfl) rfl
theorem wd_2082 : Cond.instanceMethod yX12_forNext ∈ lwg := tb_9 (List.mem_of_getElem? (i := 68) rfl) rfl
theorem wd_2083 : Cond.code yX12_forNext cX12_forNext 2 none ∈ lwg := tb_9 (List.mem_of_getElem? (i := 69) rfl) rfl
theorem wd_2084 : Cond.methodLink RX12 300 yX12_actLot ∈ lwg := tb_9 (List.mem_of_getElem? (i := 70) rfl) rfl
theorem wd_2086 : Cond.instanceMethod yX12_actLot ∈ lwg := tb_9 (List.mem_of_getElem? (i := 72) rfl) rfl
theorem wd_2087 : Cond.code yX12_actLot cX12_actLot 5 none ∈ lwg := tb_9 (List.mem_of_getElem? (i := 73) rfl) rfl
theorem wd_2088 : Jvm.Cond.constantLong RX12 282 (75) ∈ lwg := tb_9 (List.mem_of_getElem? (i := 74) rfl) rfl
theorem wd_2089 : Jvm.Cond.constantLong RX12 284 (74) ∈ lwg := tb_9 (List.mem_of_getElem? (i := 75) rfl) rfl
theorem wd_2090 : Jvm.Cond.constantLong RX12 286 (65537) ∈ lwg := tb_9 (List.mem_of_getElem? (i := 76) rfl) rfl
theorem wd_2091 : Cond.methodLink RX12 288 yX12_countPrimes ∈ lwg := tb_9 (List.mem_of_getElem? (i := 77) rfl) rfl
theorem wd_2093 : Cond.instanceMethod yX12_countPrimes ∈ lwg := tb_9 (List.mem_of_getElem? (i := 79) rfl) rfl
theorem wd_2094 : Cond.code yX12_countPrimes cX12_countPrimes 6 none ∈ lwg := tb_9 (List.mem_of_getElem? (i := 80) rfl) rfl
theorem wd_2095 : Cond.methodLink RX12 279 yX12_primeOf ∈ lwg := tb_9 (List.mem_of_getElem? (i := 81) rfl) rfl
theorem wd_2096 : Cond.static yX12_primeOf ∈ lwg := tb_9 (List.mem_of_getElem? (i := 82) rfl) rfl
theorem wd_2097 : Cond.code yX12_primeOf cX12_primeOf 1 (some .int) ∈ lwg := tb_9 (List.mem_of_getElem? (i := 83) rfl) rfl
theorem wd_2098 : Cond.methodLink RX12 303 yX12_actTry ∈ lwg := tb_9 (List.mem_of_getElem? (i := 84) rfl) rfl
theorem wd_2100 : Cond.instanceMethod yX12_actTry ∈ lwg := tb_9 (List.mem_of_getElem? (i := 86) rfl) rfl
theorem wd_2101 : Cond.code yX12_actTry cX12_actTry 5 none ∈ lwg := tb_9 (List.mem_of_getElem? (i := 87) rfl) rfl
theorem wd_2102 : Cond.methodLink RX12 324 yX12_wakeAll ∈ lwg := tb_9 (List.mem_of_getElem? (i := 88) rfl) rfl
theorem wd_2104 : Cond.instanceMethod yX12_wakeAll ∈ lwg := tb_9 (List.mem_of_getElem? (i := 90) rfl) rfl
theorem wd_2105 : Cond.code yX12_wakeAll cX12_wakeAll 6 none ∈ lwg := tb_9 (List.mem_of_getElem? (i := 91) rfl) rfl
theorem wd_2106 : Cond.methodLink RX12 327 yX12_assume ∈ lwg := tb_9 (List.mem_of_getElem? (i := 92) rfl) rfl
theorem wd_2108 : Cond.instanceMethod yX12_assume ∈ lwg := tb_9 (List.mem_of_getElem? (i := 94) rfl) rfl
theorem wd_2109 : Cond.code yX12_assume cX12_assume 4 none ∈ lwg := tb_9 (List.mem_of_getElem? (i := 95) rfl) rfl
theorem wd_2110 : Cond.methodLink RX12 312 yX12_dropWait ∈ lwg := tb_9 (List.mem_of_getElem? (i := 96) rfl) rfl
theorem wd_2112 : Cond.instanceMethod yX12_dropWait ∈ lwg := tb_9 (List.mem_of_getElem? (i := 98) rfl) rfl
theorem wd_2113 : Cond.code yX12_dropWait cX12_dropWait 3 none ∈ lwg := tb_9 (List.mem_of_getElem? (i := 99) rfl) rfl
theorem wd_2114 : Cond.methodLink RX12 330 yX12_endLevel ∈ lwg := tb_9 (List.mem_of_getElem? (i := 100) rfl) rfl
theorem wd_2116 : Cond.instanceMethod yX12_endLevel ∈ lwg := tb_9 (List.mem_of_getElem? (i := 102) rfl) rfl
theorem wd_2117 : Cond.code yX12_endLevel cX12_endLevel 4 none ∈ lwg := tb_9 (List.mem_of_getElem? (i := 103) rfl) rfl
theorem wd_2118 : Cond.methodLink RX12 333 yX12_commit ∈ lwg := tb_9 (List.mem_of_getElem? (i := 104) rfl) rfl
theorem wd_2120 : Cond.instanceMethod yX12_commit ∈ lwg := tb_9 (List.mem_of_getElem? (i := 106) rfl) rfl
theorem wd_2121 : Cond.code yX12_commit cX12_commit 4 none ∈ lwg := tb_9 (List.mem_of_getElem? (i := 107) rfl) rfl
theorem wd_2122 : Cond.methodLink RX12 336 yX12_finish ∈ lwg := tb_9 (List.mem_of_getElem? (i := 108) rfl) rfl
theorem wd_2124 : Cond.instanceMethod yX12_finish ∈ lwg := tb_9 (List.mem_of_getElem? (i := 110) rfl) rfl
theorem wd_2125 : Cond.code yX12_finish cX12_finish 3 none ∈ lwg := tb_9 (List.mem_of_getElem? (i := 111) rfl) rfl
theorem wd_2130 : Jvm.Cond.constant RX12 345 (65536) ∈ lwg := tb_9 (List.mem_of_getElem? (i := 116) rfl) rfl
theorem wd_2135 : Cond.methodLink RX12 358 yX12_layEnd ∈ lwg := tb_9 (List.mem_of_getElem? (i := 121) rfl) rfl
theorem wd_2137 : Cond.instanceMethod yX12_layEnd ∈ lwg := tb_9 (List.mem_of_getElem? (i := 123) rfl) rfl
theorem wd_2138 : Cond.code yX12_layEnd cX12_layEnd 5 none ∈ lwg := tb_9 (List.mem_of_getElem? (i := 124) rfl) rfl
theorem wd_2139 : Cond.methodLink RX12 349 yX12_asTold ∈ lwg := tb_9 (List.mem_of_getElem? (i := 125) rfl) rfl
theorem wd_2141 : Cond.instanceMethod yX12_asTold ∈ lwg := tb_9 (List.mem_of_getElem? (i := 127) rfl) rfl
theorem wd_2142 : Cond.code yX12_asTold cX12_asTold 3 (some .int) ∈ lwg := tb_9 (List.mem_of_getElem? (i := 128) rfl) rfl
theorem wd_2143 : Cond.methodLink RX12 361 yX12_keepEnd ∈ lwg := tb_9 (List.mem_of_getElem? (i := 129) rfl) rfl
theorem wd_2145 : Cond.instanceMethod yX12_keepEnd ∈ lwg := tb_9 (List.mem_of_getElem? (i := 131) rfl) rfl
theorem wd_2146 : Cond.code yX12_keepEnd cX12_keepEnd 2 none ∈ lwg := tb_9 (List.mem_of_getElem? (i := 132) rfl) rfl
theorem wd_2147 : Cond.methodLink RX12 355 yX12_isEnd ∈ lwg := tb_9 (List.mem_of_getElem? (i := 133) rfl) rfl
theorem wd_2149 : Cond.instanceMethod yX12_isEnd ∈ lwg := tb_9 (List.mem_of_getElem? (i := 135) rfl) rfl
theorem wd_2150 : Cond.code yX12_isEnd cX12_isEnd 4 (some .boolean) ∈ lwg := tb_9 (List.mem_of_getElem? (i := 136) rfl) rfl
theorem wd_2151 : Cond.methodLink RX12 364 yX12_restore ∈ lwg := tb_9 (List.mem_of_getElem? (i := 137) rfl) rfl
theorem wd_2153 : Cond.instanceMethod yX12_restore ∈ lwg := tb_9 (List.mem_of_getElem? (i := 139) rfl) rfl
theorem wd_2154 : Cond.code yX12_restore cX12_restore 2 none ∈ lwg := tb_9 (List.mem_of_getElem? (i := 140) rfl) rfl
theorem wd_2155 : Cond.methodLink RX12 367 yX12_nextSchedule ∈ lwg := tb_9 (List.mem_of_getElem? (i := 141) rfl) rfl
theorem wd_2157 : Cond.instanceMethod yX12_nextSchedule ∈ lwg := tb_9 (List.mem_of_getElem? (i := 143) rfl) rfl
theorem wd_2158 : Cond.code yX12_nextSchedule cX12_nextSchedule 2 (some .boolean) ∈ lwg := tb_9 (List.mem_of_getElem? (i := 144) rfl) rfl
theorem wd_2175 : Cond.methodLink RX12 371 yX12_isVariable ∈ lwg := tb_9 (List.mem_of_getElem? (i := 161) rfl) rfl
theorem wd_2177 : Cond.instanceMethod yX12_isVariable ∈ lwg := tb_9 (List.mem_of_getElem? (i := 163) rfl) rfl
theorem wd_2178 : Cond.code yX12_isVariable cX12_isVariable 2 (some .boolean) ∈ lwg := tb_9 (List.mem_of_getElem? (i := 164) rfl) rfl
theorem wd_2191 : Cond.methodLink RX12 374 yX12_isToken ∈ lwg := tb_9 (List.mem_of_getElem? (i := 177) rfl) rfl
theorem wd_2193 : Cond.instanceMethod yX12_isToken ∈ lwg := tb_9 (List.mem_of_getElem? (i := 179) rfl) rfl
theorem wd_2194 : Cond.code yX12_isToken cX12_isToken 2 (some .boolean) ∈ lwg := tb_9 (List.mem_of_getElem? (i := 180) rfl) rfl
theorem wd_2200 : Cond.instanceMethod yX12_standing ∈ lwg := tb_9 (List.mem_of_getElem? (i := 186) rfl) rfl
theorem wd_2201 : Cond.selects yX12_standing.cls yX12_standing yX12_standing ∈ lwg := tb_9 (List.mem_of_getElem? (i := 187) rfl) rfl
theorem wd_2202 : Cond.code yX12_standing cX12_standing 3 (some .int) ∈ lwg := tb_9 (List.mem_of_getElem? (i := 188) rfl) rfl
theorem wd_2207 : Cond.methodLink RX12 377 yX12_standing ∈ lwg := tb_9 (List.mem_of_getElem? (i := 193) rfl) rfl
theorem wd_2220 : Jvm.Cond.constantLong RX12 380 (1000003) ∈ lwg := tb_9 (List.mem_of_getElem? (i := 206) rfl) rfl
theorem ic_0 : Int32.ofInt (0) = 0 := by decide +kernel
theorem ic_1 : Int32.ofInt (1) = 1 := by decide +kernel
theorem ic_2 : Int32.ofInt (2) = 2 := by decide +kernel
theorem ic_3 : Int32.ofInt (3) = 3 := by decide +kernel
theorem is_200 : (Int16.ofInt (200)).toInt32 = 200 := by decide +kernel
theorem is_204 : (Int16.ofInt (204)).toInt32 = 204 := by decide +kernel
theorem ib_64 : (Int8.ofInt (64)).toInt32 = 64 := by decide +kernel
theorem ic_4 : Int32.ofInt (4) = 4 := by decide +kernel
theorem ib_75 : (Int8.ofInt (75)).toInt32 = 75 := by decide +kernel
theorem ib_74 : (Int8.ofInt (74)).toInt32 = 74 := by decide +kernel
theorem ic_m1 : Int32.ofInt (-1) = -1 := by decide +kernel
theorem ib_60 : (Int8.ofInt (60)).toInt32 = 60 := by decide +kernel
theorem is_183 : (Int16.ofInt (183)).toInt32 = 183 := by decide +kernel
theorem is_182 : (Int16.ofInt (182)).toInt32 = 182 := by decide +kernel
theorem ib_100 : (Int8.ofInt (100)).toInt32 = 100 := by decide +kernel
theorem is_400 : (Int16.ofInt (400)).toInt32 = 400 := by decide +kernel
theorem ib_63 : (Int8.ofInt (63)).toInt32 = 63 := by decide +kernel
theorem ib_10 : (Int8.ofInt (10)).toInt32 = 10 := by decide +kernel
theorem is_1000 : (Int16.ofInt (1000)).toInt32 = 1000 := by decide +kernel
theorem is_300 : (Int16.ofInt (300)).toInt32 = 300 := by decide +kernel
theorem ib_99 : (Int8.ofInt (99)).toInt32 = 99 := by decide +kernel
theorem is_162 : (Int16.ofInt (162)).toInt32 = 162 := by decide +kernel
theorem ib_8 : (Int8.ofInt (8)).toInt32 = 8 := by decide +kernel
theorem ib_6 : (Int8.ofInt (6)).toInt32 = 6 := by decide +kernel
theorem ic_5 : Int32.ofInt (5) = 5 := by decide +kernel
theorem ib_11 : (Int8.ofInt (11)).toInt32 = 11 := by decide +kernel
theorem ib_m99 : (Int8.ofInt (-99)).toInt32 = -99 := by decide +kernel
theorem is_512 : (Int16.ofInt (512)).toInt32 = 512 := by decide +kernel
theorem is_203 : (Int16.ofInt (203)).toInt32 = 203 := by decide +kernel
theorem ib_15 : (Int8.ofInt (15)).toInt32 = 15 := by decide +kernel
theorem ib_61 : (Int8.ofInt (61)).toInt32 = 61 := by decide +kernel
theorem is_7040 : (Int16.ofInt (7040)).toInt32 = 7040 := by decide +kernel
theorem ib_121 : (Int8.ofInt (121)).toInt32 = 121 := by decide +kernel
theorem is_422 : (Int16.ofInt (422)).toInt32 = 422 := by decide +kernel
theorem ib_122 : (Int8.ofInt (122)).toInt32 = 122 := by decide +kernel
theorem is_222 : (Int16.ofInt (222)).toInt32 = 222 := by decide +kernel
theorem is_322 : (Int16.ofInt (322)).toInt32 = 322 := by decide +kernel
theorem ib_12 : (Int8.ofInt (12)).toInt32 = 12 := by decide +kernel
theorem is_522 : (Int16.ofInt (522)).toInt32 = 522 := by decide +kernel
theorem is_622 : (Int16.ofInt (622)).toInt32 = 622 := by decide +kernel
theorem ib_32 : (Int8.ofInt (32)).toInt32 = 32 := by decide +kernel
theorem ib_7 : (Int8.ofInt (7)).toInt32 = 7 := by decide +kernel
theorem is_1022 : (Int16.ofInt (1022)).toInt32 = 1022 := by decide +kernel
theorem is_1023 : (Int16.ofInt (1023)).toInt32 = 1023 := by decide +kernel
theorem is_7023 : (Int16.ofInt (7023)).toInt32 = 7023 := by decide +kernel
theorem ib_9 : (Int8.ofInt (9)).toInt32 = 9 := by decide +kernel
theorem is_500 : (Int16.ofInt (500)).toInt32 = 500 := by decide +kernel
theorem is_9743 : (Int16.ofInt (9743)).toInt32 = 9743 := by decide +kernel
theorem ib_13 : (Int8.ofInt (13)).toInt32 = 13 := by decide +kernel
theorem ib_17 : (Int8.ofInt (17)).toInt32 = 17 := by decide +kernel
theorem is_7031 : (Int16.ofInt (7031)).toInt32 = 7031 := by decide +kernel
theorem is_7038 : (Int16.ofInt (7038)).toInt32 = 7038 := by decide +kernel
theorem is_225 : (Int16.ofInt (225)).toInt32 = 225 := by decide +kernel
theorem ib_123 : (Int8.ofInt (123)).toInt32 = 123 := by decide +kernel
theorem is_7041 : (Int16.ofInt (7041)).toInt32 = 7041 := by decide +kernel
theorem is_7039 : (Int16.ofInt (7039)).toInt32 = 7039 := by decide +kernel
theorem is_7042 : (Int16.ofInt (7042)).toInt32 = 7042 := by decide +kernel
theorem ib_30 : (Int8.ofInt (30)).toInt32 = 30 := by decide +kernel
theorem is_9742 : (Int16.ofInt (9742)).toInt32 = 9742 := by decide +kernel
theorem is_600 : (Int16.ofInt (600)).toInt32 = 600 := by decide +kernel
theorem ib_62 : (Int8.ofInt (62)).toInt32 = 62 := by decide +kernel
theorem is_170 : (Int16.ofInt (170)).toInt32 = 170 := by decide +kernel
theorem is_9863 : (Int16.ofInt (9863)).toInt32 = 9863 := by decide +kernel
theorem ib_70 : (Int8.ofInt (70)).toInt32 = 70 := by decide +kernel
theorem hc_0 : tkCl[0]? = some (clC 0) ∧ (clC 0).1 = RX0 ∧ 0 < 100 := ⟨rfl, rfl, by decide⟩
theorem cf_0 : CF 0 := ⟨rfl, fun w hw => List.mem_filter.mpr ⟨(by decide +kernel : ∀ w ∈ wsX00, w ∈ lw_tbl) w hw, (by decide +kernel : ∀ w ∈ wsX00, goodWord w = true) w hw⟩, ⟨tyX0, tyX0_ok⟩, nmX0⟩
theorem hc_1 : tkCl[1]? = some (clC 1) ∧ (clC 1).1 = RX1 ∧ 1 < 100 := ⟨rfl, rfl, by decide⟩
theorem cf_1 : CF 1 := ⟨rfl, fun w hw => List.mem_filter.mpr ⟨(by decide +kernel : ∀ w ∈ wsX10, w ∈ lw_tbl) w hw, (by decide +kernel : ∀ w ∈ wsX10, goodWord w = true) w hw⟩, ⟨tyX1, tyX1_ok⟩, nmX1⟩
theorem hc_2 : tkCl[2]? = some (clC 2) ∧ (clC 2).1 = RX2 ∧ 2 < 100 := ⟨rfl, rfl, by decide⟩
theorem cf_2 : CF 2 := ⟨rfl, fun w hw => List.mem_filter.mpr ⟨(by decide +kernel : ∀ w ∈ wsX20, w ∈ lw_tbl) w hw, (by decide +kernel : ∀ w ∈ wsX20, goodWord w = true) w hw⟩, ⟨tyX2, tyX2_ok⟩, nmX2⟩
theorem hc_3 : tkCl[3]? = some (clC 3) ∧ (clC 3).1 = RX3 ∧ 3 < 100 := ⟨rfl, rfl, by decide⟩
theorem cf_3 : CF 3 := ⟨rfl, fun w hw => List.mem_filter.mpr ⟨(by decide +kernel : ∀ w ∈ wsX30, w ∈ lw_tbl) w hw, (by decide +kernel : ∀ w ∈ wsX30, goodWord w = true) w hw⟩, ⟨tyX3, tyX3_ok⟩, nmX3⟩
theorem hc_4 : tkCl[4]? = some (clC 4) ∧ (clC 4).1 = RX4 ∧ 4 < 100 := ⟨rfl, rfl, by decide⟩
theorem cf_4 : CF 4 := ⟨rfl, fun w hw => List.mem_filter.mpr ⟨(by decide +kernel : ∀ w ∈ wsX40, w ∈ lw_tbl) w hw, (by decide +kernel : ∀ w ∈ wsX40, goodWord w = true) w hw⟩, ⟨tyX4, tyX4_ok⟩, nmX4⟩
theorem hc_5 : tkCl[5]? = some (clC 5) ∧ (clC 5).1 = RX5 ∧ 5 < 100 := ⟨rfl, rfl, by decide⟩
theorem cf_5 : CF 5 := ⟨rfl, fun w hw => List.mem_filter.mpr ⟨(by decide +kernel : ∀ w ∈ wsX50, w ∈ lw_tbl) w hw, (by decide +kernel : ∀ w ∈ wsX50, goodWord w = true) w hw⟩, ⟨tyX5, tyX5_ok⟩, nmX5⟩
theorem hc_6 : tkCl[6]? = some (clC 6) ∧ (clC 6).1 = RX6 ∧ 6 < 100 := ⟨rfl, rfl, by decide⟩
theorem cf_6 : CF 6 := ⟨rfl, fun w hw => List.mem_filter.mpr ⟨(by decide +kernel : ∀ w ∈ wsX60, w ∈ lw_tbl) w hw, (by decide +kernel : ∀ w ∈ wsX60, goodWord w = true) w hw⟩, ⟨tyX6, tyX6_ok⟩, nmX6⟩
theorem hc_7 : tkCl[7]? = some (clC 7) ∧ (clC 7).1 = RX7 ∧ 7 < 100 := ⟨rfl, rfl, by decide⟩
theorem cf_7 : CF 7 := ⟨rfl, fun w hw => List.mem_filter.mpr ⟨(by decide +kernel : ∀ w ∈ wsX70, w ∈ lw_tbl) w hw, (by decide +kernel : ∀ w ∈ wsX70, goodWord w = true) w hw⟩, ⟨tyX7, tyX7_ok⟩, nmX7⟩
theorem hc_8 : tkCl[8]? = some (clC 8) ∧ (clC 8).1 = RX8 ∧ 8 < 100 := ⟨rfl, rfl, by decide⟩
theorem cf_8 : CF 8 := ⟨rfl, fun w hw => List.mem_filter.mpr ⟨(by decide +kernel : ∀ w ∈ wsX80, w ∈ lw_tbl) w hw, (by decide +kernel : ∀ w ∈ wsX80, goodWord w = true) w hw⟩, ⟨tyX8, tyX8_ok⟩, nmX8⟩
theorem hc_9 : tkCl[9]? = some (clC 9) ∧ (clC 9).1 = RX9 ∧ 9 < 100 := ⟨rfl, rfl, by decide⟩
theorem cf_9 : CF 9 := ⟨rfl, fun w hw => List.mem_filter.mpr ⟨(by decide +kernel : ∀ w ∈ wsX90, w ∈ lw_tbl) w hw, (by decide +kernel : ∀ w ∈ wsX90, goodWord w = true) w hw⟩, ⟨tyX9, tyX9_ok⟩, nmX9⟩
theorem hc_10 : tkCl[10]? = some (clC 10) ∧ (clC 10).1 = RX10 ∧ 10 < 100 := ⟨rfl, rfl, by decide⟩
theorem cf_10 : CF 10 := ⟨rfl, fun w hw => List.mem_filter.mpr ⟨(by decide +kernel : ∀ w ∈ wsX100, w ∈ lw_tbl) w hw, (by decide +kernel : ∀ w ∈ wsX100, goodWord w = true) w hw⟩, ⟨tyX10, tyX10_ok⟩, nmX10⟩
theorem hc_11 : tkCl[11]? = some (clC 11) ∧ (clC 11).1 = RX11 ∧ 11 < 100 := ⟨rfl, rfl, by decide⟩
theorem cf_11 : CF 11 := ⟨rfl, fun w hw => List.mem_filter.mpr ⟨(by decide +kernel : ∀ w ∈ wsX110, w ∈ lw_tbl) w hw, (by decide +kernel : ∀ w ∈ wsX110, goodWord w = true) w hw⟩, ⟨tyX11, tyX11_ok⟩, nmX11⟩
theorem hc_12 : tkCl[12]? = some (clC 12) ∧ (clC 12).1 = RX12 ∧ 12 < 100 := ⟨rfl, rfl, by decide⟩
theorem cf_12 : CF 12 := ⟨rfl, fun w hw => List.mem_filter.mpr ⟨(by decide +kernel : ∀ w ∈ wsX120, w ∈ lw_tbl) w hw, (by decide +kernel : ∀ w ∈ wsX120, goodWord w = true) w hw⟩, ⟨tyX12, tyX12_ok⟩, nmX12⟩
theorem fl_X0_15 : FL RX0 15 0 1 0 := ⟨cf_0, by decide, by decide, wd_370, by decide +kernel⟩
theorem fl_X0_9 : FL RX0 9 0 0 3 := ⟨cf_0, by decide, by decide, wd_367, by decide +kernel⟩
theorem fl_X0_23 : FL RX0 23 8 10 0 := ⟨cf_8, by decide, by decide, wd_302, by decide +kernel⟩
theorem fl_X0_28 : FL RX0 28 0 2 2 := ⟨cf_0, by decide, by decide, wd_374, by decide +kernel⟩
theorem fl_X0_36 : FL RX0 36 8 8 3 := ⟨cf_8, by decide, by decide, wd_295, by decide +kernel⟩
theorem fl_X0_39 : FL RX0 39 0 3 2 := ⟨cf_0, by decide, by decide, wd_377, by decide +kernel⟩
theorem fl_X0_45 : FL RX0 45 8 9 3 := ⟨cf_8, by decide, by decide, wd_299, by decide +kernel⟩
theorem fl_X1_26 : FL RX1 26 1 4 0 := ⟨cf_1, by decide, by decide, wd_479, by decide +kernel⟩
theorem fl_X1_9 : FL RX1 9 1 0 0 := ⟨cf_1, by decide, by decide, wd_475, by decide +kernel⟩
theorem fl_X1_15 : FL RX1 15 1 1 3 := ⟨cf_1, by decide, by decide, wd_476, by decide +kernel⟩
theorem fl_X1_29 : FL RX1 29 0 0 3 := ⟨cf_0, by decide, by decide, wd_368, by decide +kernel⟩
theorem fl_X1_19 : FL RX1 19 1 2 3 := ⟨cf_1, by decide, by decide, wd_477, by decide +kernel⟩
theorem fl_X1_22 : FL RX1 22 1 3 3 := ⟨cf_1, by decide, by decide, wd_478, by decide +kernel⟩
theorem fl_X1_40 : FL RX1 40 0 2 2 := ⟨cf_0, by decide, by decide, wd_373, by decide +kernel⟩
theorem fl_X1_44 : FL RX1 44 0 3 2 := ⟨cf_0, by decide, by decide, wd_376, by decide +kernel⟩
theorem fl_X1_53 : FL RX1 53 0 1 0 := ⟨cf_0, by decide, by decide, wd_371, by decide +kernel⟩
theorem fl_X2_18 : FL RX2 18 2 1 0 := ⟨cf_2, by decide, by decide, wd_352, by decide +kernel⟩
theorem fl_X2_15 : FL RX2 15 2 0 3 := ⟨cf_2, by decide, by decide, wd_351, by decide +kernel⟩
theorem fl_X4_14 : FL RX4 14 4 0 3 := ⟨cf_4, by decide, by decide, wd_493, by decide +kernel⟩
theorem fl_X4_43 : FL RX4 43 1 4 0 := ⟨cf_1, by decide, by decide, wd_480, by decide +kernel⟩
theorem fl_X4_20 : FL RX4 20 4 1 3 := ⟨cf_4, by decide, by decide, wd_495, by decide +kernel⟩
theorem fl_X4_23 : FL RX4 23 4 2 3 := ⟨cf_4, by decide, by decide, wd_497, by decide +kernel⟩
theorem fl_X4_26 : FL RX4 26 4 3 3 := ⟨cf_4, by decide, by decide, wd_499, by decide +kernel⟩
theorem fl_X5_30 : FL RX5 30 5 6 0 := ⟨cf_5, by decide, by decide, wd_154, by decide +kernel⟩
theorem fl_X5_9 : FL RX5 9 5 0 3 := ⟨cf_5, by decide, by decide, wd_141, by decide +kernel⟩
theorem fl_X5_15 : FL RX5 15 5 1 3 := ⟨cf_5, by decide, by decide, wd_144, by decide +kernel⟩
theorem fl_X5_18 : FL RX5 18 5 2 3 := ⟨cf_5, by decide, by decide, wd_146, by decide +kernel⟩
theorem fl_X5_21 : FL RX5 21 5 3 3 := ⟨cf_5, by decide, by decide, wd_148, by decide +kernel⟩
theorem fl_X5_24 : FL RX5 24 5 4 3 := ⟨cf_5, by decide, by decide, wd_150, by decide +kernel⟩
theorem fl_X5_27 : FL RX5 27 5 5 3 := ⟨cf_5, by decide, by decide, wd_152, by decide +kernel⟩
theorem fl_X6_40 : FL RX6 40 6 3 0 := ⟨cf_6, by decide, by decide, wd_433, by decide +kernel⟩
theorem fl_X6_44 : FL RX6 44 6 9 0 := ⟨cf_6, by decide, by decide, wd_441, by decide +kernel⟩
theorem fl_X6_47 : FL RX6 47 6 7 0 := ⟨cf_6, by decide, by decide, wd_437, by decide +kernel⟩
theorem fl_X6_21 : FL RX6 21 6 5 3 := ⟨cf_6, by decide, by decide, wd_435, by decide +kernel⟩
theorem fl_X6_28 : FL RX6 28 6 8 3 := ⟨cf_6, by decide, by decide, wd_439, by decide +kernel⟩
theorem fl_X6_13 : FL RX6 13 6 2 3 := ⟨cf_6, by decide, by decide, wd_432, by decide +kernel⟩
theorem fl_X6_71 : FL RX6 71 3 1 0 := ⟨cf_3, by decide, by decide, wd_403, by decide +kernel⟩
theorem fl_X6_74 : FL RX6 74 3 2 0 := ⟨cf_3, by decide, by decide, wd_404, by decide +kernel⟩
theorem fl_X6_77 : FL RX6 77 3 3 0 := ⟨cf_3, by decide, by decide, wd_405, by decide +kernel⟩
theorem fl_X6_80 : FL RX6 80 3 5 0 := ⟨cf_3, by decide, by decide, wd_407, by decide +kernel⟩
theorem fl_X6_83 : FL RX6 83 3 7 2 := ⟨cf_3, by decide, by decide, wd_409, by decide +kernel⟩
theorem fl_X6_87 : FL RX6 87 3 8 2 := ⟨cf_3, by decide, by decide, wd_410, by decide +kernel⟩
theorem fl_X6_31 : FL RX6 31 6 0 3 := ⟨cf_6, by decide, by decide, wd_430, by decide +kernel⟩
theorem fl_X6_65 : FL RX6 65 8 12 1 := ⟨cf_8, by decide, by decide, wd_314, by decide +kernel⟩
theorem fl_X8_52 : FL RX8 52 8 10 0 := ⟨cf_8, by decide, by decide, wd_303, by decide +kernel⟩
theorem fl_X8_18 : FL RX8 18 8 3 3 := ⟨cf_8, by decide, by decide, wd_274, by decide +kernel⟩
theorem fl_X8_21 : FL RX8 21 8 4 3 := ⟨cf_8, by decide, by decide, wd_278, by decide +kernel⟩
theorem fl_X8_24 : FL RX8 24 8 5 3 := ⟨cf_8, by decide, by decide, wd_282, by decide +kernel⟩
theorem fl_X8_27 : FL RX8 27 8 6 3 := ⟨cf_8, by decide, by decide, wd_286, by decide +kernel⟩
theorem fl_X8_31 : FL RX8 31 8 7 3 := ⟨cf_8, by decide, by decide, wd_290, by decide +kernel⟩
theorem fl_X8_34 : FL RX8 34 8 8 3 := ⟨cf_8, by decide, by decide, wd_294, by decide +kernel⟩
theorem fl_X8_38 : FL RX8 38 8 9 3 := ⟨cf_8, by decide, by decide, wd_298, by decide +kernel⟩
theorem fl_X8_58 : FL RX8 58 8 12 1 := ⟨cf_8, by decide, by decide, wd_311, by decide +kernel⟩
theorem fl_X8_48 : FL RX8 48 8 2 0 := ⟨cf_8, by decide, by decide, wd_273, by decide +kernel⟩
theorem fl_X8_9 : FL RX8 9 8 0 3 := ⟨cf_8, by decide, by decide, wd_269, by decide +kernel⟩
theorem fl_X8_15 : FL RX8 15 8 1 3 := ⟨cf_8, by decide, by decide, wd_271, by decide +kernel⟩
theorem fl_X6_102 : FL RX6 102 8 10 0 := ⟨cf_8, by decide, by decide, wd_305, by decide +kernel⟩
theorem fl_X6_126 : FL RX6 126 8 7 3 := ⟨cf_8, by decide, by decide, wd_292, by decide +kernel⟩
theorem fl_X6_130 : FL RX6 130 7 5 0 := ⟨cf_7, by decide, by decide, wd_216, by decide +kernel⟩
theorem fl_X6_138 : FL RX6 138 8 3 3 := ⟨cf_8, by decide, by decide, wd_276, by decide +kernel⟩
theorem fl_X6_135 : FL RX6 135 7 0 3 := ⟨cf_7, by decide, by decide, wd_206, by decide +kernel⟩
theorem fl_X6_17 : FL RX6 17 6 4 3 := ⟨cf_6, by decide, by decide, wd_434, by decide +kernel⟩
theorem fl_X6_178 : FL RX6 178 7 8 1 := ⟨cf_7, by decide, by decide, wd_223, by decide +kernel⟩
theorem fl_X6_181 : FL RX6 181 7 9 0 := ⟨cf_7, by decide, by decide, wd_226, by decide +kernel⟩
theorem fl_X6_184 : FL RX6 184 7 10 0 := ⟨cf_7, by decide, by decide, wd_228, by decide +kernel⟩
theorem fl_X6_187 : FL RX6 187 7 11 0 := ⟨cf_7, by decide, by decide, wd_230, by decide +kernel⟩
theorem fl_X6_157 : FL RX6 157 8 4 3 := ⟨cf_8, by decide, by decide, wd_280, by decide +kernel⟩
theorem fl_X6_163 : FL RX6 163 7 1 3 := ⟨cf_7, by decide, by decide, wd_208, by decide +kernel⟩
theorem fl_X6_160 : FL RX6 160 8 5 3 := ⟨cf_8, by decide, by decide, wd_284, by decide +kernel⟩
theorem fl_X8_55 : FL RX8 55 8 11 0 := ⟨cf_8, by decide, by decide, wd_307, by decide +kernel⟩
theorem fl_X7_18 : FL RX7 18 7 2 3 := ⟨cf_7, by decide, by decide, wd_209, by decide +kernel⟩
theorem fl_X7_28 : FL RX7 28 7 5 0 := ⟨cf_7, by decide, by decide, wd_215, by decide +kernel⟩
theorem fl_X6_25 : FL RX6 25 6 6 3 := ⟨cf_6, by decide, by decide, wd_436, by decide +kernel⟩
theorem fl_X6_35 : FL RX6 35 6 1 3 := ⟨cf_6, by decide, by decide, wd_431, by decide +kernel⟩
theorem fl_X6_217 : FL RX6 217 3 4 0 := ⟨cf_3, by decide, by decide, wd_406, by decide +kernel⟩
theorem fl_X6_220 : FL RX6 220 3 6 1 := ⟨cf_3, by decide, by decide, wd_408, by decide +kernel⟩
theorem fl_X6_223 : FL RX6 223 3 0 3 := ⟨cf_3, by decide, by decide, wd_402, by decide +kernel⟩
theorem fl_X6_224 : FL RX6 224 7 2 3 := ⟨cf_7, by decide, by decide, wd_210, by decide +kernel⟩
theorem fl_X6_229 : FL RX6 229 8 8 3 := ⟨cf_8, by decide, by decide, wd_296, by decide +kernel⟩
theorem fl_X6_231 : FL RX6 231 8 9 3 := ⟨cf_8, by decide, by decide, wd_300, by decide +kernel⟩
theorem fl_X6_227 : FL RX6 227 8 6 3 := ⟨cf_8, by decide, by decide, wd_288, by decide +kernel⟩
theorem fl_X6_237 : FL RX6 237 7 6 0 := ⟨cf_7, by decide, by decide, wd_220, by decide +kernel⟩
theorem fl_X6_240 : FL RX6 240 7 4 3 := ⟨cf_7, by decide, by decide, wd_214, by decide +kernel⟩
theorem fl_X6_243 : FL RX6 243 7 3 3 := ⟨cf_7, by decide, by decide, wd_212, by decide +kernel⟩
theorem fl_X7_32 : FL RX7 32 7 6 0 := ⟨cf_7, by decide, by decide, wd_218, by decide +kernel⟩
theorem fl_X7_35 : FL RX7 35 7 7 0 := ⟨cf_7, by decide, by decide, wd_221, by decide +kernel⟩
theorem fl_X7_38 : FL RX7 38 7 8 1 := ⟨cf_7, by decide, by decide, wd_222, by decide +kernel⟩
theorem fl_X7_9 : FL RX7 9 7 0 3 := ⟨cf_7, by decide, by decide, wd_205, by decide +kernel⟩
theorem fl_X7_15 : FL RX7 15 7 1 3 := ⟨cf_7, by decide, by decide, wd_207, by decide +kernel⟩
theorem fl_X7_50 : FL RX7 50 7 9 0 := ⟨cf_7, by decide, by decide, wd_225, by decide +kernel⟩
theorem fl_X7_53 : FL RX7 53 7 10 0 := ⟨cf_7, by decide, by decide, wd_227, by decide +kernel⟩
theorem fl_X7_56 : FL RX7 56 7 11 0 := ⟨cf_7, by decide, by decide, wd_229, by decide +kernel⟩
theorem fl_X7_22 : FL RX7 22 7 3 3 := ⟨cf_7, by decide, by decide, wd_211, by decide +kernel⟩
theorem fl_X7_25 : FL RX7 25 7 4 3 := ⟨cf_7, by decide, by decide, wd_213, by decide +kernel⟩
theorem fl_X8_68 : FL RX8 68 4 8 0 := ⟨cf_4, by decide, by decide, wd_509, by decide +kernel⟩
theorem fl_X8_71 : FL RX8 71 4 9 0 := ⟨cf_4, by decide, by decide, wd_510, by decide +kernel⟩
theorem fl_X8_72 : FL RX8 72 4 5 3 := ⟨cf_4, by decide, by decide, wd_504, by decide +kernel⟩
theorem fl_X8_73 : FL RX8 73 4 6 3 := ⟨cf_4, by decide, by decide, wd_506, by decide +kernel⟩
theorem fl_X8_74 : FL RX8 74 4 7 3 := ⟨cf_4, by decide, by decide, wd_508, by decide +kernel⟩
theorem fl_X9_21 : FL RX9 21 9 2 0 := ⟨cf_9, by decide, by decide, wd_182, by decide +kernel⟩
theorem fl_X9_25 : FL RX9 25 9 3 0 := ⟨cf_9, by decide, by decide, wd_183, by decide +kernel⟩
theorem fl_X9_28 : FL RX9 28 9 5 0 := ⟨cf_9, by decide, by decide, wd_185, by decide +kernel⟩
theorem fl_X9_9 : FL RX9 9 9 0 3 := ⟨cf_9, by decide, by decide, wd_180, by decide +kernel⟩
theorem fl_X9_15 : FL RX9 15 9 1 3 := ⟨cf_9, by decide, by decide, wd_181, by decide +kernel⟩
theorem fl_X9_59 : FL RX9 59 8 10 0 := ⟨cf_8, by decide, by decide, wd_304, by decide +kernel⟩
theorem fl_X9_62 : FL RX9 62 8 7 3 := ⟨cf_8, by decide, by decide, wd_291, by decide +kernel⟩
theorem fl_X9_66 : FL RX9 66 8 3 3 := ⟨cf_8, by decide, by decide, wd_275, by decide +kernel⟩
theorem fl_X9_69 : FL RX9 69 8 6 3 := ⟨cf_8, by decide, by decide, wd_287, by decide +kernel⟩
theorem fl_X9_72 : FL RX9 72 8 4 3 := ⟨cf_8, by decide, by decide, wd_279, by decide +kernel⟩
theorem fl_X9_75 : FL RX9 75 8 5 3 := ⟨cf_8, by decide, by decide, wd_283, by decide +kernel⟩
theorem fl_X9_18 : FL RX9 18 9 4 3 := ⟨cf_9, by decide, by decide, wd_184, by decide +kernel⟩
theorem fl_X9_37 : FL RX9 37 8 12 1 := ⟨cf_8, by decide, by decide, wd_312, by decide +kernel⟩
theorem fl_X10_12 : FL RX10 12 10 1 3 := ⟨cf_10, by decide, by decide, wd_539, by decide +kernel⟩
theorem fl_X10_54 : FL RX10 54 10 2 3 := ⟨cf_10, by decide, by decide, wd_541, by decide +kernel⟩
theorem fl_X10_21 : FL RX10 21 10 3 3 := ⟨cf_10, by decide, by decide, wd_543, by decide +kernel⟩
theorem fl_X10_25 : FL RX10 25 10 4 3 := ⟨cf_10, by decide, by decide, wd_545, by decide +kernel⟩
theorem fl_X10_29 : FL RX10 29 10 5 3 := ⟨cf_10, by decide, by decide, wd_547, by decide +kernel⟩
theorem fl_X10_34 : FL RX10 34 10 6 3 := ⟨cf_10, by decide, by decide, wd_548, by decide +kernel⟩
theorem fl_X10_73 : FL RX10 73 10 10 0 := ⟨cf_10, by decide, by decide, wd_552, by decide +kernel⟩
theorem fl_X10_77 : FL RX10 77 10 11 0 := ⟨cf_10, by decide, by decide, wd_554, by decide +kernel⟩
theorem fl_X10_96 : FL RX10 96 4 3 3 := ⟨cf_4, by decide, by decide, wd_500, by decide +kernel⟩
theorem fl_X10_106 : FL RX10 106 1 4 0 := ⟨cf_1, by decide, by decide, wd_481, by decide +kernel⟩
theorem fl_X10_41 : FL RX10 41 10 7 3 := ⟨cf_10, by decide, by decide, wd_549, by decide +kernel⟩
theorem fl_X10_113 : FL RX10 113 0 2 2 := ⟨cf_0, by decide, by decide, wd_375, by decide +kernel⟩
theorem fl_X10_117 : FL RX10 117 0 3 2 := ⟨cf_0, by decide, by decide, wd_378, by decide +kernel⟩
theorem fl_X10_139 : FL RX10 139 10 8 0 := ⟨cf_10, by decide, by decide, wd_550, by decide +kernel⟩
theorem fl_X10_142 : FL RX10 142 10 9 1 := ⟨cf_10, by decide, by decide, wd_551, by decide +kernel⟩
theorem fl_X10_187 : FL RX10 187 4 10 0 := ⟨cf_4, by decide, by decide, wd_511, by decide +kernel⟩
theorem fl_X10_194 : FL RX10 194 4 4 3 := ⟨cf_4, by decide, by decide, wd_502, by decide +kernel⟩
theorem fl_X10_124 : FL RX10 124 4 0 3 := ⟨cf_4, by decide, by decide, wd_494, by decide +kernel⟩
theorem fl_X10_200 : FL RX10 200 0 1 0 := ⟨cf_0, by decide, by decide, wd_372, by decide +kernel⟩
theorem fl_X10_271 : FL RX10 271 6 7 0 := ⟨cf_6, by decide, by decide, wd_438, by decide +kernel⟩
theorem fl_X10_265 : FL RX10 265 0 0 3 := ⟨cf_0, by decide, by decide, wd_369, by decide +kernel⟩
theorem fl_X10_45 : FL RX10 45 10 0 3 := ⟨cf_10, by decide, by decide, wd_538, by decide +kernel⟩
theorem fl_X10_214 : FL RX10 214 5 1 3 := ⟨cf_5, by decide, by decide, wd_145, by decide +kernel⟩
theorem fl_X10_217 : FL RX10 217 5 2 3 := ⟨cf_5, by decide, by decide, wd_147, by decide +kernel⟩
theorem fl_X10_223 : FL RX10 223 5 3 3 := ⟨cf_5, by decide, by decide, wd_149, by decide +kernel⟩
theorem fl_X10_209 : FL RX10 209 5 0 3 := ⟨cf_5, by decide, by decide, wd_143, by decide +kernel⟩
theorem fl_X10_229 : FL RX10 229 5 5 3 := ⟨cf_5, by decide, by decide, wd_153, by decide +kernel⟩
theorem fl_X10_226 : FL RX10 226 5 4 3 := ⟨cf_5, by decide, by decide, wd_151, by decide +kernel⟩
theorem fl_X10_127 : FL RX10 127 4 1 3 := ⟨cf_4, by decide, by decide, wd_496, by decide +kernel⟩
theorem fl_X10_130 : FL RX10 130 4 2 3 := ⟨cf_4, by decide, by decide, wd_498, by decide +kernel⟩
theorem fl_X10_147 : FL RX10 147 8 12 1 := ⟨cf_8, by decide, by decide, wd_313, by decide +kernel⟩
theorem fl_X10_136 : FL RX10 136 8 11 0 := ⟨cf_8, by decide, by decide, wd_308, by decide +kernel⟩
theorem fl_X11_39 : FL RX11 39 11 2 3 := ⟨cf_11, by decide, by decide, wd_583, by decide +kernel⟩
theorem fl_X11_235 : FL RX11 235 10 11 0 := ⟨cf_10, by decide, by decide, wd_555, by decide +kernel⟩
theorem fl_X11_46 : FL RX11 46 10 1 3 := ⟨cf_10, by decide, by decide, wd_540, by decide +kernel⟩
theorem fl_X11_56 : FL RX11 56 8 12 1 := ⟨cf_8, by decide, by decide, wd_310, by decide +kernel⟩
theorem fl_X11_50 : FL RX11 50 8 2 0 := ⟨cf_8, by decide, by decide, wd_272, by decide +kernel⟩
theorem fl_X11_248 : FL RX11 248 8 10 0 := ⟨cf_8, by decide, by decide, wd_306, by decide +kernel⟩
theorem fl_X11_43 : FL RX11 43 11 3 3 := ⟨cf_11, by decide, by decide, wd_584, by decide +kernel⟩
theorem fl_X11_287 : FL RX11 287 11 6 0 := ⟨cf_11, by decide, by decide, wd_587, by decide +kernel⟩
theorem fl_X11_29 : FL RX11 29 11 5 3 := ⟨cf_11, by decide, by decide, wd_586, by decide +kernel⟩
theorem fl_X11_115 : FL RX11 115 10 4 3 := ⟨cf_10, by decide, by decide, wd_546, by decide +kernel⟩
theorem fl_X11_160 : FL RX11 160 10 2 3 := ⟨cf_10, by decide, by decide, wd_542, by decide +kernel⟩
theorem fl_X11_164 : FL RX11 164 6 9 0 := ⟨cf_6, by decide, by decide, wd_442, by decide +kernel⟩
theorem fl_X11_25 : FL RX11 25 11 4 3 := ⟨cf_11, by decide, by decide, wd_585, by decide +kernel⟩
theorem fl_X11_209 : FL RX11 209 10 3 3 := ⟨cf_10, by decide, by decide, wd_544, by decide +kernel⟩
theorem fl_X11_213 : FL RX11 213 2 1 0 := ⟨cf_2, by decide, by decide, wd_353, by decide +kernel⟩
theorem fl_X11_18 : FL RX11 18 11 1 3 := ⟨cf_11, by decide, by decide, wd_582, by decide +kernel⟩
theorem fl_X11_121 : FL RX11 121 11 7 1 := ⟨cf_11, by decide, by decide, wd_588, by decide +kernel⟩
theorem fl_X12_118 : FL RX12 118 12 50 0 := ⟨cf_12, by decide, by decide, wd_1714, by decide +kernel⟩
theorem fl_X12_130 : FL RX12 130 12 7 0 := ⟨cf_12, by decide, by decide, wd_1671, by decide +kernel⟩
theorem fl_X12_7 : FL RX12 7 12 0 3 := ⟨cf_12, by decide, by decide, wd_1664, by decide +kernel⟩
theorem fl_X12_133 : FL RX12 133 12 35 1 := ⟨cf_12, by decide, by decide, wd_1699, by decide +kernel⟩
theorem fl_X12_91 : FL RX12 91 12 36 3 := ⟨cf_12, by decide, by decide, wd_1700, by decide +kernel⟩
theorem fl_X12_156 : FL RX12 156 12 37 0 := ⟨cf_12, by decide, by decide, wd_1701, by decide +kernel⟩
theorem fl_X12_97 : FL RX12 97 12 39 3 := ⟨cf_12, by decide, by decide, wd_1703, by decide +kernel⟩
theorem fl_X12_94 : FL RX12 94 12 38 3 := ⟨cf_12, by decide, by decide, wd_1702, by decide +kernel⟩
theorem fl_X12_37 : FL RX12 37 12 10 3 := ⟨cf_12, by decide, by decide, wd_1674, by decide +kernel⟩
theorem fl_X12_34 : FL RX12 34 12 9 3 := ⟨cf_12, by decide, by decide, wd_1673, by decide +kernel⟩
theorem fl_X12_40 : FL RX12 40 12 11 3 := ⟨cf_12, by decide, by decide, wd_1675, by decide +kernel⟩
theorem fl_X12_181 : FL RX12 181 12 34 0 := ⟨cf_12, by decide, by decide, wd_1698, by decide +kernel⟩
theorem fl_X12_187 : FL RX12 187 12 14 0 := ⟨cf_12, by decide, by decide, wd_1678, by decide +kernel⟩
theorem fl_X12_43 : FL RX12 43 12 12 3 := ⟨cf_12, by decide, by decide, wd_1676, by decide +kernel⟩
theorem fl_X12_46 : FL RX12 46 12 13 3 := ⟨cf_12, by decide, by decide, wd_1677, by decide +kernel⟩
theorem fl_X12_16 : FL RX12 16 12 2 3 := ⟨cf_12, by decide, by decide, wd_1666, by decide +kernel⟩
theorem fl_X12_19 : FL RX12 19 12 3 3 := ⟨cf_12, by decide, by decide, wd_1667, by decide +kernel⟩
theorem fl_X12_22 : FL RX12 22 12 4 3 := ⟨cf_12, by decide, by decide, wd_1668, by decide +kernel⟩
theorem fl_X12_25 : FL RX12 25 12 5 3 := ⟨cf_12, by decide, by decide, wd_1669, by decide +kernel⟩
theorem fl_X12_28 : FL RX12 28 12 6 3 := ⟨cf_12, by decide, by decide, wd_1670, by decide +kernel⟩
theorem fl_X12_31 : FL RX12 31 12 8 3 := ⟨cf_12, by decide, by decide, wd_1672, by decide +kernel⟩
theorem fl_X12_49 : FL RX12 49 12 15 3 := ⟨cf_12, by decide, by decide, wd_1679, by decide +kernel⟩
theorem fl_X12_234 : FL RX12 234 12 18 0 := ⟨cf_12, by decide, by decide, wd_1682, by decide +kernel⟩
theorem fl_X12_240 : FL RX12 240 12 20 1 := ⟨cf_12, by decide, by decide, wd_1684, by decide +kernel⟩
theorem fl_X12_243 : FL RX12 243 12 19 0 := ⟨cf_12, by decide, by decide, wd_1683, by decide +kernel⟩
theorem fl_X12_52 : FL RX12 52 12 16 3 := ⟨cf_12, by decide, by decide, wd_1680, by decide +kernel⟩
theorem fl_X12_55 : FL RX12 55 12 17 3 := ⟨cf_12, by decide, by decide, wd_1681, by decide +kernel⟩
theorem fl_X12_58 : FL RX12 58 12 21 3 := ⟨cf_12, by decide, by decide, wd_1685, by decide +kernel⟩
theorem fl_X12_252 : FL RX12 252 12 22 0 := ⟨cf_12, by decide, by decide, wd_1686, by decide +kernel⟩
theorem fl_X12_61 : FL RX12 61 12 23 3 := ⟨cf_12, by decide, by decide, wd_1687, by decide +kernel⟩
theorem fl_X12_255 : FL RX12 255 12 33 0 := ⟨cf_12, by decide, by decide, wd_1697, by decide +kernel⟩
theorem fl_X12_64 : FL RX12 64 12 24 3 := ⟨cf_12, by decide, by decide, wd_1688, by decide +kernel⟩
theorem fl_X12_79 : FL RX12 79 12 29 3 := ⟨cf_12, by decide, by decide, wd_1693, by decide +kernel⟩
theorem fl_X12_82 : FL RX12 82 12 30 3 := ⟨cf_12, by decide, by decide, wd_1694, by decide +kernel⟩
theorem fl_X12_67 : FL RX12 67 12 25 3 := ⟨cf_12, by decide, by decide, wd_1689, by decide +kernel⟩
theorem fl_X12_70 : FL RX12 70 12 26 3 := ⟨cf_12, by decide, by decide, wd_1690, by decide +kernel⟩
theorem fl_X12_88 : FL RX12 88 12 32 3 := ⟨cf_12, by decide, by decide, wd_1696, by decide +kernel⟩
theorem fl_X12_76 : FL RX12 76 12 28 3 := ⟨cf_12, by decide, by decide, wd_1692, by decide +kernel⟩
theorem fl_X12_85 : FL RX12 85 12 31 3 := ⟨cf_12, by decide, by decide, wd_1695, by decide +kernel⟩
theorem fl_X12_306 : FL RX12 306 12 41 1 := ⟨cf_12, by decide, by decide, wd_1705, by decide +kernel⟩
theorem fl_X12_103 : FL RX12 103 12 42 3 := ⟨cf_12, by decide, by decide, wd_1706, by decide +kernel⟩
theorem fl_X12_309 : FL RX12 309 12 44 0 := ⟨cf_12, by decide, by decide, wd_1708, by decide +kernel⟩
theorem fl_X12_106 : FL RX12 106 12 43 3 := ⟨cf_12, by decide, by decide, wd_1707, by decide +kernel⟩
theorem fl_X12_73 : FL RX12 73 12 27 3 := ⟨cf_12, by decide, by decide, wd_1691, by decide +kernel⟩
theorem fl_X12_115 : FL RX12 115 12 48 3 := ⟨cf_12, by decide, by decide, wd_1712, by decide +kernel⟩
theorem fl_X12_346 : FL RX12 346 12 49 0 := ⟨cf_12, by decide, by decide, wd_1713, by decide +kernel⟩
theorem fl_X12_109 : FL RX12 109 12 45 3 := ⟨cf_12, by decide, by decide, wd_1709, by decide +kernel⟩
theorem fl_X12_352 : FL RX12 352 12 47 0 := ⟨cf_12, by decide, by decide, wd_1711, by decide +kernel⟩
theorem fl_X12_13 : FL RX12 13 12 1 3 := ⟨cf_12, by decide, by decide, wd_1665, by decide +kernel⟩
theorem ml_X0_19 : MLSN RX0 19 yX11_isSlot cX11_isSlot 1 (some .boolean) 1 := ⟨⟨List.mem_of_getElem? (i := 9) rfl, wd_750, wd_95, wd_751⟩, by decide +kernel, by decide +kernel, by decide +kernel⟩
theorem ml_X0_32 : MLS RX0 32 yX8_lowBit cX8_lowBit 1 (some .long) 1 := ⟨⟨wd_879, wd_793, wd_100, wd_794⟩, by decide +kernel, by decide +kernel, by decide +kernel⟩
theorem ml_X0_42 : MLS RX0 42 yX8_highBit cX8_highBit 1 (some .long) 1 := ⟨⟨wd_880, wd_796, wd_100, wd_797⟩, by decide +kernel, by decide +kernel, by decide +kernel⟩
theorem ml_X2_22 : MLS RX2 22 yJ7_fill_53178 cJ7_fill_53178 4 none 2 := ⟨⟨wd_654, wd_536, wd_107, wd_537⟩, by decide +kernel, by decide +kernel, by decide +kernel⟩
theorem ml_X2_35 : MLV RX2 35 yX2_multiply cX2_multiply 5 none 2 := ⟨⟨wd_895, wd_897, wd_18, wd_101, wd_898⟩, by decide +kernel, by decide +kernel, by decide +kernel⟩
theorem ml_X6_50 : MLS RX6 50 yJ7_fill_d0a16 cJ7_fill_d0a16 5 none 2 := ⟨⟨wd_646, wd_647, wd_107, wd_648⟩, by decide +kernel, by decide +kernel, by decide +kernel⟩
theorem ml_X6_56 : MLS RX6 56 yJ7_fill_53178 cJ7_fill_53178 4 none 2 := ⟨⟨wd_649, wd_536, wd_107, wd_537⟩, by decide +kernel, by decide +kernel, by decide +kernel⟩
theorem ml_X6_90 : MLV RX6 90 yX8_addToken cX8_addToken 9 (some .int) 6 := ⟨⟨wd_837, wd_838, wd_839, wd_100, wd_840⟩, by decide +kernel, by decide +kernel, by decide +kernel⟩
theorem ml_X6_94 : MLV RX6 94 yX6_push cX6_push 3 (some (.object "Tellcourt$Frame")) 1 := ⟨⟨wd_787, wd_789, wd_7, wd_103, wd_790⟩, by decide +kernel, by decide +kernel, by decide +kernel⟩
theorem ml_X8_79 : MLV RX8 79 yX8_form cX8_form 4 (some .int) 1 := ⟨⟨wd_767, wd_756, wd_757, wd_100, wd_758⟩, by decide +kernel, by decide +kernel, by decide +kernel⟩
theorem ml_X8_83 : MLV RX8 83 yX8_rootOf cX8_rootOf 3 (some .int) 1 := ⟨⟨wd_819, wd_821, wd_10, wd_100, wd_822⟩, by decide +kernel, by decide +kernel, by decide +kernel⟩
theorem ml_X8_95 : MLV RX8 95 yX8_join cX8_join 5 (some .int) 3 := ⟨⟨wd_825, wd_827, wd_11, wd_100, wd_828⟩, by decide +kernel, by decide +kernel, by decide +kernel⟩
theorem ml_X6_98 : MLV RX6 98 yX8_unite cX8_unite 9 (some .int) 2 := ⟨⟨wd_815, wd_816, wd_817, wd_100, wd_818⟩, by decide +kernel, by decide +kernel, by decide +kernel⟩
theorem ml_X6_105 : MLV RX6 105 yX8_isTouched cX8_isTouched 3 (some .boolean) 2 := ⟨⟨wd_829, wd_830, wd_831, wd_100, wd_832⟩, by decide +kernel, by decide +kernel, by decide +kernel⟩
theorem ml_X6_109 : MLS RX6 109 yX8_lowBit cX8_lowBit 1 (some .long) 1 := ⟨⟨wd_792, wd_793, wd_100, wd_794⟩, by decide +kernel, by decide +kernel, by decide +kernel⟩
theorem ml_X6_113 : MLS RX6 113 yX8_highBit cX8_highBit 1 (some .long) 1 := ⟨⟨wd_795, wd_796, wd_100, wd_797⟩, by decide +kernel, by decide +kernel, by decide +kernel⟩
theorem ml_X8_41 : MLS RX8 41 yX8_lowBit cX8_lowBit 1 (some .long) 1 := ⟨⟨wd_805, wd_793, wd_100, wd_794⟩, by decide +kernel, by decide +kernel, by decide +kernel⟩
theorem ml_X8_45 : MLS RX8 45 yX8_highBit cX8_highBit 1 (some .long) 1 := ⟨⟨wd_806, wd_796, wd_100, wd_797⟩, by decide +kernel, by decide +kernel, by decide +kernel⟩
theorem ml_X6_233 : MLS RX6 233 yX8_isIn cX8_isIn 5 (some .boolean) 3 := ⟨⟨wd_802, wd_803, wd_100, wd_804⟩, by decide +kernel, by decide +kernel, by decide +kernel⟩
theorem ml_X6_193 : MLS RX6 193 yX6_historyRow cX6_historyRow 3 (some .int) 3 := ⟨⟨wd_714, wd_715, wd_103, wd_716⟩, by decide +kernel, by decide +kernel, by decide +kernel⟩
theorem ml_X6_197 : MLS RX6 197 yX6_historyBit cX6_historyBit 1 (some .long) 1 := ⟨⟨wd_717, wd_718, wd_103, wd_719⟩, by decide +kernel, by decide +kernel, by decide +kernel⟩
theorem ml_X6_166 : MLSN RX6 166 yX11_isSlot cX11_isSlot 1 (some .boolean) 1 := ⟨⟨List.mem_of_getElem? (i := 8) rfl, wd_750, wd_95, wd_751⟩, by decide +kernel, by decide +kernel, by decide +kernel⟩
theorem ml_X8_75 : MLV RX8 75 yX8_lowest cX8_lowest 7 (some .int) 3 := ⟨⟨wd_763, wd_764, wd_765, wd_100, wd_766⟩, by decide +kernel, by decide +kernel, by decide +kernel⟩
theorem ml_X6_170 : MLS RX6 170 yX6_resolve cX6_resolve 2 (some .int) 2 := ⟨⟨wd_752, wd_753, wd_103, wd_754⟩, by decide +kernel, by decide +kernel, by decide +kernel⟩
theorem ml_X6_190 : MLV RX6 190 yX8_isEntailed cX8_isEntailed 7 (some .boolean) 3 := ⟨⟨wd_759, wd_760, wd_761, wd_100, wd_762⟩, by decide +kernel, by decide +kernel, by decide +kernel⟩
theorem ml_X6_174 : MLV RX6 174 yX8_form cX8_form 4 (some .int) 1 := ⟨⟨wd_755, wd_756, wd_757, wd_100, wd_758⟩, by decide +kernel, by decide +kernel, by decide +kernel⟩
theorem ml_X6_207 : MLV RX6 207 yX8_mayAct cX8_mayAct 1 (some .boolean) 0 := ⟨⟨wd_772, wd_773, wd_774, wd_100, wd_775⟩, by decide +kernel, by decide +kernel, by decide +kernel⟩
theorem ml_X6_211 : MLV RX6 211 yX7_removesNone cX7_removesNone 1 (some .boolean) 0 := ⟨⟨wd_776, wd_777, wd_778, wd_98, wd_779⟩, by decide +kernel, by decide +kernel, by decide +kernel⟩
theorem ml_X6_214 : MLV RX6 214 yX6_remember cX6_remember 4 none 3 := ⟨⟨wd_780, wd_782, wd_6, wd_103, wd_783⟩, by decide +kernel, by decide +kernel, by decide +kernel⟩
theorem ml_X6_141 : MLV RX6 141 yX6_isPartner cX6_isPartner 5 (some .boolean) 4 := ⟨⟨wd_737, wd_739, wd_2, wd_103, wd_740⟩, by decide +kernel, by decide +kernel, by decide +kernel⟩
theorem ml_X6_145 : MLV RX6 145 yX6_isNew cX6_isNew 4 (some .boolean) 3 := ⟨⟨wd_741, wd_743, wd_3, wd_103, wd_744⟩, by decide +kernel, by decide +kernel, by decide +kernel⟩
theorem ml_X6_149 : MLV RX6 149 yX6_isMatch cX6_isMatch 8 (some .boolean) 3 := ⟨⟨wd_745, wd_747, wd_4, wd_103, wd_748⟩, by decide +kernel, by decide +kernel, by decide +kernel⟩
theorem ml_X6_153 : MLV RX6 153 yX6_fire cX6_fire 8 none 3 := ⟨⟨wd_768, wd_770, wd_5, wd_103, wd_771⟩, by decide +kernel, by decide +kernel, by decide +kernel⟩
theorem ml_X6_246 : MLV RX6 246 yX6_tellEqual cX6_tellEqual 6 none 2 := ⟨⟨wd_811, wd_812, wd_813, wd_103, wd_814⟩, by decide +kernel, by decide +kernel, by decide +kernel⟩
theorem ml_X6_250 : MLV RX6 250 yX6_tellToken cX6_tellToken 10 none 6 := ⟨⟨wd_833, wd_834, wd_835, wd_103, wd_836⟩, by decide +kernel, by decide +kernel, by decide +kernel⟩
theorem ml_X6_116 : MLV RX6 116 yX6_advanceActive cX6_advanceActive 13 none 1 := ⟨⟨wd_733, wd_735, wd_1, wd_103, wd_736⟩, by decide +kernel, by decide +kernel, by decide +kernel⟩
theorem ml_X6_120 : MLV RX6 120 yX6_advanceWaking cX6_advanceWaking 3 none 1 := ⟨⟨wd_798, wd_800, wd_8, wd_103, wd_801⟩, by decide +kernel, by decide +kernel, by decide +kernel⟩
theorem ml_X6_123 : MLV RX6 123 yX6_advanceBodies cX6_advanceBodies 6 none 1 := ⟨⟨wd_807, wd_809, wd_9, wd_103, wd_810⟩, by decide +kernel, by decide +kernel, by decide +kernel⟩
theorem ml_X7_46 : MLSN RX7 46 yX11_isSlot cX11_isSlot 1 (some .boolean) 1 := ⟨⟨List.mem_of_getElem? (i := 10) rfl, wd_750, wd_95, wd_751⟩, by decide +kernel, by decide +kernel, by decide +kernel⟩
theorem ml_X7_42 : MLV RX7 42 yX7_bind cX7_bind 2 none 1 := ⟨⟨wd_1213, wd_1215, wd_29, wd_98, wd_1216⟩, by decide +kernel, by decide +kernel, by decide +kernel⟩
theorem ml_J7_13 : MLS RJ7 13 yJ7_rangeCheck_23922 cJ7_rangeCheck_23922 3 none 3 := ⟨⟨wd_1334, wd_1335, wd_107, wd_1336⟩, by decide +kernel, by decide +kernel, by decide +kernel⟩
theorem ml_X9_47 : MLV RX9 47 yX8_form cX8_form 4 (some .int) 1 := ⟨⟨wd_1597, wd_756, wd_757, wd_100, wd_758⟩, by decide +kernel, by decide +kernel, by decide +kernel⟩
theorem ml_X9_31 : MLS RX9 31 yJ7_fill_fda19 cJ7_fill_fda19 5 none 4 := ⟨⟨wd_1331, wd_1332, wd_107, wd_1333⟩, by decide +kernel, by decide +kernel, by decide +kernel⟩
theorem ml_X9_43 : MLV RX9 43 yX8_countStanding cX8_countStanding 3 (some .int) 0 := ⟨⟨wd_1596, wd_627, wd_628, wd_100, wd_629⟩, by decide +kernel, by decide +kernel, by decide +kernel⟩
theorem ml_X9_51 : MLV RX9 51 yX9_recordTokens cX9_recordTokens 7 none 2 := ⟨⟨wd_1598, wd_1600, wd_33, wd_97, wd_1601⟩, by decide +kernel, by decide +kernel, by decide +kernel⟩
theorem ml_X9_55 : MLV RX9 55 yX9_isSame cX9_isSame 4 (some .boolean) 2 := ⟨⟨wd_1602, wd_1604, wd_34, wd_97, wd_1605⟩, by decide +kernel, by decide +kernel, by decide +kernel⟩
theorem ml_X10_65 : MLV RX10 65 yX8_clear cX8_clear 1 none 0 := ⟨⟨wd_638, wd_639, wd_640, wd_100, wd_641⟩, by decide +kernel, by decide +kernel, by decide +kernel⟩
theorem ml_X10_68 : MLV RX10 68 yX6_clear cX6_clear 1 none 0 := ⟨⟨wd_642, wd_643, wd_644, wd_103, wd_645⟩, by decide +kernel, by decide +kernel, by decide +kernel⟩
theorem ml_X10_69 : MLV RX10 69 yX2_clear cX2_clear 1 none 0 := ⟨⟨wd_650, wd_651, wd_652, wd_101, wd_653⟩, by decide +kernel, by decide +kernel, by decide +kernel⟩
theorem ml_X10_59 : MLS RX10 59 yJ7_fill_53178 cJ7_fill_53178 4 none 2 := ⟨⟨wd_535, wd_536, wd_107, wd_537⟩, by decide +kernel, by decide +kernel, by decide +kernel⟩
theorem ml_X10_70 : MLV RX10 70 yX4_open cX4_open 1 none 0 := ⟨⟨wd_655, wd_656, wd_657, wd_105, wd_658⟩, by decide +kernel, by decide +kernel, by decide +kernel⟩
theorem ml_X10_80 : MLV RX10 80 yX8_copyFrom cX8_copyFrom 2 none 1 := ⟨⟨wd_1313, wd_1314, wd_1315, wd_100, wd_1316⟩, by decide +kernel, by decide +kernel, by decide +kernel⟩
theorem ml_X10_84 : MLV RX10 84 yX6_copyFrom cX6_copyFrom 2 none 1 := ⟨⟨wd_1317, wd_1318, wd_1319, wd_103, wd_1320⟩, by decide +kernel, by decide +kernel, by decide +kernel⟩
theorem ml_X10_87 : MLV RX10 87 yX2_copyFrom cX2_copyFrom 2 none 1 := ⟨⟨wd_1321, wd_1322, wd_1323, wd_101, wd_1324⟩, by decide +kernel, by decide +kernel, by decide +kernel⟩
theorem ml_X10_100 : MLV RX10 100 yX1_addAll cX1_addAll 3 none 1 := ⟨⟨wd_686, wd_687, wd_688, wd_106, wd_689⟩, by decide +kernel, by decide +kernel, by decide +kernel⟩
theorem ml_X10_109 : MLV RX10 109 yX0_take cX0_take 4 none 3 := ⟨⟨wd_667, wd_668, wd_669, wd_102, wd_670⟩, by decide +kernel, by decide +kernel, by decide +kernel⟩
theorem ml_X10_120 : MLV RX10 120 yX1_add cX1_add 3 none 2 := ⟨⟨wd_671, wd_672, wd_673, wd_106, wd_674⟩, by decide +kernel, by decide +kernel, by decide +kernel⟩
theorem ml_X10_181 : MLV RX10 181 yX6_stop cX6_stop 1 none 0 := ⟨⟨wd_702, wd_703, wd_704, wd_103, wd_705⟩, by decide +kernel, by decide +kernel, by decide +kernel⟩
theorem ml_X10_184 : MLV RX10 184 yX8_restore cX8_restore 4 none 1 := ⟨⟨wd_706, wd_707, wd_708, wd_100, wd_709⟩, by decide +kernel, by decide +kernel, by decide +kernel⟩
theorem ml_X10_190 : MLV RX10 190 yX6_forget cX6_forget 5 none 1 := ⟨⟨wd_710, wd_711, wd_712, wd_103, wd_713⟩, by decide +kernel, by decide +kernel, by decide +kernel⟩
theorem ml_X10_197 : MLV RX10 197 yX1_read cX1_read 3 none 2 := ⟨⟨wd_721, wd_722, wd_723, wd_106, wd_724⟩, by decide +kernel, by decide +kernel, by decide +kernel⟩
theorem ml_X10_268 : MLV RX10 268 yX8_save cX8_save 2 none 1 := ⟨⟨wd_903, wd_904, wd_905, wd_100, wd_906⟩, by decide +kernel, by decide +kernel, by decide +kernel⟩
theorem ml_X10_261 : MLV RX10 261 yX8_makeVariable cX8_makeVariable 1 (some .int) 0 := ⟨⟨wd_885, wd_660, wd_661, wd_100, wd_662⟩, by decide +kernel, by decide +kernel, by decide +kernel⟩
theorem ml_X10_220 : MLV RX10 220 yX0_look cX0_look 2 (some .int) 1 := ⟨⟨wd_854, wd_855, wd_856, wd_102, wd_857⟩, by decide +kernel, by decide +kernel, by decide +kernel⟩
theorem ml_X10_284 : MLV RX10 284 yX8_isEntailed cX8_isEntailed 7 (some .boolean) 3 := ⟨⟨wd_869, wd_760, wd_761, wd_100, wd_762⟩, by decide +kernel, by decide +kernel, by decide +kernel⟩
theorem ml_X10_280 : MLV RX10 280 yX10_isEntailed cX10_isEntailed 2 (some .boolean) 1 := ⟨⟨wd_865, wd_867, wd_14, wd_99, wd_868⟩, by decide +kernel, by decide +kernel, by decide +kernel⟩
theorem ml_X10_272 : MLV RX10 272 yX8_lowest cX8_lowest 7 (some .int) 3 := ⟨⟨wd_874, wd_764, wd_765, wd_100, wd_766⟩, by decide +kernel, by decide +kernel, by decide +kernel⟩
theorem ml_X10_276 : MLV RX10 276 yX0_include cX0_include 3 none 2 := ⟨⟨wd_875, wd_876, wd_877, wd_102, wd_878⟩, by decide +kernel, by decide +kernel, by decide +kernel⟩
theorem ml_X10_203 : MLV RX10 203 yX1_drop cX1_drop 3 none 1 := ⟨⟨wd_849, wd_850, wd_851, wd_106, wd_852⟩, by decide +kernel, by decide +kernel, by decide +kernel⟩
theorem ml_X10_206 : MLV RX10 206 yX8_mayAct cX8_mayAct 1 (some .boolean) 0 := ⟨⟨wd_853, wd_773, wd_774, wd_100, wd_775⟩, by decide +kernel, by decide +kernel, by decide +kernel⟩
theorem ml_X10_232 : MLV RX10 232 yX6_tellEqual cX6_tellEqual 6 none 2 := ⟨⟨wd_859, wd_812, wd_813, wd_103, wd_814⟩, by decide +kernel, by decide +kernel, by decide +kernel⟩
theorem ml_X10_236 : MLV RX10 236 yX6_tellToken cX6_tellToken 10 none 6 := ⟨⟨wd_860, wd_834, wd_835, wd_103, wd_836⟩, by decide +kernel, by decide +kernel, by decide +kernel⟩
theorem ml_X10_240 : MLV RX10 240 yX10_sideOf cX10_sideOf 5 (some .int) 1 := ⟨⟨wd_861, wd_863, wd_13, wd_99, wd_864⟩, by decide +kernel, by decide +kernel, by decide +kernel⟩
theorem ml_X10_243 : MLV RX10 243 yX10_ask cX10_ask 8 none 3 := ⟨⟨wd_870, wd_872, wd_15, wd_99, wd_873⟩, by decide +kernel, by decide +kernel, by decide +kernel⟩
theorem ml_X10_247 : MLV RX10 247 yX10_conceal cX10_conceal 5 none 3 := ⟨⟨wd_881, wd_883, wd_16, wd_99, wd_884⟩, by decide +kernel, by decide +kernel, by decide +kernel⟩
theorem ml_X10_250 : MLV RX10 250 yX10_enter cX10_enter 5 none 4 := ⟨⟨wd_886, wd_888, wd_17, wd_99, wd_889⟩, by decide +kernel, by decide +kernel, by decide +kernel⟩
theorem ml_X10_254 : MLV RX10 254 yX2_isFirst cX2_isFirst 5 (some .boolean) 2 := ⟨⟨wd_890, wd_891, wd_892, wd_101, wd_893⟩, by decide +kernel, by decide +kernel, by decide +kernel⟩
theorem ml_X10_258 : MLV RX10 258 yX10_dare cX10_dare 5 none 3 := ⟨⟨wd_899, wd_901, wd_19, wd_99, wd_902⟩, by decide +kernel, by decide +kernel, by decide +kernel⟩
theorem ml_X10_287 : MLV RX10 287 yX8_dropPassing cX8_dropPassing 2 none 0 := ⟨⟨wd_920, wd_921, wd_922, wd_100, wd_923⟩, by decide +kernel, by decide +kernel, by decide +kernel⟩
theorem ml_X10_133 : MLV RX10 133 yX6_startStep cX6_startStep 1 none 0 := ⟨⟨wd_693, wd_694, wd_695, wd_103, wd_696⟩, by decide +kernel, by decide +kernel, by decide +kernel⟩
theorem ml_X10_154 : MLV RX10 154 yX6_isBusy cX6_isBusy 1 (some .boolean) 0 := ⟨⟨wd_725, wd_726, wd_727, wd_103, wd_728⟩, by decide +kernel, by decide +kernel, by decide +kernel⟩
theorem ml_X10_171 : MLV RX10 171 yX10_goOn cX10_goOn 5 (some .boolean) 1 := ⟨⟨wd_908, wd_910, wd_20, wd_99, wd_911⟩, by decide +kernel, by decide +kernel, by decide +kernel⟩
theorem ml_X10_175 : MLV RX10 175 yX10_assume cX10_assume 4 (some .boolean) 1 := ⟨⟨wd_912, wd_914, wd_21, wd_99, wd_915⟩, by decide +kernel, by decide +kernel, by decide +kernel⟩
theorem ml_X10_178 : MLV RX10 178 yX10_finish cX10_finish 3 none 1 := ⟨⟨wd_916, wd_918, wd_22, wd_99, wd_919⟩, by decide +kernel, by decide +kernel, by decide +kernel⟩
theorem ml_X10_161 : MLV RX10 161 yX9_choose cX9_choose 3 (some .int) 1 := ⟨⟨wd_841, wd_842, wd_843, wd_97, wd_844⟩, by decide +kernel, by decide +kernel, by decide +kernel⟩
theorem ml_X10_167 : MLV RX10 167 yX10_act cX10_act 11 none 2 := ⟨⟨wd_845, wd_847, wd_12, wd_99, wd_848⟩, by decide +kernel, by decide +kernel, by decide +kernel⟩
theorem ml_X10_158 : MLV RX10 158 yX6_advance cX6_advance 2 none 0 := ⟨⟨wd_729, wd_730, wd_731, wd_103, wd_732⟩, by decide +kernel, by decide +kernel, by decide +kernel⟩
theorem ml_X10_150 : MLV RX10 150 yX10_giveUp cX10_giveUp 2 none 1 := ⟨⟨wd_698, wd_700, wd_0, wd_99, wd_701⟩, by decide +kernel, by decide +kernel, by decide +kernel⟩
theorem ml_X11_283 : MLV RX11 283 yX8_countStanding cX8_countStanding 3 (some .int) 0 := ⟨⟨wd_626, wd_627, wd_628, wd_100, wd_629⟩, by decide +kernel, by decide +kernel, by decide +kernel⟩
theorem ml_X11_286 : MLV RX11 286 yX10_clear cX10_clear 1 none 0 := ⟨⟨wd_634, wd_635, wd_636, wd_99, wd_637⟩, by decide +kernel, by decide +kernel, by decide +kernel⟩
theorem ml_X11_71 : MLV RX11 71 yX8_makeVariable cX8_makeVariable 1 (some .int) 0 := ⟨⟨wd_659, wd_660, wd_661, wd_100, wd_662⟩, by decide +kernel, by decide +kernel, by decide +kernel⟩
theorem ml_X11_190 : MLV RX11 190 yX10_admit cX10_admit 4 none 3 := ⟨⟨wd_663, wd_664, wd_665, wd_99, wd_666⟩, by decide +kernel, by decide +kernel, by decide +kernel⟩
theorem ml_X11_198 : MLV RX11 198 yX9_restart cX9_restart 1 none 0 := ⟨⟨wd_678, wd_679, wd_680, wd_97, wd_681⟩, by decide +kernel, by decide +kernel, by decide +kernel⟩
theorem ml_X11_201 : MLV RX11 201 yX10_doStep cX10_doStep 7 none 1 := ⟨⟨wd_682, wd_683, wd_684, wd_99, wd_685⟩, by decide +kernel, by decide +kernel, by decide +kernel⟩
theorem ml_X11_185 : MLV RX11 185 yX10_forNext cX10_forNext 1 (some .int) 0 := ⟨⟨wd_928, wd_929, wd_930, wd_99, wd_931⟩, by decide +kernel, by decide +kernel, by decide +kernel⟩
theorem ml_X11_295 : MLV RX11 295 yX2_line cX2_line 7 (some .int) 1 := ⟨⟨wd_936, wd_937, wd_938, wd_101, wd_939⟩, by decide +kernel, by decide +kernel, by decide +kernel⟩
theorem ml_X11_180 : MLS RX11 180 yX11_isValue cX11_isValue 1 (some .boolean) 1 := ⟨⟨wd_1036, wd_1037, wd_95, wd_1038⟩, by decide +kernel, by decide +kernel, by decide +kernel⟩
theorem ml_X11_124 : MLV RX11 124 yX11_begunRule cX11_begunRule 1 (some (.object "Tellcourt$Rule")) 0 := ⟨⟨wd_1200, wd_1202, wd_28, wd_95, wd_1203⟩, by decide +kernel, by decide +kernel, by decide +kernel⟩
theorem ml_X11_324 : MLV RX11 324 yX7_isBinding cX7_isBinding 2 (some .boolean) 1 := ⟨⟨wd_1241, wd_1242, wd_1243, wd_98, wd_1244⟩, by decide +kernel, by decide +kernel, by decide +kernel⟩
theorem ml_X11_327 : MLS RX11 327 yX11_isSlot cX11_isSlot 1 (some .boolean) 1 := ⟨⟨wd_1039, wd_750, wd_95, wd_751⟩, by decide +kernel, by decide +kernel, by decide +kernel⟩
theorem ml_X12_122 : MLS RX12 122 yX12_in cX12_in 3 (some .boolean) 3 := ⟨⟨wd_1844, wd_1845, wd_108, wd_1846⟩, by decide +kernel, by decide +kernel, by decide +kernel⟩
theorem ml_X12_126 : MLS RX12 126 yX12_isValue cX12_isValue 1 (some .boolean) 1 := ⟨⟨wd_1841, wd_1842, wd_108, wd_1843⟩, by decide +kernel, by decide +kernel, by decide +kernel⟩
theorem ml_X12_137 : MLV RX12 137 yX12_stop cX12_stop 2 (some .int) 1 := ⟨⟨wd_1826, wd_1828, wd_37, wd_108, wd_1829⟩, by decide +kernel, by decide +kernel, by decide +kernel⟩
theorem ml_X12_141 : MLV RX12 141 yX12_makeVariable cX12_makeVariable 2 (some .int) 0 := ⟨⟨wd_1830, wd_1832, wd_38, wd_108, wd_1833⟩, by decide +kernel, by decide +kernel, by decide +kernel⟩
theorem ml_X12_145 : MLV RX12 145 yX12_valueOf cX12_valueOf 2 (some .int) 1 := ⟨⟨wd_2016, wd_2018, wd_60, wd_108, wd_2019⟩, by decide +kernel, by decide +kernel, by decide +kernel⟩
theorem ml_X12_148 : MLV RX12 148 yX12_areEqual cX12_areEqual 4 (some .boolean) 2 := ⟨⟨wd_2012, wd_2014, wd_59, wd_108, wd_2015⟩, by decide +kernel, by decide +kernel, by decide +kernel⟩
theorem ml_X12_152 : MLV RX12 152 yX12_tokenOf cX12_tokenOf 5 (some .int) 3 := ⟨⟨wd_2028, wd_2030, wd_63, wd_108, wd_2031⟩, by decide +kernel, by decide +kernel, by decide +kernel⟩
theorem ml_X12_159 : MLV RX12 159 yX12_pushFrame cX12_pushFrame 3 none 1 := ⟨⟨wd_1992, wd_1994, wd_54, wd_108, wd_1995⟩, by decide +kernel, by decide +kernel, by decide +kernel⟩
theorem ml_X12_163 : MLV RX12 163 yX12_pushActive cX12_pushActive 2 none 1 := ⟨⟨wd_2052, wd_2054, wd_69, wd_108, wd_2055⟩, by decide +kernel, by decide +kernel, by decide +kernel⟩
theorem ml_X12_166 : MLV RX12 166 yX12_againFor cX12_againFor 7 none 1 := ⟨⟨wd_1988, wd_1990, wd_53, wd_108, wd_1991⟩, by decide +kernel, by decide +kernel, by decide +kernel⟩
theorem ml_X12_178 : MLV RX12 178 yX12_removes cX12_removes 2 (some .boolean) 1 := ⟨⟨wd_2032, wd_2034, wd_64, wd_108, wd_2035⟩, by decide +kernel, by decide +kernel, by decide +kernel⟩
theorem ml_X12_172 : MLV RX12 172 yX12_termOf cX12_termOf 2 (some .int) 1 := ⟨⟨wd_2020, wd_2022, wd_61, wd_108, wd_2023⟩, by decide +kernel, by decide +kernel, by decide +kernel⟩
theorem ml_X12_175 : MLV RX12 175 yX12_entails cX12_entails 7 (some .boolean) 3 := ⟨⟨wd_2024, wd_2026, wd_62, wd_108, wd_2027⟩, by decide +kernel, by decide +kernel, by decide +kernel⟩
theorem ml_X12_169 : MLV RX12 169 yX12_fits cX12_fits 4 (some .boolean) 2 := ⟨⟨wd_2008, wd_2010, wd_58, wd_108, wd_2011⟩, by decide +kernel, by decide +kernel, by decide +kernel⟩
theorem ml_X12_184 : MLV RX12 184 yX12_addSlice cX12_addSlice 3 none 1 := ⟨⟨wd_2040, wd_2042, wd_66, wd_108, wd_2043⟩, by decide +kernel, by decide +kernel, by decide +kernel⟩
theorem ml_X12_190 : MLV RX12 190 yX12_canFire cX12_canFire 7 (some .boolean) 3 := ⟨⟨wd_2004, wd_2006, wd_57, wd_108, wd_2007⟩, by decide +kernel, by decide +kernel, by decide +kernel⟩
theorem ml_X12_193 : MLV RX12 193 yX12_fire cX12_fire 7 none 3 := ⟨⟨wd_2036, wd_2038, wd_65, wd_108, wd_2039⟩, by decide +kernel, by decide +kernel, by decide +kernel⟩
theorem ml_X12_197 : MLV RX12 197 yX12_tellEqual cX12_tellEqual 10 none 2 := ⟨⟨wd_1984, wd_1986, wd_52, wd_108, wd_1987⟩, by decide +kernel, by decide +kernel, by decide +kernel⟩
theorem ml_X12_201 : MLV RX12 201 yX12_tellToken cX12_tellToken 7 none 4 := ⟨⟨wd_2048, wd_2050, wd_68, wd_108, wd_2051⟩, by decide +kernel, by decide +kernel, by decide +kernel⟩
theorem ml_X12_205 : MLV RX12 205 yX12_goActive cX12_goActive 9 none 1 := ⟨⟨wd_2000, wd_2002, wd_56, wd_108, wd_2003⟩, by decide +kernel, by decide +kernel, by decide +kernel⟩
theorem ml_X12_208 : MLV RX12 208 yX12_goBodies cX12_goBodies 7 none 1 := ⟨⟨wd_2044, wd_2046, wd_67, wd_108, wd_2047⟩, by decide +kernel, by decide +kernel, by decide +kernel⟩
theorem ml_X12_211 : MLV RX12 211 yX12_goAgain cX12_goAgain 3 none 1 := ⟨⟨wd_2056, wd_2058, wd_70, wd_108, wd_2059⟩, by decide +kernel, by decide +kernel, by decide +kernel⟩
theorem ml_X12_214 : MLS RX12 214 yX12_isTerm cX12_isTerm 1 (some .boolean) 1 := ⟨⟨wd_1838, wd_1839, wd_108, wd_1840⟩, by decide +kernel, by decide +kernel, by decide +kernel⟩
theorem ml_X12_217 : MLV RX12 217 yX12_makeNode cX12_makeNode 6 (some .int) 5 := ⟨⟨wd_1847, wd_1849, wd_39, wd_108, wd_1850⟩, by decide +kernel, by decide +kernel, by decide +kernel⟩
theorem ml_X12_221 : MLV RX12 221 yX12_toldNode cX12_toldNode 3 (some .int) 2 := ⟨⟨wd_1851, wd_1853, wd_40, wd_108, wd_1854⟩, by decide +kernel, by decide +kernel, by decide +kernel⟩
theorem ml_X12_225 : MLV RX12 225 yX12_isNode cX12_isNode 2 (some .boolean) 1 := ⟨⟨wd_1863, wd_1865, wd_41, wd_108, wd_1866⟩, by decide +kernel, by decide +kernel, by decide +kernel⟩
theorem ml_X12_228 : MLS RX12 228 yX12_isCondition cX12_isCondition 1 (some .boolean) 1 := ⟨⟨wd_1874, wd_1875, wd_108, wd_1876⟩, by decide +kernel, by decide +kernel, by decide +kernel⟩
theorem ml_X12_231 : MLS RX12 231 yX12_areTold cX12_areTold 3 (some .boolean) 3 := ⟨⟨wd_1871, wd_1872, wd_108, wd_1873⟩, by decide +kernel, by decide +kernel, by decide +kernel⟩
theorem ml_X12_237 : MLS RX12 237 yX12_isPattern cX12_isPattern 1 (some .boolean) 1 := ⟨⟨wd_1917, wd_1918, wd_108, wd_1919⟩, by decide +kernel, by decide +kernel, by decide +kernel⟩
theorem ml_X12_246 : MLV RX12 246 yX12_putHead cX12_putHead 5 none 4 := ⟨⟨wd_1920, wd_1922, wd_42, wd_108, wd_1923⟩, by decide +kernel, by decide +kernel, by decide +kernel⟩
theorem ml_X12_249 : MLV RX12 249 yX12_isOfHead cX12_isOfHead 4 (some .boolean) 1 := ⟨⟨wd_1932, wd_1934, wd_43, wd_108, wd_1935⟩, by decide +kernel, by decide +kernel, by decide +kernel⟩
theorem ml_X12_258 : MLV RX12 258 yX12_look cX12_look 3 (some .int) 2 := ⟨⟨wd_1980, wd_1982, wd_51, wd_108, wd_1983⟩, by decide +kernel, by decide +kernel, by decide +kernel⟩
theorem ml_X12_261 : MLV RX12 261 yX12_another cX12_another 5 (some .int) 2 := ⟨⟨wd_1964, wd_1966, wd_47, wd_108, wd_1967⟩, by decide +kernel, by decide +kernel, by decide +kernel⟩
theorem ml_X12_264 : MLV RX12 264 yX12_enqueue cX12_enqueue 2 none 1 := ⟨⟨wd_1968, wd_1970, wd_48, wd_108, wd_1971⟩, by decide +kernel, by decide +kernel, by decide +kernel⟩
theorem ml_X12_267 : MLV RX12 267 yX12_holds cX12_holds 4 (some .boolean) 2 := ⟨⟨wd_2060, wd_2062, wd_71, wd_108, wd_2063⟩, by decide +kernel, by decide +kernel, by decide +kernel⟩
theorem ml_X12_270 : MLV RX12 270 yX12_wayOf cX12_wayOf 5 (some .int) 2 := ⟨⟨wd_2076, wd_2078, wd_75, wd_108, wd_2079⟩, by decide +kernel, by decide +kernel, by decide +kernel⟩
theorem ml_X12_273 : MLV RX12 273 yX12_waitFor cX12_waitFor 2 none 1 := ⟨⟨wd_2068, wd_2070, wd_73, wd_108, wd_2071⟩, by decide +kernel, by decide +kernel, by decide +kernel⟩
theorem ml_X12_276 : MLV RX12 276 yX12_goOn cX12_goOn 6 none 2 := ⟨⟨wd_2064, wd_2066, wd_72, wd_108, wd_2067⟩, by decide +kernel, by decide +kernel, by decide +kernel⟩
theorem ml_X12_279 : MLS RX12 279 yX12_primeOf cX12_primeOf 1 (some .int) 1 := ⟨⟨wd_2095, wd_2096, wd_108, wd_2097⟩, by decide +kernel, by decide +kernel, by decide +kernel⟩
theorem ml_X12_288 : MLV RX12 288 yX12_countPrimes cX12_countPrimes 6 none 2 := ⟨⟨wd_2091, wd_2093, wd_78, wd_108, wd_2094⟩, by decide +kernel, by decide +kernel, by decide +kernel⟩
theorem ml_X12_291 : MLV RX12 291 yX12_settle cX12_settle 2 none 0 := ⟨⟨wd_1996, wd_1998, wd_55, wd_108, wd_1999⟩, by decide +kernel, by decide +kernel, by decide +kernel⟩
theorem ml_X12_294 : MLV RX12 294 yX12_actEither cX12_actEither 4 none 2 := ⟨⟨wd_2072, wd_2074, wd_74, wd_108, wd_2075⟩, by decide +kernel, by decide +kernel, by decide +kernel⟩
theorem ml_X12_297 : MLV RX12 297 yX12_forNext cX12_forNext 2 none 1 := ⟨⟨wd_2080, wd_2082, wd_76, wd_108, wd_2083⟩, by decide +kernel, by decide +kernel, by decide +kernel⟩
theorem ml_X12_300 : MLV RX12 300 yX12_actLot cX12_actLot 5 none 2 := ⟨⟨wd_2084, wd_2086, wd_77, wd_108, wd_2087⟩, by decide +kernel, by decide +kernel, by decide +kernel⟩
theorem ml_X12_303 : MLV RX12 303 yX12_actTry cX12_actTry 5 none 2 := ⟨⟨wd_2098, wd_2100, wd_79, wd_108, wd_2101⟩, by decide +kernel, by decide +kernel, by decide +kernel⟩
theorem ml_X12_312 : MLV RX12 312 yX12_dropWait cX12_dropWait 3 none 1 := ⟨⟨wd_2110, wd_2112, wd_82, wd_108, wd_2113⟩, by decide +kernel, by decide +kernel, by decide +kernel⟩
theorem ml_X12_336 : MLV RX12 336 yX12_finish cX12_finish 3 none 0 := ⟨⟨wd_2122, wd_2124, wd_85, wd_108, wd_2125⟩, by decide +kernel, by decide +kernel, by decide +kernel⟩
theorem ml_X12_324 : MLV RX12 324 yX12_wakeAll cX12_wakeAll 6 none 0 := ⟨⟨wd_2102, wd_2104, wd_80, wd_108, wd_2105⟩, by decide +kernel, by decide +kernel, by decide +kernel⟩
theorem ml_X12_327 : MLV RX12 327 yX12_assume cX12_assume 4 none 0 := ⟨⟨wd_2106, wd_2108, wd_81, wd_108, wd_2109⟩, by decide +kernel, by decide +kernel, by decide +kernel⟩
theorem ml_X12_330 : MLV RX12 330 yX12_endLevel cX12_endLevel 4 none 0 := ⟨⟨wd_2114, wd_2116, wd_83, wd_108, wd_2117⟩, by decide +kernel, by decide +kernel, by decide +kernel⟩
theorem ml_X12_333 : MLV RX12 333 yX12_commit cX12_commit 4 none 0 := ⟨⟨wd_2118, wd_2120, wd_84, wd_108, wd_2121⟩, by decide +kernel, by decide +kernel, by decide +kernel⟩
theorem ml_X12_318 : MLV RX12 318 yX12_dequeue cX12_dequeue 5 (some .int) 0 := ⟨⟨wd_1972, wd_1974, wd_49, wd_108, wd_1975⟩, by decide +kernel, by decide +kernel, by decide +kernel⟩
theorem ml_X12_321 : MLV RX12 321 yX12_act cX12_act 6 none 1 := ⟨⟨wd_1976, wd_1978, wd_50, wd_108, wd_1979⟩, by decide +kernel, by decide +kernel, by decide +kernel⟩
theorem ml_X12_315 : MLV RX12 315 yX12_forget cX12_forget 5 none 0 := ⟨⟨wd_1960, wd_1962, wd_46, wd_108, wd_1963⟩, by decide +kernel, by decide +kernel, by decide +kernel⟩
theorem ml_X12_339 : MLV RX12 339 yX12_isOutside cX12_isOutside 2 (some .boolean) 1 := ⟨⟨wd_1948, wd_1950, wd_44, wd_108, wd_1951⟩, by decide +kernel, by decide +kernel, by decide +kernel⟩
theorem ml_X12_342 : MLV RX12 342 yX12_run cX12_run 2 none 0 := ⟨⟨wd_1956, wd_1958, wd_45, wd_108, wd_1959⟩, by decide +kernel, by decide +kernel, by decide +kernel⟩
theorem ml_X12_349 : MLV RX12 349 yX12_asTold cX12_asTold 3 (some .int) 1 := ⟨⟨wd_2139, wd_2141, wd_87, wd_108, wd_2142⟩, by decide +kernel, by decide +kernel, by decide +kernel⟩
theorem ml_X12_355 : MLV RX12 355 yX12_isEnd cX12_isEnd 4 (some .boolean) 1 := ⟨⟨wd_2147, wd_2149, wd_89, wd_108, wd_2150⟩, by decide +kernel, by decide +kernel, by decide +kernel⟩
theorem ml_X12_358 : MLV RX12 358 yX12_layEnd cX12_layEnd 5 none 0 := ⟨⟨wd_2135, wd_2137, wd_86, wd_108, wd_2138⟩, by decide +kernel, by decide +kernel, by decide +kernel⟩
theorem ml_X12_361 : MLV RX12 361 yX12_keepEnd cX12_keepEnd 2 none 0 := ⟨⟨wd_2143, wd_2145, wd_88, wd_108, wd_2146⟩, by decide +kernel, by decide +kernel, by decide +kernel⟩
theorem ml_X12_364 : MLV RX12 364 yX12_restore cX12_restore 2 none 0 := ⟨⟨wd_2151, wd_2153, wd_90, wd_108, wd_2154⟩, by decide +kernel, by decide +kernel, by decide +kernel⟩
theorem ml_X12_367 : MLV RX12 367 yX12_nextSchedule cX12_nextSchedule 2 (some .boolean) 0 := ⟨⟨wd_2155, wd_2157, wd_91, wd_108, wd_2158⟩, by decide +kernel, by decide +kernel, by decide +kernel⟩
theorem ml_X12_371 : MLV RX12 371 yX12_isVariable cX12_isVariable 2 (some .boolean) 1 := ⟨⟨wd_2175, wd_2177, wd_92, wd_108, wd_2178⟩, by decide +kernel, by decide +kernel, by decide +kernel⟩
theorem ml_X12_374 : MLV RX12 374 yX12_isToken cX12_isToken 2 (some .boolean) 1 := ⟨⟨wd_2191, wd_2193, wd_93, wd_108, wd_2194⟩, by decide +kernel, by decide +kernel, by decide +kernel⟩
theorem ml_X12_377 : MLV RX12 377 yX12_standing cX12_standing 3 (some .int) 0 := ⟨⟨wd_2207, wd_2200, wd_2201, wd_108, wd_2202⟩, by decide +kernel, by decide +kernel, by decide +kernel⟩
theorem mm_X1_34 : MCp RX1 34 := ⟨wd_675, wd_677, wd_676, wd_116⟩
theorem mm_X1_47 : MMmin RX1 47 := ⟨wd_690, wd_691, wd_115, wd_692⟩
theorem mm_X2_28 : MCp RX2 28 := ⟨wd_1325, wd_677, wd_676, wd_116⟩
theorem mm_X6_59 : MCp RX6 59 := ⟨wd_791, wd_677, wd_676, wd_116⟩
theorem mm_X8_92 : MMmax RX8 92 := ⟨wd_824, wd_785, wd_115, wd_786⟩
theorem mm_X8_86 : MMmin RX8 86 := ⟨wd_823, wd_691, wd_115, wd_692⟩
theorem mm_X6_200 : MMmax RX6 200 := ⟨wd_784, wd_785, wd_115, wd_786⟩
theorem mm_X8_62 : MCp RX8 62 := ⟨wd_907, wd_677, wd_676, wd_116⟩
theorem mm_X10_90 : MCp RX10 90 := ⟨wd_1326, wd_677, wd_676, wd_116⟩
theorem mm_X11_330 : MMmin RX11 330 := ⟨wd_1204, wd_691, wd_115, wd_692⟩
