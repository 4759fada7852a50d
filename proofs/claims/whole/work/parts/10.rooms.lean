abbrev rm_Main_isSector : Room := { frames := 0, cells := 0, slots := 0, locals := 0 }
abbrev rm_Main_isFigure : Room := { frames := 0, cells := 0, slots := 0, locals := 0 }
abbrev rm_Main_figureOf : Room := { frames := 0, cells := 0, slots := 0, locals := 0 }
abbrev rm_Main_withFigure : Room := { frames := 0, cells := 0, slots := 0, locals := 0 }
abbrev rm_Found_forget : Room := { frames := 0, cells := 0, slots := 0, locals := 0 }
abbrev rm_Verd_forget : Room := { frames := 0, cells := 0, slots := 0, locals := 0 }
abbrev rm_Main_forgetFound : Room := { frames := 1, cells := 0, slots := 0, locals := 20 }
abbrev rm_Main_sector : Room := { frames := 2, cells := 0, slots := 0, locals := 40 }
abbrev rm_Mod_in : Room := { frames := 0, cells := 0, slots := 0, locals := 0 }
abbrev rm_Mod_isSector : Room := { frames := 1, cells := 0, slots := 0, locals := 22 }
abbrev rm_Mod_isNumber : Room := { frames := 1, cells := 0, slots := 0, locals := 22 }
abbrev rm_Mod_sector : Room := { frames := 2, cells := 0, slots := 0, locals := 42 }
abbrev rm_Act_become : Room := { frames := 0, cells := 0, slots := 0, locals := 0 }
abbrev rm_Main_addAct : Room := { frames := 2, cells := 0, slots := 0, locals := 40 }
abbrev rm_Main_write : Room := { frames := 3, cells := 0, slots := 0, locals := 65 }
abbrev rm_Mod_come : Room := { frames := 0, cells := 0, slots := 0, locals := 0 }
abbrev rm_Mod_write : Room := { frames := 2, cells := 0, slots := 0, locals := 42 }
abbrev rm_Main_whole : Room := { frames := 3, cells := 0, slots := 0, locals := 65 }
abbrev rm_Mod_whole : Room := { frames := 2, cells := 0, slots := 0, locals := 42 }
abbrev rm_Main_barrier : Room := { frames := 3, cells := 0, slots := 0, locals := 65 }
abbrev rm_Mod_barrier : Room := { frames := 1, cells := 0, slots := 0, locals := 25 }
abbrev rm_Main_flush : Room := { frames := 3, cells := 0, slots := 0, locals := 65 }
abbrev rm_Mod_flush : Room := { frames := 1, cells := 0, slots := 0, locals := 25 }
abbrev rm_Rule_has : Room := { frames := 0, cells := 0, slots := 0, locals := 0 }
abbrev rm_Main_tell : Room := { frames := 3, cells := 0, slots := 0, locals := 65 }
abbrev rm_Mod_tell : Room := { frames := 1, cells := 0, slots := 0, locals := 25 }
abbrev rm_Main_undo : Room := { frames := 2, cells := 0, slots := 0, locals := 40 }
abbrev rm_Mod_undo : Room := { frames := 0, cells := 0, slots := 0, locals := 0 }
abbrev rm_Prog_has : Room := { frames := 0, cells := 0, slots := 0, locals := 0 }
abbrev rm_Prog_exchange : Room := { frames := 0, cells := 0, slots := 0, locals := 0 }
abbrev rm_Main_swap : Room := { frames := 2, cells := 0, slots := 0, locals := 40 }
abbrev rm_Mod_swap : Room := { frames := 1, cells := 0, slots := 0, locals := 22 }
abbrev rm_Act_part : Room := { frames := 0, cells := 0, slots := 0, locals := 0 }
abbrev rm_Main_act : Room := { frames := 1, cells := 0, slots := 0, locals := 21 }
abbrev rm_Mod_act : Room := { frames := 1, cells := 0, slots := 0, locals := 22 }
abbrev rm_Act_writes : Room := { frames := 0, cells := 0, slots := 0, locals := 0 }
abbrev rm_Prog_writesWithin : Room := { frames := 1, cells := 0, slots := 0, locals := 20 }
abbrev rm_Prog_writes : Room := { frames := 2, cells := 0, slots := 0, locals := 44 }
abbrev rm_Act_laidOn : Room := { frames := 1, cells := 0, slots := 0, locals := 23 }
abbrev rm_Prog_plateOf : Room := { frames := 2, cells := 0, slots := 0, locals := 47 }
abbrev rm_Main_numberOf : Room := { frames := 1, cells := 0, slots := 0, locals := 22 }
abbrev rm_Main_end : Room := { frames := 3, cells := 0, slots := 0, locals := 71 }
abbrev rm_Mod_isWrite : Room := { frames := 0, cells := 0, slots := 0, locals := 0 }
abbrev rm_Mod_writesAhead : Room := { frames := 1, cells := 0, slots := 0, locals := 21 }
abbrev rm_Mod_told : Room := { frames := 0, cells := 0, slots := 0, locals := 0 }
abbrev rm_Mod_plateOf : Room := { frames := 1, cells := 0, slots := 0, locals := 23 }
abbrev rm_Mod_end : Room := { frames := 2, cells := 0, slots := 0, locals := 45 }
abbrev rm_Page_codeIn : Room := { frames := 0, cells := 0, slots := 0, locals := 0 }
abbrev rm_Page_lettersIn : Room := { frames := 1, cells := 0, slots := 0, locals := 22 }
abbrev rm_Page_append : Room := { frames := 1, cells := 0, slots := 0, locals := 22 }
abbrev rm_Main_letters : Room := { frames := 2, cells := 0, slots := 0, locals := 46 }
abbrev rm_Mod_letters : Room := { frames := 0, cells := 0, slots := 0, locals := 0 }
abbrev rm_Main_blank : Room := { frames := 0, cells := 0, slots := 0, locals := 0 }
abbrev rm_Mod_blank : Room := { frames := 0, cells := 0, slots := 0, locals := 0 }
abbrev rm_Text_clear : Room := { frames := 0, cells := 0, slots := 0, locals := 0 }
abbrev rm_Read_begin : Room := { frames := 1, cells := 0, slots := 0, locals := 20 }
abbrev rm_Read_isDigit : Room := { frames := 0, cells := 0, slots := 0, locals := 0 }
abbrev rm_Read_endsComparison : Room := { frames := 1, cells := 0, slots := 0, locals := 20 }
abbrev rm_Text_emit : Room := { frames := 0, cells := 0, slots := 0, locals := 0 }
abbrev rm_Read_closeFactor : Room := { frames := 1, cells := 0, slots := 0, locals := 22 }
abbrev rm_Read_closeComparison : Room := { frames := 2, cells := 0, slots := 0, locals := 42 }
abbrev rm_Read_keep : Room := { frames := 0, cells := 0, slots := 0, locals := 0 }
abbrev rm_Read_isLetter : Room := { frames := 0, cells := 0, slots := 0, locals := 0 }
abbrev rm_Read_takesUnit : Room := { frames := 1, cells := 0, slots := 0, locals := 22 }
abbrev rm_Read_takesFactor : Room := { frames := 2, cells := 0, slots := 0, locals := 44 }
abbrev rm_Text_widen : Room := { frames := 0, cells := 0, slots := 0, locals := 0 }
abbrev rm_Read_takesSecondDigit : Room := { frames := 1, cells := 0, slots := 0, locals := 21 }
abbrev rm_Read_takesBehindUnit : Room := { frames := 0, cells := 0, slots := 0, locals := 0 }
abbrev rm_Read_release : Room := { frames := 1, cells := 0, slots := 0, locals := 22 }
abbrev rm_Read_closeTerms : Room := { frames := 2, cells := 0, slots := 0, locals := 44 }
abbrev rm_Text_endRule : Room := { frames := 0, cells := 0, slots := 0, locals := 0 }
abbrev rm_Read_takesBehindFactor : Room := { frames := 3, cells := 0, slots := 0, locals := 64 }
abbrev rm_Read_takesTarget : Room := { frames := 1, cells := 0, slots := 0, locals := 20 }
abbrev rm_Read_takesEquals : Room := { frames := 0, cells := 0, slots := 0, locals := 0 }
abbrev rm_Read_takes : Room := { frames := 4, cells := 0, slots := 0, locals := 85 }
abbrev rm_Read_goodOf : Room := { frames := 5, cells := 0, slots := 0, locals := 106 }
abbrev rm_Main_good : Room := { frames := 6, cells := 0, slots := 0, locals := 129 }
abbrev rm_Mod_isLetter : Room := { frames := 1, cells := 0, slots := 0, locals := 22 }
abbrev rm_Mod_isDigit : Room := { frames := 1, cells := 0, slots := 0, locals := 22 }
abbrev rm_Mod_isMark : Room := { frames := 1, cells := 0, slots := 0, locals := 22 }
abbrev rm_Mod_next : Room := { frames := 2, cells := 0, slots := 0, locals := 42 }
abbrev rm_Mod_readText : Room := { frames := 3, cells := 0, slots := 0, locals := 70 }
abbrev rm_Mod_good : Room := { frames := 4, cells := 0, slots := 0, locals := 96 }
abbrev rm_Read_isWhole : Room := { frames := 3, cells := 0, slots := 0, locals := 64 }
abbrev rm_Text_copy : Room := { frames := 1, cells := 0, slots := 0, locals := 40 }
abbrev rm_Main_rule : Room := { frames := 6, cells := 0, slots := 0, locals := 129 }
abbrev rm_Mod_rule : Room := { frames := 4, cells := 0, slots := 0, locals := 96 }
abbrev rm_Main_step : Room := { frames := 6, cells := 0, slots := 0, locals := 129 }
abbrev rm_Mod_step : Room := { frames := 4, cells := 0, slots := 0, locals := 96 }
abbrev rm_Main_bare : Room := { frames := 1, cells := 0, slots := 0, locals := 20 }
abbrev rm_Mod_bare : Room := { frames := 0, cells := 0, slots := 0, locals := 0 }
abbrev rm_Main_always : Room := { frames := 1, cells := 0, slots := 0, locals := 21 }
abbrev rm_Mod_always : Room := { frames := 1, cells := 0, slots := 0, locals := 22 }
abbrev rm_Main_isNumberOfPlate : Room := { frames := 0, cells := 0, slots := 0, locals := 0 }
abbrev rm_Main_plateOfNumber : Room := { frames := 0, cells := 0, slots := 0, locals := 0 }
abbrev rm_Main_unpack : Room := { frames := 0, cells := 0, slots := 0, locals := 0 }
abbrev rm_Text_isTrue : Room := { frames := 0, cells := 0, slots := 0, locals := 0 }
abbrev rm_Rule_failingIn : Room := { frames := 1, cells := 0, slots := 0, locals := 27 }
abbrev rm_Main_holds : Room := { frames := 2, cells := 0, slots := 0, locals := 51 }
abbrev rm_Mod_isPlate : Room := { frames := 0, cells := 0, slots := 0, locals := 0 }
abbrev rm_Mod_lay : Room := { frames := 0, cells := 0, slots := 0, locals := 0 }
abbrev rm_Mod_openGroup : Room := { frames := 0, cells := 0, slots := 0, locals := 0 }
abbrev rm_Mod_sign : Room := { frames := 0, cells := 0, slots := 0, locals := 0 }
abbrev rm_Mod_factor : Room := { frames := 0, cells := 0, slots := 0, locals := 0 }
abbrev rm_Mod_sumHere : Room := { frames := 2, cells := 0, slots := 0, locals := 42 }
abbrev rm_Mod_holdsHere : Room := { frames := 3, cells := 0, slots := 0, locals := 67 }
abbrev rm_Mod_holdsNow : Room := { frames := 4, cells := 0, slots := 0, locals := 91 }
abbrev rm_Mod_holds : Room := { frames := 5, cells := 0, slots := 0, locals := 112 }
abbrev rm_Prog_hasBehind : Room := { frames := 0, cells := 0, slots := 0, locals := 0 }
abbrev rm_Prog_behindLastFlush : Room := { frames := 0, cells := 0, slots := 0, locals := 0 }
abbrev rm_Found_addReaching : Room := { frames := 2, cells := 0, slots := 0, locals := 47 }
abbrev rm_Found_gather : Room := { frames := 3, cells := 0, slots := 0, locals := 72 }
abbrev rm_Found_sink : Room := { frames := 0, cells := 0, slots := 0, locals := 0 }
abbrev rm_Found_sort : Room := { frames := 1, cells := 0, slots := 0, locals := 26 }
abbrev rm_Found_dropLike : Room := { frames := 0, cells := 0, slots := 0, locals := 0 }
abbrev rm_Found_fill : Room := { frames := 4, cells := 0, slots := 0, locals := 99 }
abbrev rm_Main_found : Room := { frames := 5, cells := 0, slots := 0, locals := 121 }
abbrev rm_Mod_asActs : Room := { frames := 0, cells := 0, slots := 0, locals := 0 }
abbrev rm_Mod_rulesNow : Room := { frames := 5, cells := 0, slots := 0, locals := 112 }
abbrev rm_Mod_stepNow : Room := { frames := 4, cells := 0, slots := 0, locals := 91 }
abbrev rm_Mod_healed : Room := { frames := 5, cells := 0, slots := 0, locals := 114 }
abbrev rm_Mod_cutAt : Room := { frames := 6, cells := 0, slots := 0, locals := 137 }
abbrev rm_Mod_isSteady : Room := { frames := 7, cells := 0, slots := 0, locals := 161 }
abbrev rm_Mod_layAll : Room := { frames := 8, cells := 0, slots := 0, locals := 187 }
abbrev rm_Mod_putNothing : Room := { frames := 0, cells := 0, slots := 0, locals := 0 }
abbrev rm_Mod_endEpoch : Room := { frames := 0, cells := 0, slots := 0, locals := 0 }
abbrev rm_Mod_cutEpochs : Room := { frames := 1, cells := 0, slots := 0, locals := 22 }
abbrev rm_Mod_asCode : Room := { frames := 0, cells := 0, slots := 0, locals := 0 }
abbrev rm_Mod_findSets : Room := { frames := 2, cells := 0, slots := 0, locals := 48 }
abbrev rm_Mod_findPlates : Room := { frames := 9, cells := 0, slots := 0, locals := 208 }
abbrev rm_Mod_found : Room := { frames := 10, cells := 0, slots := 0, locals := 233 }
abbrev rm_Main_plate : Room := { frames := 5, cells := 0, slots := 0, locals := 121 }
abbrev rm_Mod_plate : Room := { frames := 10, cells := 0, slots := 0, locals := 233 }
abbrev rm_Text_sum : Room := { frames := 0, cells := 0, slots := 0, locals := 0 }
abbrev rm_Main_pack : Room := { frames := 0, cells := 0, slots := 0, locals := 0 }
abbrev rm_Heal_after : Room := { frames := 1, cells := 0, slots := 0, locals := 27 }
abbrev rm_Heal_healed : Room := { frames := 2, cells := 0, slots := 0, locals := 54 }
abbrev rm_Main_heal : Room := { frames := 3, cells := 0, slots := 0, locals := 76 }
abbrev rm_Mod_heal : Room := { frames := 6, cells := 0, slots := 0, locals := 137 }
abbrev rm_Main_cut : Room := { frames := 3, cells := 0, slots := 0, locals := 76 }
abbrev rm_Mod_cut : Room := { frames := 7, cells := 0, slots := 0, locals := 161 }
abbrev rm_Heal_isSteady : Room := { frames := 2, cells := 0, slots := 0, locals := 54 }
abbrev rm_Main_steady : Room := { frames := 3, cells := 0, slots := 0, locals := 83 }
abbrev rm_Mod_steady : Room := { frames := 8, cells := 0, slots := 0, locals := 187 }
abbrev rm_Act_sectorBits : Room := { frames := 0, cells := 0, slots := 0, locals := 0 }
abbrev rm_Prog_shownOf : Room := { frames := 1, cells := 0, slots := 0, locals := 20 }
abbrev rm_Verd_of : Room := { frames := 3, cells := 0, slots := 0, locals := 83 }
abbrev rm_Main_kept : Room := { frames := 5, cells := 0, slots := 0, locals := 121 }
abbrev rm_Mod_kept : Room := { frames := 10, cells := 0, slots := 0, locals := 233 }
abbrev rm_Prog_dueAt : Room := { frames := 0, cells := 0, slots := 0, locals := 0 }
abbrev rm_Main_broken : Room := { frames := 5, cells := 0, slots := 0, locals := 121 }
abbrev rm_Mod_dueAt : Room := { frames := 0, cells := 0, slots := 0, locals := 0 }
abbrev rm_Mod_isBroken : Room := { frames := 0, cells := 0, slots := 0, locals := 0 }
abbrev rm_Mod_broken : Room := { frames := 10, cells := 0, slots := 0, locals := 233 }
abbrev rm_Main_bounds : Room := { frames := 5, cells := 0, slots := 0, locals := 121 }
abbrev rm_Mod_bounds : Room := { frames := 10, cells := 0, slots := 0, locals := 233 }
abbrev rm_JInt_bitCount : Room := { frames := 0, cells := 0, slots := 0, locals := 0 }
abbrev rm_Main_nextSet : Room := { frames := 0, cells := 0, slots := 0, locals := 0 }
abbrev rm_Verd_ofEach : Room := { frames := 4, cells := 0, slots := 0, locals := 111 }
abbrev rm_Act_endsEpoch : Room := { frames := 0, cells := 0, slots := 0, locals := 0 }
abbrev rm_Verd_firstBroken : Room := { frames := 5, cells := 0, slots := 0, locals := 137 }
abbrev rm_Main_safe : Room := { frames := 6, cells := 0, slots := 0, locals := 165 }
abbrev rm_Mod_isSafe : Room := { frames := 3, cells := 0, slots := 0, locals := 76 }
abbrev rm_Mod_safe : Room := { frames := 9, cells := 0, slots := 0, locals := 208 }
abbrev rm_Main_leastBroken : Room := { frames := 4, cells := 0, slots := 0, locals := 111 }
abbrev rm_Main_shortest : Room := { frames := 6, cells := 0, slots := 0, locals := 165 }
abbrev rm_Mod_leastSet : Room := { frames := 1, cells := 0, slots := 0, locals := 23 }
abbrev rm_Mod_shortest : Room := { frames := 10, cells := 0, slots := 0, locals := 233 }
abbrev rm_Main_cost : Room := { frames := 0, cells := 0, slots := 0, locals := 0 }
abbrev rm_Mod_cost : Room := { frames := 1, cells := 0, slots := 0, locals := 22 }
abbrev rm_Plac_weigh : Room := { frames := 5, cells := 0, slots := 0, locals := 137 }
abbrev rm_JArr_fill : Room := { frames := 0, cells := 0, slots := 0, locals := 0 }
abbrev rm_Plac_putOf : Room := { frames := 0, cells := 0, slots := 0, locals := 0 }
abbrev rm_Plac_isBetter : Room := { frames := 0, cells := 0, slots := 0, locals := 0 }
abbrev rm_Plac_isSafe : Room := { frames := 1, cells := 0, slots := 0, locals := 20 }
abbrev rm_Plac_goOn : Room := { frames := 0, cells := 0, slots := 0, locals := 0 }
abbrev rm_Plac_search : Room := { frames := 2, cells := 0, slots := 0, locals := 48 }
abbrev rm_Plac_behind : Room := { frames := 0, cells := 0, slots := 0, locals := 0 }
abbrev rm_Main_fewest : Room := { frames := 6, cells := 0, slots := 0, locals := 164 }
abbrev rm_Mod_putBy : Room := { frames := 1, cells := 0, slots := 0, locals := 21 }
abbrev rm_Mod_fewest : Room := { frames := 9, cells := 0, slots := 0, locals := 208 }
abbrev rm_Main_needless : Room := { frames := 6, cells := 0, slots := 0, locals := 165 }
abbrev rm_Mod_needless : Room := { frames := 9, cells := 0, slots := 0, locals := 208 }
abbrev rm_Prog_isWrite : Room := { frames := 1, cells := 0, slots := 0, locals := 21 }
abbrev rm_Prog_epochStart : Room := { frames := 1, cells := 0, slots := 0, locals := 20 }
abbrev rm_Prog_epochEnd : Room := { frames := 1, cells := 0, slots := 0, locals := 20 }
abbrev rm_Main_order : Room := { frames := 4, cells := 0, slots := 0, locals := 111 }
abbrev rm_Mod_isWriteAt : Room := { frames := 1, cells := 0, slots := 0, locals := 22 }
abbrev rm_Mod_countOrder : Room := { frames := 1, cells := 0, slots := 0, locals := 23 }
abbrev rm_Mod_order : Room := { frames := 9, cells := 0, slots := 0, locals := 208 }
abbrev rm_Prog_epochsWithWrites : Room := { frames := 1, cells := 0, slots := 0, locals := 20 }
abbrev rm_Main_count : Room := { frames := 3, cells := 0, slots := 0, locals := 64 }
abbrev rm_Mod_epochsWithWrites : Room := { frames := 1, cells := 0, slots := 0, locals := 21 }
abbrev rm_Mod_writeMany : Room := { frames := 1, cells := 0, slots := 0, locals := 21 }
abbrev rm_Mod_countOf : Room := { frames := 2, cells := 0, slots := 0, locals := 44 }
abbrev rm_Mod_count : Room := { frames := 3, cells := 0, slots := 0, locals := 65 }
abbrev rm_Main_mix : Room := { frames := 0, cells := 0, slots := 0, locals := 0 }
abbrev rm_Main_digestProgram : Room := { frames := 3, cells := 0, slots := 0, locals := 71 }
abbrev rm_Main_digest : Room := { frames := 5, cells := 0, slots := 0, locals := 121 }
abbrev rm_Mod_mix : Room := { frames := 0, cells := 0, slots := 0, locals := 0 }
abbrev rm_Mod_digest : Room := { frames := 10, cells := 0, slots := 0, locals := 233 }
theorem rf_Act_laidOn_Main_withFigure : RF rm_Act_laidOn rm_Main_withFigure 4 := ⟨rfl, rfl, Nat.le_of_ble_eq_true rfl, Nat.le_of_ble_eq_true rfl⟩
theorem rf_Found_addReaching_Act_laidOn : RF rm_Found_addReaching rm_Act_laidOn 5 := ⟨rfl, rfl, Nat.le_of_ble_eq_true rfl, Nat.le_of_ble_eq_true rfl⟩
theorem rf_Found_fill_Found_dropLike : RF rm_Found_fill rm_Found_dropLike 3 := ⟨rfl, rfl, Nat.le_of_ble_eq_true rfl, Nat.le_of_ble_eq_true rfl⟩
theorem rf_Found_fill_Found_gather : RF rm_Found_fill rm_Found_gather 8 := ⟨rfl, rfl, Nat.le_of_ble_eq_true rfl, Nat.le_of_ble_eq_true rfl⟩
theorem rf_Found_fill_Found_sort : RF rm_Found_fill rm_Found_sort 3 := ⟨rfl, rfl, Nat.le_of_ble_eq_true rfl, Nat.le_of_ble_eq_true rfl⟩
theorem rf_Found_gather_Act_writes : RF rm_Found_gather rm_Act_writes 1 := ⟨rfl, rfl, Nat.le_of_ble_eq_true rfl, Nat.le_of_ble_eq_true rfl⟩
theorem rf_Found_gather_Found_addReaching : RF rm_Found_gather rm_Found_addReaching 6 := ⟨rfl, rfl, Nat.le_of_ble_eq_true rfl, Nat.le_of_ble_eq_true rfl⟩
theorem rf_Found_gather_Prog_behindLastFlush : RF rm_Found_gather rm_Prog_behindLastFlush 3 := ⟨rfl, rfl, Nat.le_of_ble_eq_true rfl, Nat.le_of_ble_eq_true rfl⟩
theorem rf_Found_gather_Prog_plateOf : RF rm_Found_gather rm_Prog_plateOf 5 := ⟨rfl, rfl, Nat.le_of_ble_eq_true rfl, Nat.le_of_ble_eq_true rfl⟩
theorem rf_Found_gather_Prog_writesWithin : RF rm_Found_gather rm_Prog_writesWithin 5 := ⟨rfl, rfl, Nat.le_of_ble_eq_true rfl, Nat.le_of_ble_eq_true rfl⟩
theorem rf_Found_sort_Found_sink : RF rm_Found_sort rm_Found_sink 7 := ⟨rfl, rfl, Nat.le_of_ble_eq_true rfl, Nat.le_of_ble_eq_true rfl⟩
theorem rf_Heal_after_Main_isFigure : RF rm_Heal_after rm_Main_isFigure 1 := ⟨rfl, rfl, Nat.le_of_ble_eq_true rfl, Nat.le_of_ble_eq_true rfl⟩
theorem rf_Heal_after_Main_pack : RF rm_Heal_after rm_Main_pack 4 := ⟨rfl, rfl, Nat.le_of_ble_eq_true rfl, Nat.le_of_ble_eq_true rfl⟩
theorem rf_Heal_after_Main_unpack : RF rm_Heal_after rm_Main_unpack 4 := ⟨rfl, rfl, Nat.le_of_ble_eq_true rfl, Nat.le_of_ble_eq_true rfl⟩
theorem rf_Heal_after_Text_isTrue : RF rm_Heal_after rm_Text_isTrue 8 := ⟨rfl, rfl, Nat.le_of_ble_eq_true rfl, Nat.le_of_ble_eq_true rfl⟩
theorem rf_Heal_after_Text_sum : RF rm_Heal_after rm_Text_sum 6 := ⟨rfl, rfl, Nat.le_of_ble_eq_true rfl, Nat.le_of_ble_eq_true rfl⟩
theorem rf_Heal_healed_Heal_after : RF rm_Heal_healed rm_Heal_after 8 := ⟨rfl, rfl, Nat.le_of_ble_eq_true rfl, Nat.le_of_ble_eq_true rfl⟩
theorem rf_Heal_isSteady_Heal_after : RF rm_Heal_isSteady rm_Heal_after 8 := ⟨rfl, rfl, Nat.le_of_ble_eq_true rfl, Nat.le_of_ble_eq_true rfl⟩
theorem rf_Main_act_Act_part : RF rm_Main_act rm_Act_part 2 := ⟨rfl, rfl, Nat.le_of_ble_eq_true rfl, Nat.le_of_ble_eq_true rfl⟩
theorem rf_Main_act_Prog_has : RF rm_Main_act rm_Prog_has 2 := ⟨rfl, rfl, Nat.le_of_ble_eq_true rfl, Nat.le_of_ble_eq_true rfl⟩
theorem rf_Main_addAct_Act_become : RF rm_Main_addAct rm_Act_become 6 := ⟨rfl, rfl, Nat.le_of_ble_eq_true rfl, Nat.le_of_ble_eq_true rfl⟩
theorem rf_Main_addAct_Main_forgetFound : RF rm_Main_addAct rm_Main_forgetFound 1 := ⟨rfl, rfl, Nat.le_of_ble_eq_true rfl, Nat.le_of_ble_eq_true rfl⟩
theorem rf_Main_always_Rule_has : RF rm_Main_always rm_Rule_has 2 := ⟨rfl, rfl, Nat.le_of_ble_eq_true rfl, Nat.le_of_ble_eq_true rfl⟩
theorem rf_Main_bare_Verd_forget : RF rm_Main_bare rm_Verd_forget 1 := ⟨rfl, rfl, Nat.le_of_ble_eq_true rfl, Nat.le_of_ble_eq_true rfl⟩
theorem rf_Main_barrier_Main_addAct : RF rm_Main_barrier rm_Main_addAct 6 := ⟨rfl, rfl, Nat.le_of_ble_eq_true rfl, Nat.le_of_ble_eq_true rfl⟩
theorem rf_Main_bounds_Found_fill : RF rm_Main_bounds rm_Found_fill 3 := ⟨rfl, rfl, Nat.le_of_ble_eq_true rfl, Nat.le_of_ble_eq_true rfl⟩
theorem rf_Main_bounds_Main_figureOf : RF rm_Main_bounds rm_Main_figureOf 3 := ⟨rfl, rfl, Nat.le_of_ble_eq_true rfl, Nat.le_of_ble_eq_true rfl⟩
theorem rf_Main_bounds_Main_isSector : RF rm_Main_bounds rm_Main_isSector 1 := ⟨rfl, rfl, Nat.le_of_ble_eq_true rfl, Nat.le_of_ble_eq_true rfl⟩
theorem rf_Main_bounds_Prog_hasBehind : RF rm_Main_bounds rm_Prog_hasBehind 2 := ⟨rfl, rfl, Nat.le_of_ble_eq_true rfl, Nat.le_of_ble_eq_true rfl⟩
theorem rf_Main_broken_Found_fill : RF rm_Main_broken rm_Found_fill 3 := ⟨rfl, rfl, Nat.le_of_ble_eq_true rfl, Nat.le_of_ble_eq_true rfl⟩
theorem rf_Main_broken_Prog_dueAt : RF rm_Main_broken rm_Prog_dueAt 5 := ⟨rfl, rfl, Nat.le_of_ble_eq_true rfl, Nat.le_of_ble_eq_true rfl⟩
theorem rf_Main_broken_Prog_hasBehind : RF rm_Main_broken rm_Prog_hasBehind 2 := ⟨rfl, rfl, Nat.le_of_ble_eq_true rfl, Nat.le_of_ble_eq_true rfl⟩
theorem rf_Main_broken_Verd_of : RF rm_Main_broken rm_Verd_of 9 := ⟨rfl, rfl, Nat.le_of_ble_eq_true rfl, Nat.le_of_ble_eq_true rfl⟩
theorem rf_Main_count_JInt_bitCount : RF rm_Main_count rm_JInt_bitCount 1 := ⟨rfl, rfl, Nat.le_of_ble_eq_true rfl, Nat.le_of_ble_eq_true rfl⟩
theorem rf_Main_count_Prog_epochsWithWrites : RF rm_Main_count rm_Prog_epochsWithWrites 4 := ⟨rfl, rfl, Nat.le_of_ble_eq_true rfl, Nat.le_of_ble_eq_true rfl⟩
theorem rf_Main_count_Prog_writes : RF rm_Main_count rm_Prog_writes 1 := ⟨rfl, rfl, Nat.le_of_ble_eq_true rfl, Nat.le_of_ble_eq_true rfl⟩
theorem rf_Main_cut_Heal_after : RF rm_Main_cut rm_Heal_after 8 := ⟨rfl, rfl, Nat.le_of_ble_eq_true rfl, Nat.le_of_ble_eq_true rfl⟩
theorem rf_Main_cut_Heal_healed : RF rm_Main_cut rm_Heal_healed 3 := ⟨rfl, rfl, Nat.le_of_ble_eq_true rfl, Nat.le_of_ble_eq_true rfl⟩
theorem rf_Main_cut_Main_isNumberOfPlate : RF rm_Main_cut rm_Main_isNumberOfPlate 2 := ⟨rfl, rfl, Nat.le_of_ble_eq_true rfl, Nat.le_of_ble_eq_true rfl⟩
theorem rf_Main_cut_Main_numberOf : RF rm_Main_cut rm_Main_numberOf 5 := ⟨rfl, rfl, Nat.le_of_ble_eq_true rfl, Nat.le_of_ble_eq_true rfl⟩
theorem rf_Main_cut_Main_plateOfNumber : RF rm_Main_cut rm_Main_plateOfNumber 7 := ⟨rfl, rfl, Nat.le_of_ble_eq_true rfl, Nat.le_of_ble_eq_true rfl⟩
theorem rf_Main_digest_Found_fill : RF rm_Main_digest rm_Found_fill 3 := ⟨rfl, rfl, Nat.le_of_ble_eq_true rfl, Nat.le_of_ble_eq_true rfl⟩
theorem rf_Main_digest_Heal_healed : RF rm_Main_digest rm_Heal_healed 3 := ⟨rfl, rfl, Nat.le_of_ble_eq_true rfl, Nat.le_of_ble_eq_true rfl⟩
theorem rf_Main_digest_Main_count : RF rm_Main_digest rm_Main_count 2 := ⟨rfl, rfl, Nat.le_of_ble_eq_true rfl, Nat.le_of_ble_eq_true rfl⟩
theorem rf_Main_digest_Main_digestProgram : RF rm_Main_digest rm_Main_digestProgram 7 := ⟨rfl, rfl, Nat.le_of_ble_eq_true rfl, Nat.le_of_ble_eq_true rfl⟩
theorem rf_Main_digest_Main_mix : RF rm_Main_digest rm_Main_mix 4 := ⟨rfl, rfl, Nat.le_of_ble_eq_true rfl, Nat.le_of_ble_eq_true rfl⟩
theorem rf_Main_digest_Main_numberOf : RF rm_Main_digest rm_Main_numberOf 5 := ⟨rfl, rfl, Nat.le_of_ble_eq_true rfl, Nat.le_of_ble_eq_true rfl⟩
theorem rf_Main_digest_Rule_failingIn : RF rm_Main_digest rm_Rule_failingIn 5 := ⟨rfl, rfl, Nat.le_of_ble_eq_true rfl, Nat.le_of_ble_eq_true rfl⟩
theorem rf_Main_digestProgram_Act_part : RF rm_Main_digestProgram rm_Act_part 2 := ⟨rfl, rfl, Nat.le_of_ble_eq_true rfl, Nat.le_of_ble_eq_true rfl⟩
theorem rf_Main_digestProgram_Main_mix : RF rm_Main_digestProgram rm_Main_mix 4 := ⟨rfl, rfl, Nat.le_of_ble_eq_true rfl, Nat.le_of_ble_eq_true rfl⟩
theorem rf_Main_digestProgram_Main_numberOf : RF rm_Main_digestProgram rm_Main_numberOf 5 := ⟨rfl, rfl, Nat.le_of_ble_eq_true rfl, Nat.le_of_ble_eq_true rfl⟩
theorem rf_Main_digestProgram_Prog_plateOf : RF rm_Main_digestProgram rm_Prog_plateOf 5 := ⟨rfl, rfl, Nat.le_of_ble_eq_true rfl, Nat.le_of_ble_eq_true rfl⟩
theorem rf_Main_digestProgram_Prog_writes : RF rm_Main_digestProgram rm_Prog_writes 1 := ⟨rfl, rfl, Nat.le_of_ble_eq_true rfl, Nat.le_of_ble_eq_true rfl⟩
theorem rf_Main_end_Main_numberOf : RF rm_Main_end rm_Main_numberOf 5 := ⟨rfl, rfl, Nat.le_of_ble_eq_true rfl, Nat.le_of_ble_eq_true rfl⟩
theorem rf_Main_end_Prog_plateOf : RF rm_Main_end rm_Prog_plateOf 5 := ⟨rfl, rfl, Nat.le_of_ble_eq_true rfl, Nat.le_of_ble_eq_true rfl⟩
theorem rf_Main_end_Prog_writes : RF rm_Main_end rm_Prog_writes 1 := ⟨rfl, rfl, Nat.le_of_ble_eq_true rfl, Nat.le_of_ble_eq_true rfl⟩
theorem rf_Main_fewest_Plac_behind : RF rm_Main_fewest rm_Plac_behind 2 := ⟨rfl, rfl, Nat.le_of_ble_eq_true rfl, Nat.le_of_ble_eq_true rfl⟩
theorem rf_Main_fewest_Plac_search : RF rm_Main_fewest rm_Plac_search 10 := ⟨rfl, rfl, Nat.le_of_ble_eq_true rfl, Nat.le_of_ble_eq_true rfl⟩
theorem rf_Main_fewest_Plac_weigh : RF rm_Main_fewest rm_Plac_weigh 8 := ⟨rfl, rfl, Nat.le_of_ble_eq_true rfl, Nat.le_of_ble_eq_true rfl⟩
theorem rf_Main_flush_Main_addAct : RF rm_Main_flush rm_Main_addAct 6 := ⟨rfl, rfl, Nat.le_of_ble_eq_true rfl, Nat.le_of_ble_eq_true rfl⟩
theorem rf_Main_forgetFound_Found_forget : RF rm_Main_forgetFound rm_Found_forget 1 := ⟨rfl, rfl, Nat.le_of_ble_eq_true rfl, Nat.le_of_ble_eq_true rfl⟩
theorem rf_Main_forgetFound_Verd_forget : RF rm_Main_forgetFound rm_Verd_forget 1 := ⟨rfl, rfl, Nat.le_of_ble_eq_true rfl, Nat.le_of_ble_eq_true rfl⟩
theorem rf_Main_found_Found_fill : RF rm_Main_found rm_Found_fill 3 := ⟨rfl, rfl, Nat.le_of_ble_eq_true rfl, Nat.le_of_ble_eq_true rfl⟩
theorem rf_Main_found_Prog_hasBehind : RF rm_Main_found rm_Prog_hasBehind 2 := ⟨rfl, rfl, Nat.le_of_ble_eq_true rfl, Nat.le_of_ble_eq_true rfl⟩
theorem rf_Main_good_Read_goodOf : RF rm_Main_good rm_Read_goodOf 4 := ⟨rfl, rfl, Nat.le_of_ble_eq_true rfl, Nat.le_of_ble_eq_true rfl⟩
theorem rf_Main_heal_Heal_healed : RF rm_Main_heal rm_Heal_healed 3 := ⟨rfl, rfl, Nat.le_of_ble_eq_true rfl, Nat.le_of_ble_eq_true rfl⟩
theorem rf_Main_heal_Main_isNumberOfPlate : RF rm_Main_heal rm_Main_isNumberOfPlate 2 := ⟨rfl, rfl, Nat.le_of_ble_eq_true rfl, Nat.le_of_ble_eq_true rfl⟩
theorem rf_Main_heal_Main_numberOf : RF rm_Main_heal rm_Main_numberOf 5 := ⟨rfl, rfl, Nat.le_of_ble_eq_true rfl, Nat.le_of_ble_eq_true rfl⟩
theorem rf_Main_heal_Main_plateOfNumber : RF rm_Main_heal rm_Main_plateOfNumber 7 := ⟨rfl, rfl, Nat.le_of_ble_eq_true rfl, Nat.le_of_ble_eq_true rfl⟩
theorem rf_Main_holds_Main_isNumberOfPlate : RF rm_Main_holds rm_Main_isNumberOfPlate 2 := ⟨rfl, rfl, Nat.le_of_ble_eq_true rfl, Nat.le_of_ble_eq_true rfl⟩
theorem rf_Main_holds_Main_plateOfNumber : RF rm_Main_holds rm_Main_plateOfNumber 7 := ⟨rfl, rfl, Nat.le_of_ble_eq_true rfl, Nat.le_of_ble_eq_true rfl⟩
theorem rf_Main_holds_Rule_failingIn : RF rm_Main_holds rm_Rule_failingIn 5 := ⟨rfl, rfl, Nat.le_of_ble_eq_true rfl, Nat.le_of_ble_eq_true rfl⟩
theorem rf_Main_holds_Rule_has : RF rm_Main_holds rm_Rule_has 2 := ⟨rfl, rfl, Nat.le_of_ble_eq_true rfl, Nat.le_of_ble_eq_true rfl⟩
theorem rf_Main_kept_Found_fill : RF rm_Main_kept rm_Found_fill 3 := ⟨rfl, rfl, Nat.le_of_ble_eq_true rfl, Nat.le_of_ble_eq_true rfl⟩
theorem rf_Main_kept_Prog_hasBehind : RF rm_Main_kept rm_Prog_hasBehind 2 := ⟨rfl, rfl, Nat.le_of_ble_eq_true rfl, Nat.le_of_ble_eq_true rfl⟩
theorem rf_Main_kept_Rule_failingIn : RF rm_Main_kept rm_Rule_failingIn 5 := ⟨rfl, rfl, Nat.le_of_ble_eq_true rfl, Nat.le_of_ble_eq_true rfl⟩
theorem rf_Main_kept_Rule_has : RF rm_Main_kept rm_Rule_has 2 := ⟨rfl, rfl, Nat.le_of_ble_eq_true rfl, Nat.le_of_ble_eq_true rfl⟩
theorem rf_Main_kept_Verd_of : RF rm_Main_kept rm_Verd_of 9 := ⟨rfl, rfl, Nat.le_of_ble_eq_true rfl, Nat.le_of_ble_eq_true rfl⟩
theorem rf_Main_leastBroken_Prog_dueAt : RF rm_Main_leastBroken rm_Prog_dueAt 5 := ⟨rfl, rfl, Nat.le_of_ble_eq_true rfl, Nat.le_of_ble_eq_true rfl⟩
theorem rf_Main_leastBroken_Verd_of : RF rm_Main_leastBroken rm_Verd_of 9 := ⟨rfl, rfl, Nat.le_of_ble_eq_true rfl, Nat.le_of_ble_eq_true rfl⟩
theorem rf_Main_letters_Page_append : RF rm_Main_letters rm_Page_append 5 := ⟨rfl, rfl, Nat.le_of_ble_eq_true rfl, Nat.le_of_ble_eq_true rfl⟩
theorem rf_Main_letters_Page_lettersIn : RF rm_Main_letters rm_Page_lettersIn 5 := ⟨rfl, rfl, Nat.le_of_ble_eq_true rfl, Nat.le_of_ble_eq_true rfl⟩
theorem rf_Main_needless_Prog_plateOf : RF rm_Main_needless rm_Prog_plateOf 5 := ⟨rfl, rfl, Nat.le_of_ble_eq_true rfl, Nat.le_of_ble_eq_true rfl⟩
theorem rf_Main_needless_Prog_writes : RF rm_Main_needless rm_Prog_writes 1 := ⟨rfl, rfl, Nat.le_of_ble_eq_true rfl, Nat.le_of_ble_eq_true rfl⟩
theorem rf_Main_needless_Verd_firstBroken : RF rm_Main_needless rm_Verd_firstBroken 9 := ⟨rfl, rfl, Nat.le_of_ble_eq_true rfl, Nat.le_of_ble_eq_true rfl⟩
theorem rf_Main_numberOf_Main_figureOf : RF rm_Main_numberOf rm_Main_figureOf 3 := ⟨rfl, rfl, Nat.le_of_ble_eq_true rfl, Nat.le_of_ble_eq_true rfl⟩
theorem rf_Main_order_JInt_bitCount : RF rm_Main_order rm_JInt_bitCount 1 := ⟨rfl, rfl, Nat.le_of_ble_eq_true rfl, Nat.le_of_ble_eq_true rfl⟩
theorem rf_Main_order_Main_nextSet : RF rm_Main_order rm_Main_nextSet 2 := ⟨rfl, rfl, Nat.le_of_ble_eq_true rfl, Nat.le_of_ble_eq_true rfl⟩
theorem rf_Main_order_Prog_behindLastFlush : RF rm_Main_order rm_Prog_behindLastFlush 3 := ⟨rfl, rfl, Nat.le_of_ble_eq_true rfl, Nat.le_of_ble_eq_true rfl⟩
theorem rf_Main_order_Prog_epochEnd : RF rm_Main_order rm_Prog_epochEnd 3 := ⟨rfl, rfl, Nat.le_of_ble_eq_true rfl, Nat.le_of_ble_eq_true rfl⟩
theorem rf_Main_order_Prog_epochStart : RF rm_Main_order rm_Prog_epochStart 3 := ⟨rfl, rfl, Nat.le_of_ble_eq_true rfl, Nat.le_of_ble_eq_true rfl⟩
theorem rf_Main_order_Prog_isWrite : RF rm_Main_order rm_Prog_isWrite 2 := ⟨rfl, rfl, Nat.le_of_ble_eq_true rfl, Nat.le_of_ble_eq_true rfl⟩
theorem rf_Main_order_Prog_writesWithin : RF rm_Main_order rm_Prog_writesWithin 5 := ⟨rfl, rfl, Nat.le_of_ble_eq_true rfl, Nat.le_of_ble_eq_true rfl⟩
theorem rf_Main_order_Rule_has : RF rm_Main_order rm_Rule_has 2 := ⟨rfl, rfl, Nat.le_of_ble_eq_true rfl, Nat.le_of_ble_eq_true rfl⟩
theorem rf_Main_order_Verd_of : RF rm_Main_order rm_Verd_of 9 := ⟨rfl, rfl, Nat.le_of_ble_eq_true rfl, Nat.le_of_ble_eq_true rfl⟩
theorem rf_Main_plate_Found_fill : RF rm_Main_plate rm_Found_fill 3 := ⟨rfl, rfl, Nat.le_of_ble_eq_true rfl, Nat.le_of_ble_eq_true rfl⟩
theorem rf_Main_plate_Main_numberOf : RF rm_Main_plate rm_Main_numberOf 5 := ⟨rfl, rfl, Nat.le_of_ble_eq_true rfl, Nat.le_of_ble_eq_true rfl⟩
theorem rf_Main_plate_Prog_hasBehind : RF rm_Main_plate rm_Prog_hasBehind 2 := ⟨rfl, rfl, Nat.le_of_ble_eq_true rfl, Nat.le_of_ble_eq_true rfl⟩
theorem rf_Main_rule_Read_goodOf : RF rm_Main_rule rm_Read_goodOf 4 := ⟨rfl, rfl, Nat.le_of_ble_eq_true rfl, Nat.le_of_ble_eq_true rfl⟩
theorem rf_Main_rule_Read_isWhole : RF rm_Main_rule rm_Read_isWhole 2 := ⟨rfl, rfl, Nat.le_of_ble_eq_true rfl, Nat.le_of_ble_eq_true rfl⟩
theorem rf_Main_rule_Text_copy : RF rm_Main_rule rm_Text_copy 2 := ⟨rfl, rfl, Nat.le_of_ble_eq_true rfl, Nat.le_of_ble_eq_true rfl⟩
theorem rf_Main_rule_Verd_forget : RF rm_Main_rule rm_Verd_forget 1 := ⟨rfl, rfl, Nat.le_of_ble_eq_true rfl, Nat.le_of_ble_eq_true rfl⟩
theorem rf_Main_safe_Prog_writes : RF rm_Main_safe rm_Prog_writes 1 := ⟨rfl, rfl, Nat.le_of_ble_eq_true rfl, Nat.le_of_ble_eq_true rfl⟩
theorem rf_Main_safe_Verd_firstBroken : RF rm_Main_safe rm_Verd_firstBroken 9 := ⟨rfl, rfl, Nat.le_of_ble_eq_true rfl, Nat.le_of_ble_eq_true rfl⟩
theorem rf_Main_sector_Main_figureOf : RF rm_Main_sector rm_Main_figureOf 3 := ⟨rfl, rfl, Nat.le_of_ble_eq_true rfl, Nat.le_of_ble_eq_true rfl⟩
theorem rf_Main_sector_Main_forgetFound : RF rm_Main_sector rm_Main_forgetFound 1 := ⟨rfl, rfl, Nat.le_of_ble_eq_true rfl, Nat.le_of_ble_eq_true rfl⟩
theorem rf_Main_sector_Main_isFigure : RF rm_Main_sector rm_Main_isFigure 1 := ⟨rfl, rfl, Nat.le_of_ble_eq_true rfl, Nat.le_of_ble_eq_true rfl⟩
theorem rf_Main_sector_Main_isSector : RF rm_Main_sector rm_Main_isSector 1 := ⟨rfl, rfl, Nat.le_of_ble_eq_true rfl, Nat.le_of_ble_eq_true rfl⟩
theorem rf_Main_sector_Main_withFigure : RF rm_Main_sector rm_Main_withFigure 4 := ⟨rfl, rfl, Nat.le_of_ble_eq_true rfl, Nat.le_of_ble_eq_true rfl⟩
theorem rf_Main_shortest_Found_fill : RF rm_Main_shortest rm_Found_fill 3 := ⟨rfl, rfl, Nat.le_of_ble_eq_true rfl, Nat.le_of_ble_eq_true rfl⟩
theorem rf_Main_shortest_Heal_healed : RF rm_Main_shortest rm_Heal_healed 3 := ⟨rfl, rfl, Nat.le_of_ble_eq_true rfl, Nat.le_of_ble_eq_true rfl⟩
theorem rf_Main_shortest_Main_leastBroken : RF rm_Main_shortest rm_Main_leastBroken 4 := ⟨rfl, rfl, Nat.le_of_ble_eq_true rfl, Nat.le_of_ble_eq_true rfl⟩
theorem rf_Main_shortest_Main_numberOf : RF rm_Main_shortest rm_Main_numberOf 5 := ⟨rfl, rfl, Nat.le_of_ble_eq_true rfl, Nat.le_of_ble_eq_true rfl⟩
theorem rf_Main_shortest_Prog_writes : RF rm_Main_shortest rm_Prog_writes 1 := ⟨rfl, rfl, Nat.le_of_ble_eq_true rfl, Nat.le_of_ble_eq_true rfl⟩
theorem rf_Main_shortest_Verd_firstBroken : RF rm_Main_shortest rm_Verd_firstBroken 9 := ⟨rfl, rfl, Nat.le_of_ble_eq_true rfl, Nat.le_of_ble_eq_true rfl⟩
theorem rf_Main_steady_Heal_healed : RF rm_Main_steady rm_Heal_healed 3 := ⟨rfl, rfl, Nat.le_of_ble_eq_true rfl, Nat.le_of_ble_eq_true rfl⟩
theorem rf_Main_steady_Heal_isSteady : RF rm_Main_steady rm_Heal_isSteady 10 := ⟨rfl, rfl, Nat.le_of_ble_eq_true rfl, Nat.le_of_ble_eq_true rfl⟩
theorem rf_Main_steady_Main_isNumberOfPlate : RF rm_Main_steady rm_Main_isNumberOfPlate 2 := ⟨rfl, rfl, Nat.le_of_ble_eq_true rfl, Nat.le_of_ble_eq_true rfl⟩
theorem rf_Main_steady_Main_plateOfNumber : RF rm_Main_steady rm_Main_plateOfNumber 7 := ⟨rfl, rfl, Nat.le_of_ble_eq_true rfl, Nat.le_of_ble_eq_true rfl⟩
theorem rf_Main_step_Read_goodOf : RF rm_Main_step rm_Read_goodOf 4 := ⟨rfl, rfl, Nat.le_of_ble_eq_true rfl, Nat.le_of_ble_eq_true rfl⟩
theorem rf_Main_step_Read_isWhole : RF rm_Main_step rm_Read_isWhole 2 := ⟨rfl, rfl, Nat.le_of_ble_eq_true rfl, Nat.le_of_ble_eq_true rfl⟩
theorem rf_Main_step_Text_copy : RF rm_Main_step rm_Text_copy 2 := ⟨rfl, rfl, Nat.le_of_ble_eq_true rfl, Nat.le_of_ble_eq_true rfl⟩
theorem rf_Main_step_Verd_forget : RF rm_Main_step rm_Verd_forget 1 := ⟨rfl, rfl, Nat.le_of_ble_eq_true rfl, Nat.le_of_ble_eq_true rfl⟩
theorem rf_Main_swap_Main_forgetFound : RF rm_Main_swap rm_Main_forgetFound 1 := ⟨rfl, rfl, Nat.le_of_ble_eq_true rfl, Nat.le_of_ble_eq_true rfl⟩
theorem rf_Main_swap_Prog_exchange : RF rm_Main_swap rm_Prog_exchange 4 := ⟨rfl, rfl, Nat.le_of_ble_eq_true rfl, Nat.le_of_ble_eq_true rfl⟩
theorem rf_Main_swap_Prog_has : RF rm_Main_swap rm_Prog_has 2 := ⟨rfl, rfl, Nat.le_of_ble_eq_true rfl, Nat.le_of_ble_eq_true rfl⟩
theorem rf_Main_tell_Main_addAct : RF rm_Main_tell rm_Main_addAct 6 := ⟨rfl, rfl, Nat.le_of_ble_eq_true rfl, Nat.le_of_ble_eq_true rfl⟩
theorem rf_Main_tell_Rule_has : RF rm_Main_tell rm_Rule_has 2 := ⟨rfl, rfl, Nat.le_of_ble_eq_true rfl, Nat.le_of_ble_eq_true rfl⟩
theorem rf_Main_undo_Main_forgetFound : RF rm_Main_undo rm_Main_forgetFound 1 := ⟨rfl, rfl, Nat.le_of_ble_eq_true rfl, Nat.le_of_ble_eq_true rfl⟩
theorem rf_Main_whole_Main_addAct : RF rm_Main_whole rm_Main_addAct 6 := ⟨rfl, rfl, Nat.le_of_ble_eq_true rfl, Nat.le_of_ble_eq_true rfl⟩
theorem rf_Main_whole_Main_isFigure : RF rm_Main_whole rm_Main_isFigure 1 := ⟨rfl, rfl, Nat.le_of_ble_eq_true rfl, Nat.le_of_ble_eq_true rfl⟩
theorem rf_Main_whole_Main_isSector : RF rm_Main_whole rm_Main_isSector 1 := ⟨rfl, rfl, Nat.le_of_ble_eq_true rfl, Nat.le_of_ble_eq_true rfl⟩
theorem rf_Main_write_Main_addAct : RF rm_Main_write rm_Main_addAct 6 := ⟨rfl, rfl, Nat.le_of_ble_eq_true rfl, Nat.le_of_ble_eq_true rfl⟩
theorem rf_Main_write_Main_isFigure : RF rm_Main_write rm_Main_isFigure 1 := ⟨rfl, rfl, Nat.le_of_ble_eq_true rfl, Nat.le_of_ble_eq_true rfl⟩
theorem rf_Main_write_Main_isSector : RF rm_Main_write rm_Main_isSector 1 := ⟨rfl, rfl, Nat.le_of_ble_eq_true rfl, Nat.le_of_ble_eq_true rfl⟩
theorem rf_Mod_act_Mod_in : RF rm_Mod_act rm_Mod_in 3 := ⟨rfl, rfl, Nat.le_of_ble_eq_true rfl, Nat.le_of_ble_eq_true rfl⟩
theorem rf_Mod_always_Mod_in : RF rm_Mod_always rm_Mod_in 3 := ⟨rfl, rfl, Nat.le_of_ble_eq_true rfl, Nat.le_of_ble_eq_true rfl⟩
theorem rf_Mod_barrier_Mod_come : RF rm_Mod_barrier rm_Mod_come 6 := ⟨rfl, rfl, Nat.le_of_ble_eq_true rfl, Nat.le_of_ble_eq_true rfl⟩
theorem rf_Mod_bounds_Mod_findPlates : RF rm_Mod_bounds rm_Mod_findPlates 6 := ⟨rfl, rfl, Nat.le_of_ble_eq_true rfl, Nat.le_of_ble_eq_true rfl⟩
theorem rf_Mod_bounds_Mod_in : RF rm_Mod_bounds rm_Mod_in 3 := ⟨rfl, rfl, Nat.le_of_ble_eq_true rfl, Nat.le_of_ble_eq_true rfl⟩
theorem rf_Mod_bounds_Mod_isSector : RF rm_Mod_bounds rm_Mod_isSector 1 := ⟨rfl, rfl, Nat.le_of_ble_eq_true rfl, Nat.le_of_ble_eq_true rfl⟩
theorem rf_Mod_bounds_Mod_lay : RF rm_Mod_bounds rm_Mod_lay 6 := ⟨rfl, rfl, Nat.le_of_ble_eq_true rfl, Nat.le_of_ble_eq_true rfl⟩
theorem rf_Mod_broken_Mod_dueAt : RF rm_Mod_broken rm_Mod_dueAt 4 := ⟨rfl, rfl, Nat.le_of_ble_eq_true rfl, Nat.le_of_ble_eq_true rfl⟩
theorem rf_Mod_broken_Mod_findPlates : RF rm_Mod_broken rm_Mod_findPlates 6 := ⟨rfl, rfl, Nat.le_of_ble_eq_true rfl, Nat.le_of_ble_eq_true rfl⟩
theorem rf_Mod_broken_Mod_in : RF rm_Mod_broken rm_Mod_in 3 := ⟨rfl, rfl, Nat.le_of_ble_eq_true rfl, Nat.le_of_ble_eq_true rfl⟩
theorem rf_Mod_broken_Mod_isBroken : RF rm_Mod_broken rm_Mod_isBroken 3 := ⟨rfl, rfl, Nat.le_of_ble_eq_true rfl, Nat.le_of_ble_eq_true rfl⟩
theorem rf_Mod_cost_Mod_in : RF rm_Mod_cost rm_Mod_in 3 := ⟨rfl, rfl, Nat.le_of_ble_eq_true rfl, Nat.le_of_ble_eq_true rfl⟩
theorem rf_Mod_count_Mod_countOf : RF rm_Mod_count rm_Mod_countOf 2 := ⟨rfl, rfl, Nat.le_of_ble_eq_true rfl, Nat.le_of_ble_eq_true rfl⟩
theorem rf_Mod_countOf_Mod_epochsWithWrites : RF rm_Mod_countOf rm_Mod_epochsWithWrites 4 := ⟨rfl, rfl, Nat.le_of_ble_eq_true rfl, Nat.le_of_ble_eq_true rfl⟩
theorem rf_Mod_countOf_Mod_writeMany : RF rm_Mod_countOf rm_Mod_writeMany 3 := ⟨rfl, rfl, Nat.le_of_ble_eq_true rfl, Nat.le_of_ble_eq_true rfl⟩
theorem rf_Mod_countOrder_Mod_asCode : RF rm_Mod_countOrder rm_Mod_asCode 4 := ⟨rfl, rfl, Nat.le_of_ble_eq_true rfl, Nat.le_of_ble_eq_true rfl⟩
theorem rf_Mod_cut_Mod_cutAt : RF rm_Mod_cut rm_Mod_cutAt 5 := ⟨rfl, rfl, Nat.le_of_ble_eq_true rfl, Nat.le_of_ble_eq_true rfl⟩
theorem rf_Mod_cut_Mod_in : RF rm_Mod_cut rm_Mod_in 3 := ⟨rfl, rfl, Nat.le_of_ble_eq_true rfl, Nat.le_of_ble_eq_true rfl⟩
theorem rf_Mod_cut_Mod_isPlate : RF rm_Mod_cut rm_Mod_isPlate 2 := ⟨rfl, rfl, Nat.le_of_ble_eq_true rfl, Nat.le_of_ble_eq_true rfl⟩
theorem rf_Mod_cutAt_Mod_healed : RF rm_Mod_cutAt rm_Mod_healed 4 := ⟨rfl, rfl, Nat.le_of_ble_eq_true rfl, Nat.le_of_ble_eq_true rfl⟩
theorem rf_Mod_cutAt_Mod_lay : RF rm_Mod_cutAt rm_Mod_lay 6 := ⟨rfl, rfl, Nat.le_of_ble_eq_true rfl, Nat.le_of_ble_eq_true rfl⟩
theorem rf_Mod_cutAt_Mod_stepNow : RF rm_Mod_cutAt rm_Mod_stepNow 4 := ⟨rfl, rfl, Nat.le_of_ble_eq_true rfl, Nat.le_of_ble_eq_true rfl⟩
theorem rf_Mod_cutAt_Mod_told : RF rm_Mod_cutAt rm_Mod_told 4 := ⟨rfl, rfl, Nat.le_of_ble_eq_true rfl, Nat.le_of_ble_eq_true rfl⟩
theorem rf_Mod_cutEpochs_Mod_endEpoch : RF rm_Mod_cutEpochs rm_Mod_endEpoch 3 := ⟨rfl, rfl, Nat.le_of_ble_eq_true rfl, Nat.le_of_ble_eq_true rfl⟩
theorem rf_Mod_cutEpochs_Mod_isWrite : RF rm_Mod_cutEpochs rm_Mod_isWrite 2 := ⟨rfl, rfl, Nat.le_of_ble_eq_true rfl, Nat.le_of_ble_eq_true rfl⟩
theorem rf_Mod_digest_Mod_countOf : RF rm_Mod_digest rm_Mod_countOf 2 := ⟨rfl, rfl, Nat.le_of_ble_eq_true rfl, Nat.le_of_ble_eq_true rfl⟩
theorem rf_Mod_digest_Mod_end : RF rm_Mod_digest rm_Mod_end 1 := ⟨rfl, rfl, Nat.le_of_ble_eq_true rfl, Nat.le_of_ble_eq_true rfl⟩
theorem rf_Mod_digest_Mod_findPlates : RF rm_Mod_digest rm_Mod_findPlates 6 := ⟨rfl, rfl, Nat.le_of_ble_eq_true rfl, Nat.le_of_ble_eq_true rfl⟩
theorem rf_Mod_digest_Mod_healed : RF rm_Mod_digest rm_Mod_healed 4 := ⟨rfl, rfl, Nat.le_of_ble_eq_true rfl, Nat.le_of_ble_eq_true rfl⟩
theorem rf_Mod_digest_Mod_holdsNow : RF rm_Mod_digest rm_Mod_holdsNow 2 := ⟨rfl, rfl, Nat.le_of_ble_eq_true rfl, Nat.le_of_ble_eq_true rfl⟩
theorem rf_Mod_digest_Mod_lay : RF rm_Mod_digest rm_Mod_lay 6 := ⟨rfl, rfl, Nat.le_of_ble_eq_true rfl, Nat.le_of_ble_eq_true rfl⟩
theorem rf_Mod_digest_Mod_mix : RF rm_Mod_digest rm_Mod_mix 3 := ⟨rfl, rfl, Nat.le_of_ble_eq_true rfl, Nat.le_of_ble_eq_true rfl⟩
theorem rf_Mod_digest_Mod_plateOf : RF rm_Mod_digest rm_Mod_plateOf 3 := ⟨rfl, rfl, Nat.le_of_ble_eq_true rfl, Nat.le_of_ble_eq_true rfl⟩
theorem rf_Mod_end_Mod_plateOf : RF rm_Mod_end rm_Mod_plateOf 3 := ⟨rfl, rfl, Nat.le_of_ble_eq_true rfl, Nat.le_of_ble_eq_true rfl⟩
theorem rf_Mod_end_Mod_writesAhead : RF rm_Mod_end rm_Mod_writesAhead 4 := ⟨rfl, rfl, Nat.le_of_ble_eq_true rfl, Nat.le_of_ble_eq_true rfl⟩
theorem rf_Mod_epochsWithWrites_Mod_isWrite : RF rm_Mod_epochsWithWrites rm_Mod_isWrite 2 := ⟨rfl, rfl, Nat.le_of_ble_eq_true rfl, Nat.le_of_ble_eq_true rfl⟩
theorem rf_Mod_fewest_Mod_in : RF rm_Mod_fewest rm_Mod_in 3 := ⟨rfl, rfl, Nat.le_of_ble_eq_true rfl, Nat.le_of_ble_eq_true rfl⟩
theorem rf_Mod_fewest_Mod_isSafe : RF rm_Mod_fewest rm_Mod_isSafe 5 := ⟨rfl, rfl, Nat.le_of_ble_eq_true rfl, Nat.le_of_ble_eq_true rfl⟩
theorem rf_Mod_fewest_Mod_layAll : RF rm_Mod_fewest rm_Mod_layAll 2 := ⟨rfl, rfl, Nat.le_of_ble_eq_true rfl, Nat.le_of_ble_eq_true rfl⟩
theorem rf_Mod_fewest_Mod_putBy : RF rm_Mod_fewest rm_Mod_putBy 4 := ⟨rfl, rfl, Nat.le_of_ble_eq_true rfl, Nat.le_of_ble_eq_true rfl⟩
theorem rf_Mod_findPlates_Mod_findSets : RF rm_Mod_findPlates rm_Mod_findSets 9 := ⟨rfl, rfl, Nat.le_of_ble_eq_true rfl, Nat.le_of_ble_eq_true rfl⟩
theorem rf_Mod_findPlates_Mod_layAll : RF rm_Mod_findPlates rm_Mod_layAll 2 := ⟨rfl, rfl, Nat.le_of_ble_eq_true rfl, Nat.le_of_ble_eq_true rfl⟩
theorem rf_Mod_findPlates_Mod_putNothing : RF rm_Mod_findPlates rm_Mod_putNothing 2 := ⟨rfl, rfl, Nat.le_of_ble_eq_true rfl, Nat.le_of_ble_eq_true rfl⟩
theorem rf_Mod_findSets_Mod_asCode : RF rm_Mod_findSets rm_Mod_asCode 4 := ⟨rfl, rfl, Nat.le_of_ble_eq_true rfl, Nat.le_of_ble_eq_true rfl⟩
theorem rf_Mod_findSets_Mod_cutEpochs : RF rm_Mod_findSets rm_Mod_cutEpochs 7 := ⟨rfl, rfl, Nat.le_of_ble_eq_true rfl, Nat.le_of_ble_eq_true rfl⟩
theorem rf_Mod_flush_Mod_come : RF rm_Mod_flush rm_Mod_come 6 := ⟨rfl, rfl, Nat.le_of_ble_eq_true rfl, Nat.le_of_ble_eq_true rfl⟩
theorem rf_Mod_found_Mod_findPlates : RF rm_Mod_found rm_Mod_findPlates 6 := ⟨rfl, rfl, Nat.le_of_ble_eq_true rfl, Nat.le_of_ble_eq_true rfl⟩
theorem rf_Mod_found_Mod_in : RF rm_Mod_found rm_Mod_in 3 := ⟨rfl, rfl, Nat.le_of_ble_eq_true rfl, Nat.le_of_ble_eq_true rfl⟩
theorem rf_Mod_good_Mod_in : RF rm_Mod_good rm_Mod_in 3 := ⟨rfl, rfl, Nat.le_of_ble_eq_true rfl, Nat.le_of_ble_eq_true rfl⟩
theorem rf_Mod_good_Mod_readText : RF rm_Mod_good rm_Mod_readText 7 := ⟨rfl, rfl, Nat.le_of_ble_eq_true rfl, Nat.le_of_ble_eq_true rfl⟩
theorem rf_Mod_heal_Mod_healed : RF rm_Mod_heal rm_Mod_healed 4 := ⟨rfl, rfl, Nat.le_of_ble_eq_true rfl, Nat.le_of_ble_eq_true rfl⟩
theorem rf_Mod_heal_Mod_isPlate : RF rm_Mod_heal rm_Mod_isPlate 2 := ⟨rfl, rfl, Nat.le_of_ble_eq_true rfl, Nat.le_of_ble_eq_true rfl⟩
theorem rf_Mod_healed_Mod_lay : RF rm_Mod_healed rm_Mod_lay 6 := ⟨rfl, rfl, Nat.le_of_ble_eq_true rfl, Nat.le_of_ble_eq_true rfl⟩
theorem rf_Mod_healed_Mod_stepNow : RF rm_Mod_healed rm_Mod_stepNow 4 := ⟨rfl, rfl, Nat.le_of_ble_eq_true rfl, Nat.le_of_ble_eq_true rfl⟩
theorem rf_Mod_healed_Mod_told : RF rm_Mod_healed rm_Mod_told 4 := ⟨rfl, rfl, Nat.le_of_ble_eq_true rfl, Nat.le_of_ble_eq_true rfl⟩
theorem rf_Mod_holds_Mod_holdsNow : RF rm_Mod_holds rm_Mod_holdsNow 2 := ⟨rfl, rfl, Nat.le_of_ble_eq_true rfl, Nat.le_of_ble_eq_true rfl⟩
theorem rf_Mod_holds_Mod_in : RF rm_Mod_holds rm_Mod_in 3 := ⟨rfl, rfl, Nat.le_of_ble_eq_true rfl, Nat.le_of_ble_eq_true rfl⟩
theorem rf_Mod_holds_Mod_isPlate : RF rm_Mod_holds rm_Mod_isPlate 2 := ⟨rfl, rfl, Nat.le_of_ble_eq_true rfl, Nat.le_of_ble_eq_true rfl⟩
theorem rf_Mod_holds_Mod_lay : RF rm_Mod_holds rm_Mod_lay 6 := ⟨rfl, rfl, Nat.le_of_ble_eq_true rfl, Nat.le_of_ble_eq_true rfl⟩
theorem rf_Mod_holdsHere_Mod_factor : RF rm_Mod_holdsHere rm_Mod_factor 2 := ⟨rfl, rfl, Nat.le_of_ble_eq_true rfl, Nat.le_of_ble_eq_true rfl⟩
theorem rf_Mod_holdsHere_Mod_openGroup : RF rm_Mod_holdsHere rm_Mod_openGroup 1 := ⟨rfl, rfl, Nat.le_of_ble_eq_true rfl, Nat.le_of_ble_eq_true rfl⟩
theorem rf_Mod_holdsHere_Mod_sign : RF rm_Mod_holdsHere rm_Mod_sign 1 := ⟨rfl, rfl, Nat.le_of_ble_eq_true rfl, Nat.le_of_ble_eq_true rfl⟩
theorem rf_Mod_holdsHere_Mod_sumHere : RF rm_Mod_holdsHere rm_Mod_sumHere 6 := ⟨rfl, rfl, Nat.le_of_ble_eq_true rfl, Nat.le_of_ble_eq_true rfl⟩
theorem rf_Mod_holdsNow_Mod_holdsHere : RF rm_Mod_holdsNow rm_Mod_holdsHere 5 := ⟨rfl, rfl, Nat.le_of_ble_eq_true rfl, Nat.le_of_ble_eq_true rfl⟩
theorem rf_Mod_isDigit_Mod_in : RF rm_Mod_isDigit rm_Mod_in 3 := ⟨rfl, rfl, Nat.le_of_ble_eq_true rfl, Nat.le_of_ble_eq_true rfl⟩
theorem rf_Mod_isLetter_Mod_in : RF rm_Mod_isLetter rm_Mod_in 3 := ⟨rfl, rfl, Nat.le_of_ble_eq_true rfl, Nat.le_of_ble_eq_true rfl⟩
theorem rf_Mod_isMark_Mod_in : RF rm_Mod_isMark rm_Mod_in 3 := ⟨rfl, rfl, Nat.le_of_ble_eq_true rfl, Nat.le_of_ble_eq_true rfl⟩
theorem rf_Mod_isNumber_Mod_in : RF rm_Mod_isNumber rm_Mod_in 3 := ⟨rfl, rfl, Nat.le_of_ble_eq_true rfl, Nat.le_of_ble_eq_true rfl⟩
theorem rf_Mod_isSafe_Mod_dueAt : RF rm_Mod_isSafe rm_Mod_dueAt 4 := ⟨rfl, rfl, Nat.le_of_ble_eq_true rfl, Nat.le_of_ble_eq_true rfl⟩
theorem rf_Mod_isSafe_Mod_findSets : RF rm_Mod_isSafe rm_Mod_findSets 9 := ⟨rfl, rfl, Nat.le_of_ble_eq_true rfl, Nat.le_of_ble_eq_true rfl⟩
theorem rf_Mod_isSafe_Mod_isBroken : RF rm_Mod_isSafe rm_Mod_isBroken 3 := ⟨rfl, rfl, Nat.le_of_ble_eq_true rfl, Nat.le_of_ble_eq_true rfl⟩
theorem rf_Mod_isSector_Mod_in : RF rm_Mod_isSector rm_Mod_in 3 := ⟨rfl, rfl, Nat.le_of_ble_eq_true rfl, Nat.le_of_ble_eq_true rfl⟩
theorem rf_Mod_isSteady_Mod_cutAt : RF rm_Mod_isSteady rm_Mod_cutAt 5 := ⟨rfl, rfl, Nat.le_of_ble_eq_true rfl, Nat.le_of_ble_eq_true rfl⟩
theorem rf_Mod_isSteady_Mod_healed : RF rm_Mod_isSteady rm_Mod_healed 4 := ⟨rfl, rfl, Nat.le_of_ble_eq_true rfl, Nat.le_of_ble_eq_true rfl⟩
theorem rf_Mod_isWriteAt_Mod_in : RF rm_Mod_isWriteAt rm_Mod_in 3 := ⟨rfl, rfl, Nat.le_of_ble_eq_true rfl, Nat.le_of_ble_eq_true rfl⟩
theorem rf_Mod_isWriteAt_Mod_isWrite : RF rm_Mod_isWriteAt rm_Mod_isWrite 2 := ⟨rfl, rfl, Nat.le_of_ble_eq_true rfl, Nat.le_of_ble_eq_true rfl⟩
theorem rf_Mod_kept_Mod_findPlates : RF rm_Mod_kept rm_Mod_findPlates 6 := ⟨rfl, rfl, Nat.le_of_ble_eq_true rfl, Nat.le_of_ble_eq_true rfl⟩
theorem rf_Mod_kept_Mod_in : RF rm_Mod_kept rm_Mod_in 3 := ⟨rfl, rfl, Nat.le_of_ble_eq_true rfl, Nat.le_of_ble_eq_true rfl⟩
theorem rf_Mod_layAll_Mod_asActs : RF rm_Mod_layAll rm_Mod_asActs 4 := ⟨rfl, rfl, Nat.le_of_ble_eq_true rfl, Nat.le_of_ble_eq_true rfl⟩
theorem rf_Mod_layAll_Mod_healed : RF rm_Mod_layAll rm_Mod_healed 4 := ⟨rfl, rfl, Nat.le_of_ble_eq_true rfl, Nat.le_of_ble_eq_true rfl⟩
theorem rf_Mod_layAll_Mod_isSteady : RF rm_Mod_layAll rm_Mod_isSteady 7 := ⟨rfl, rfl, Nat.le_of_ble_eq_true rfl, Nat.le_of_ble_eq_true rfl⟩
theorem rf_Mod_layAll_Mod_isWrite : RF rm_Mod_layAll rm_Mod_isWrite 2 := ⟨rfl, rfl, Nat.le_of_ble_eq_true rfl, Nat.le_of_ble_eq_true rfl⟩
theorem rf_Mod_layAll_Mod_lay : RF rm_Mod_layAll rm_Mod_lay 6 := ⟨rfl, rfl, Nat.le_of_ble_eq_true rfl, Nat.le_of_ble_eq_true rfl⟩
theorem rf_Mod_layAll_Mod_plateOf : RF rm_Mod_layAll rm_Mod_plateOf 3 := ⟨rfl, rfl, Nat.le_of_ble_eq_true rfl, Nat.le_of_ble_eq_true rfl⟩
theorem rf_Mod_layAll_Mod_rulesNow : RF rm_Mod_layAll rm_Mod_rulesNow 3 := ⟨rfl, rfl, Nat.le_of_ble_eq_true rfl, Nat.le_of_ble_eq_true rfl⟩
theorem rf_Mod_leastSet_Mod_asActs : RF rm_Mod_leastSet rm_Mod_asActs 4 := ⟨rfl, rfl, Nat.le_of_ble_eq_true rfl, Nat.le_of_ble_eq_true rfl⟩
theorem rf_Mod_needless_Mod_end : RF rm_Mod_needless rm_Mod_end 1 := ⟨rfl, rfl, Nat.le_of_ble_eq_true rfl, Nat.le_of_ble_eq_true rfl⟩
theorem rf_Mod_needless_Mod_isSafe : RF rm_Mod_needless rm_Mod_isSafe 5 := ⟨rfl, rfl, Nat.le_of_ble_eq_true rfl, Nat.le_of_ble_eq_true rfl⟩
theorem rf_Mod_needless_Mod_isWrite : RF rm_Mod_needless rm_Mod_isWrite 2 := ⟨rfl, rfl, Nat.le_of_ble_eq_true rfl, Nat.le_of_ble_eq_true rfl⟩
theorem rf_Mod_needless_Mod_layAll : RF rm_Mod_needless rm_Mod_layAll 2 := ⟨rfl, rfl, Nat.le_of_ble_eq_true rfl, Nat.le_of_ble_eq_true rfl⟩
theorem rf_Mod_needless_Mod_plateOf : RF rm_Mod_needless rm_Mod_plateOf 3 := ⟨rfl, rfl, Nat.le_of_ble_eq_true rfl, Nat.le_of_ble_eq_true rfl⟩
theorem rf_Mod_needless_Mod_putNothing : RF rm_Mod_needless rm_Mod_putNothing 2 := ⟨rfl, rfl, Nat.le_of_ble_eq_true rfl, Nat.le_of_ble_eq_true rfl⟩
theorem rf_Mod_needless_Mod_writesAhead : RF rm_Mod_needless rm_Mod_writesAhead 4 := ⟨rfl, rfl, Nat.le_of_ble_eq_true rfl, Nat.le_of_ble_eq_true rfl⟩
theorem rf_Mod_next_Mod_in : RF rm_Mod_next rm_Mod_in 3 := ⟨rfl, rfl, Nat.le_of_ble_eq_true rfl, Nat.le_of_ble_eq_true rfl⟩
theorem rf_Mod_next_Mod_isDigit : RF rm_Mod_next rm_Mod_isDigit 1 := ⟨rfl, rfl, Nat.le_of_ble_eq_true rfl, Nat.le_of_ble_eq_true rfl⟩
theorem rf_Mod_next_Mod_isLetter : RF rm_Mod_next rm_Mod_isLetter 1 := ⟨rfl, rfl, Nat.le_of_ble_eq_true rfl, Nat.le_of_ble_eq_true rfl⟩
theorem rf_Mod_next_Mod_isMark : RF rm_Mod_next rm_Mod_isMark 1 := ⟨rfl, rfl, Nat.le_of_ble_eq_true rfl, Nat.le_of_ble_eq_true rfl⟩
theorem rf_Mod_order_Mod_countOrder : RF rm_Mod_order rm_Mod_countOrder 11 := ⟨rfl, rfl, Nat.le_of_ble_eq_true rfl, Nat.le_of_ble_eq_true rfl⟩
theorem rf_Mod_order_Mod_cutEpochs : RF rm_Mod_order rm_Mod_cutEpochs 7 := ⟨rfl, rfl, Nat.le_of_ble_eq_true rfl, Nat.le_of_ble_eq_true rfl⟩
theorem rf_Mod_order_Mod_in : RF rm_Mod_order rm_Mod_in 3 := ⟨rfl, rfl, Nat.le_of_ble_eq_true rfl, Nat.le_of_ble_eq_true rfl⟩
theorem rf_Mod_order_Mod_isWriteAt : RF rm_Mod_order rm_Mod_isWriteAt 2 := ⟨rfl, rfl, Nat.le_of_ble_eq_true rfl, Nat.le_of_ble_eq_true rfl⟩
theorem rf_Mod_order_Mod_layAll : RF rm_Mod_order rm_Mod_layAll 2 := ⟨rfl, rfl, Nat.le_of_ble_eq_true rfl, Nat.le_of_ble_eq_true rfl⟩
theorem rf_Mod_order_Mod_putNothing : RF rm_Mod_order rm_Mod_putNothing 2 := ⟨rfl, rfl, Nat.le_of_ble_eq_true rfl, Nat.le_of_ble_eq_true rfl⟩
theorem rf_Mod_plate_Mod_findPlates : RF rm_Mod_plate rm_Mod_findPlates 6 := ⟨rfl, rfl, Nat.le_of_ble_eq_true rfl, Nat.le_of_ble_eq_true rfl⟩
theorem rf_Mod_plate_Mod_in : RF rm_Mod_plate rm_Mod_in 3 := ⟨rfl, rfl, Nat.le_of_ble_eq_true rfl, Nat.le_of_ble_eq_true rfl⟩
theorem rf_Mod_plateOf_Mod_told : RF rm_Mod_plateOf rm_Mod_told 4 := ⟨rfl, rfl, Nat.le_of_ble_eq_true rfl, Nat.le_of_ble_eq_true rfl⟩
theorem rf_Mod_putBy_Mod_putNothing : RF rm_Mod_putBy rm_Mod_putNothing 2 := ⟨rfl, rfl, Nat.le_of_ble_eq_true rfl, Nat.le_of_ble_eq_true rfl⟩
theorem rf_Mod_readText_Mod_in : RF rm_Mod_readText rm_Mod_in 3 := ⟨rfl, rfl, Nat.le_of_ble_eq_true rfl, Nat.le_of_ble_eq_true rfl⟩
theorem rf_Mod_readText_Mod_next : RF rm_Mod_readText rm_Mod_next 9 := ⟨rfl, rfl, Nat.le_of_ble_eq_true rfl, Nat.le_of_ble_eq_true rfl⟩
theorem rf_Mod_rule_Mod_readText : RF rm_Mod_rule rm_Mod_readText 7 := ⟨rfl, rfl, Nat.le_of_ble_eq_true rfl, Nat.le_of_ble_eq_true rfl⟩
theorem rf_Mod_rulesNow_Mod_holdsNow : RF rm_Mod_rulesNow rm_Mod_holdsNow 2 := ⟨rfl, rfl, Nat.le_of_ble_eq_true rfl, Nat.le_of_ble_eq_true rfl⟩
theorem rf_Mod_safe_Mod_isSafe : RF rm_Mod_safe rm_Mod_isSafe 5 := ⟨rfl, rfl, Nat.le_of_ble_eq_true rfl, Nat.le_of_ble_eq_true rfl⟩
theorem rf_Mod_safe_Mod_layAll : RF rm_Mod_safe rm_Mod_layAll 2 := ⟨rfl, rfl, Nat.le_of_ble_eq_true rfl, Nat.le_of_ble_eq_true rfl⟩
theorem rf_Mod_safe_Mod_putNothing : RF rm_Mod_safe rm_Mod_putNothing 2 := ⟨rfl, rfl, Nat.le_of_ble_eq_true rfl, Nat.le_of_ble_eq_true rfl⟩
theorem rf_Mod_sector_Mod_isNumber : RF rm_Mod_sector rm_Mod_isNumber 1 := ⟨rfl, rfl, Nat.le_of_ble_eq_true rfl, Nat.le_of_ble_eq_true rfl⟩
theorem rf_Mod_sector_Mod_isSector : RF rm_Mod_sector rm_Mod_isSector 1 := ⟨rfl, rfl, Nat.le_of_ble_eq_true rfl, Nat.le_of_ble_eq_true rfl⟩
theorem rf_Mod_shortest_Mod_dueAt : RF rm_Mod_shortest rm_Mod_dueAt 4 := ⟨rfl, rfl, Nat.le_of_ble_eq_true rfl, Nat.le_of_ble_eq_true rfl⟩
theorem rf_Mod_shortest_Mod_findPlates : RF rm_Mod_shortest rm_Mod_findPlates 6 := ⟨rfl, rfl, Nat.le_of_ble_eq_true rfl, Nat.le_of_ble_eq_true rfl⟩
theorem rf_Mod_shortest_Mod_in : RF rm_Mod_shortest rm_Mod_in 3 := ⟨rfl, rfl, Nat.le_of_ble_eq_true rfl, Nat.le_of_ble_eq_true rfl⟩
theorem rf_Mod_shortest_Mod_isBroken : RF rm_Mod_shortest rm_Mod_isBroken 3 := ⟨rfl, rfl, Nat.le_of_ble_eq_true rfl, Nat.le_of_ble_eq_true rfl⟩
theorem rf_Mod_shortest_Mod_leastSet : RF rm_Mod_shortest rm_Mod_leastSet 7 := ⟨rfl, rfl, Nat.le_of_ble_eq_true rfl, Nat.le_of_ble_eq_true rfl⟩
theorem rf_Mod_steady_Mod_isPlate : RF rm_Mod_steady rm_Mod_isPlate 2 := ⟨rfl, rfl, Nat.le_of_ble_eq_true rfl, Nat.le_of_ble_eq_true rfl⟩
theorem rf_Mod_steady_Mod_isSteady : RF rm_Mod_steady rm_Mod_isSteady 7 := ⟨rfl, rfl, Nat.le_of_ble_eq_true rfl, Nat.le_of_ble_eq_true rfl⟩
theorem rf_Mod_step_Mod_readText : RF rm_Mod_step rm_Mod_readText 7 := ⟨rfl, rfl, Nat.le_of_ble_eq_true rfl, Nat.le_of_ble_eq_true rfl⟩
theorem rf_Mod_stepNow_Mod_holdsHere : RF rm_Mod_stepNow rm_Mod_holdsHere 5 := ⟨rfl, rfl, Nat.le_of_ble_eq_true rfl, Nat.le_of_ble_eq_true rfl⟩
theorem rf_Mod_stepNow_Mod_isNumber : RF rm_Mod_stepNow rm_Mod_isNumber 1 := ⟨rfl, rfl, Nat.le_of_ble_eq_true rfl, Nat.le_of_ble_eq_true rfl⟩
theorem rf_Mod_stepNow_Mod_sumHere : RF rm_Mod_stepNow rm_Mod_sumHere 6 := ⟨rfl, rfl, Nat.le_of_ble_eq_true rfl, Nat.le_of_ble_eq_true rfl⟩
theorem rf_Mod_sumHere_Mod_isDigit : RF rm_Mod_sumHere rm_Mod_isDigit 1 := ⟨rfl, rfl, Nat.le_of_ble_eq_true rfl, Nat.le_of_ble_eq_true rfl⟩
theorem rf_Mod_sumHere_Mod_isLetter : RF rm_Mod_sumHere rm_Mod_isLetter 1 := ⟨rfl, rfl, Nat.le_of_ble_eq_true rfl, Nat.le_of_ble_eq_true rfl⟩
theorem rf_Mod_sumHere_Mod_sign : RF rm_Mod_sumHere rm_Mod_sign 1 := ⟨rfl, rfl, Nat.le_of_ble_eq_true rfl, Nat.le_of_ble_eq_true rfl⟩
theorem rf_Mod_swap_Mod_in : RF rm_Mod_swap rm_Mod_in 3 := ⟨rfl, rfl, Nat.le_of_ble_eq_true rfl, Nat.le_of_ble_eq_true rfl⟩
theorem rf_Mod_tell_Mod_come : RF rm_Mod_tell rm_Mod_come 6 := ⟨rfl, rfl, Nat.le_of_ble_eq_true rfl, Nat.le_of_ble_eq_true rfl⟩
theorem rf_Mod_tell_Mod_in : RF rm_Mod_tell rm_Mod_in 3 := ⟨rfl, rfl, Nat.le_of_ble_eq_true rfl, Nat.le_of_ble_eq_true rfl⟩
theorem rf_Mod_whole_Mod_come : RF rm_Mod_whole rm_Mod_come 6 := ⟨rfl, rfl, Nat.le_of_ble_eq_true rfl, Nat.le_of_ble_eq_true rfl⟩
theorem rf_Mod_whole_Mod_isNumber : RF rm_Mod_whole rm_Mod_isNumber 1 := ⟨rfl, rfl, Nat.le_of_ble_eq_true rfl, Nat.le_of_ble_eq_true rfl⟩
theorem rf_Mod_whole_Mod_isSector : RF rm_Mod_whole rm_Mod_isSector 1 := ⟨rfl, rfl, Nat.le_of_ble_eq_true rfl, Nat.le_of_ble_eq_true rfl⟩
theorem rf_Mod_write_Mod_come : RF rm_Mod_write rm_Mod_come 6 := ⟨rfl, rfl, Nat.le_of_ble_eq_true rfl, Nat.le_of_ble_eq_true rfl⟩
theorem rf_Mod_write_Mod_isNumber : RF rm_Mod_write rm_Mod_isNumber 1 := ⟨rfl, rfl, Nat.le_of_ble_eq_true rfl, Nat.le_of_ble_eq_true rfl⟩
theorem rf_Mod_write_Mod_isSector : RF rm_Mod_write rm_Mod_isSector 1 := ⟨rfl, rfl, Nat.le_of_ble_eq_true rfl, Nat.le_of_ble_eq_true rfl⟩
theorem rf_Mod_writeMany_Mod_isWrite : RF rm_Mod_writeMany rm_Mod_isWrite 2 := ⟨rfl, rfl, Nat.le_of_ble_eq_true rfl, Nat.le_of_ble_eq_true rfl⟩
theorem rf_Mod_writesAhead_Mod_isWrite : RF rm_Mod_writesAhead rm_Mod_isWrite 2 := ⟨rfl, rfl, Nat.le_of_ble_eq_true rfl, Nat.le_of_ble_eq_true rfl⟩
theorem rf_Page_append_Page_codeIn : RF rm_Page_append rm_Page_codeIn 3 := ⟨rfl, rfl, Nat.le_of_ble_eq_true rfl, Nat.le_of_ble_eq_true rfl⟩
theorem rf_Page_lettersIn_Page_codeIn : RF rm_Page_lettersIn rm_Page_codeIn 3 := ⟨rfl, rfl, Nat.le_of_ble_eq_true rfl, Nat.le_of_ble_eq_true rfl⟩
theorem rf_Plac_isSafe_Act_endsEpoch : RF rm_Plac_isSafe rm_Act_endsEpoch 1 := ⟨rfl, rfl, Nat.le_of_ble_eq_true rfl, Nat.le_of_ble_eq_true rfl⟩
theorem rf_Plac_search_JArr_fill : RF rm_Plac_search rm_JArr_fill 4 := ⟨rfl, rfl, Nat.le_of_ble_eq_true rfl, Nat.le_of_ble_eq_true rfl⟩
theorem rf_Plac_search_Plac_goOn : RF rm_Plac_search rm_Plac_goOn 2 := ⟨rfl, rfl, Nat.le_of_ble_eq_true rfl, Nat.le_of_ble_eq_true rfl⟩
theorem rf_Plac_search_Plac_isBetter : RF rm_Plac_search rm_Plac_isBetter 3 := ⟨rfl, rfl, Nat.le_of_ble_eq_true rfl, Nat.le_of_ble_eq_true rfl⟩
theorem rf_Plac_search_Plac_isSafe : RF rm_Plac_search rm_Plac_isSafe 9 := ⟨rfl, rfl, Nat.le_of_ble_eq_true rfl, Nat.le_of_ble_eq_true rfl⟩
theorem rf_Plac_search_Plac_putOf : RF rm_Plac_search rm_Plac_putOf 4 := ⟨rfl, rfl, Nat.le_of_ble_eq_true rfl, Nat.le_of_ble_eq_true rfl⟩
theorem rf_Plac_weigh_Act_writes : RF rm_Plac_weigh rm_Act_writes 1 := ⟨rfl, rfl, Nat.le_of_ble_eq_true rfl, Nat.le_of_ble_eq_true rfl⟩
theorem rf_Plac_weigh_Prog_writesWithin : RF rm_Plac_weigh rm_Prog_writesWithin 5 := ⟨rfl, rfl, Nat.le_of_ble_eq_true rfl, Nat.le_of_ble_eq_true rfl⟩
theorem rf_Plac_weigh_Verd_of : RF rm_Plac_weigh rm_Verd_of 9 := ⟨rfl, rfl, Nat.le_of_ble_eq_true rfl, Nat.le_of_ble_eq_true rfl⟩
theorem rf_Plac_weigh_Verd_ofEach : RF rm_Plac_weigh rm_Verd_ofEach 7 := ⟨rfl, rfl, Nat.le_of_ble_eq_true rfl, Nat.le_of_ble_eq_true rfl⟩
theorem rf_Prog_epochEnd_Act_endsEpoch : RF rm_Prog_epochEnd rm_Act_endsEpoch 1 := ⟨rfl, rfl, Nat.le_of_ble_eq_true rfl, Nat.le_of_ble_eq_true rfl⟩
theorem rf_Prog_epochStart_Act_endsEpoch : RF rm_Prog_epochStart rm_Act_endsEpoch 1 := ⟨rfl, rfl, Nat.le_of_ble_eq_true rfl, Nat.le_of_ble_eq_true rfl⟩
theorem rf_Prog_epochsWithWrites_Act_endsEpoch : RF rm_Prog_epochsWithWrites rm_Act_endsEpoch 1 := ⟨rfl, rfl, Nat.le_of_ble_eq_true rfl, Nat.le_of_ble_eq_true rfl⟩
theorem rf_Prog_epochsWithWrites_Act_writes : RF rm_Prog_epochsWithWrites rm_Act_writes 1 := ⟨rfl, rfl, Nat.le_of_ble_eq_true rfl, Nat.le_of_ble_eq_true rfl⟩
theorem rf_Prog_isWrite_Act_writes : RF rm_Prog_isWrite rm_Act_writes 1 := ⟨rfl, rfl, Nat.le_of_ble_eq_true rfl, Nat.le_of_ble_eq_true rfl⟩
theorem rf_Prog_isWrite_Prog_has : RF rm_Prog_isWrite rm_Prog_has 2 := ⟨rfl, rfl, Nat.le_of_ble_eq_true rfl, Nat.le_of_ble_eq_true rfl⟩
theorem rf_Prog_plateOf_Act_laidOn : RF rm_Prog_plateOf rm_Act_laidOn 5 := ⟨rfl, rfl, Nat.le_of_ble_eq_true rfl, Nat.le_of_ble_eq_true rfl⟩
theorem rf_Prog_shownOf_Act_sectorBits : RF rm_Prog_shownOf rm_Act_sectorBits 1 := ⟨rfl, rfl, Nat.le_of_ble_eq_true rfl, Nat.le_of_ble_eq_true rfl⟩
theorem rf_Prog_writes_Prog_writesWithin : RF rm_Prog_writes rm_Prog_writesWithin 5 := ⟨rfl, rfl, Nat.le_of_ble_eq_true rfl, Nat.le_of_ble_eq_true rfl⟩
theorem rf_Prog_writesWithin_Act_writes : RF rm_Prog_writesWithin rm_Act_writes 1 := ⟨rfl, rfl, Nat.le_of_ble_eq_true rfl, Nat.le_of_ble_eq_true rfl⟩
theorem rf_Read_begin_Text_clear : RF rm_Read_begin rm_Text_clear 1 := ⟨rfl, rfl, Nat.le_of_ble_eq_true rfl, Nat.le_of_ble_eq_true rfl⟩
theorem rf_Read_closeComparison_Read_closeFactor : RF rm_Read_closeComparison rm_Read_closeFactor 1 := ⟨rfl, rfl, Nat.le_of_ble_eq_true rfl, Nat.le_of_ble_eq_true rfl⟩
theorem rf_Read_closeComparison_Text_emit : RF rm_Read_closeComparison rm_Text_emit 3 := ⟨rfl, rfl, Nat.le_of_ble_eq_true rfl, Nat.le_of_ble_eq_true rfl⟩
theorem rf_Read_closeFactor_Text_emit : RF rm_Read_closeFactor rm_Text_emit 3 := ⟨rfl, rfl, Nat.le_of_ble_eq_true rfl, Nat.le_of_ble_eq_true rfl⟩
theorem rf_Read_closeTerms_Read_release : RF rm_Read_closeTerms rm_Read_release 3 := ⟨rfl, rfl, Nat.le_of_ble_eq_true rfl, Nat.le_of_ble_eq_true rfl⟩
theorem rf_Read_endsComparison_Read_isDigit : RF rm_Read_endsComparison rm_Read_isDigit 1 := ⟨rfl, rfl, Nat.le_of_ble_eq_true rfl, Nat.le_of_ble_eq_true rfl⟩
theorem rf_Read_goodOf_Read_begin : RF rm_Read_goodOf rm_Read_begin 2 := ⟨rfl, rfl, Nat.le_of_ble_eq_true rfl, Nat.le_of_ble_eq_true rfl⟩
theorem rf_Read_goodOf_Read_takes : RF rm_Read_goodOf rm_Read_takes 2 := ⟨rfl, rfl, Nat.le_of_ble_eq_true rfl, Nat.le_of_ble_eq_true rfl⟩
theorem rf_Read_isWhole_Read_closeComparison : RF rm_Read_isWhole rm_Read_closeComparison 1 := ⟨rfl, rfl, Nat.le_of_ble_eq_true rfl, Nat.le_of_ble_eq_true rfl⟩
theorem rf_Read_isWhole_Read_closeTerms : RF rm_Read_isWhole rm_Read_closeTerms 1 := ⟨rfl, rfl, Nat.le_of_ble_eq_true rfl, Nat.le_of_ble_eq_true rfl⟩
theorem rf_Read_isWhole_Text_endRule : RF rm_Read_isWhole rm_Text_endRule 1 := ⟨rfl, rfl, Nat.le_of_ble_eq_true rfl, Nat.le_of_ble_eq_true rfl⟩
theorem rf_Read_release_Text_emit : RF rm_Read_release rm_Text_emit 3 := ⟨rfl, rfl, Nat.le_of_ble_eq_true rfl, Nat.le_of_ble_eq_true rfl⟩
theorem rf_Read_takes_Read_closeComparison : RF rm_Read_takes rm_Read_closeComparison 1 := ⟨rfl, rfl, Nat.le_of_ble_eq_true rfl, Nat.le_of_ble_eq_true rfl⟩
theorem rf_Read_takes_Read_endsComparison : RF rm_Read_takes rm_Read_endsComparison 3 := ⟨rfl, rfl, Nat.le_of_ble_eq_true rfl, Nat.le_of_ble_eq_true rfl⟩
theorem rf_Read_takes_Read_isDigit : RF rm_Read_takes rm_Read_isDigit 1 := ⟨rfl, rfl, Nat.le_of_ble_eq_true rfl, Nat.le_of_ble_eq_true rfl⟩
theorem rf_Read_takes_Read_takesBehindFactor : RF rm_Read_takes rm_Read_takesBehindFactor 2 := ⟨rfl, rfl, Nat.le_of_ble_eq_true rfl, Nat.le_of_ble_eq_true rfl⟩
theorem rf_Read_takes_Read_takesBehindUnit : RF rm_Read_takes rm_Read_takesBehindUnit 2 := ⟨rfl, rfl, Nat.le_of_ble_eq_true rfl, Nat.le_of_ble_eq_true rfl⟩
theorem rf_Read_takes_Read_takesEquals : RF rm_Read_takes rm_Read_takesEquals 2 := ⟨rfl, rfl, Nat.le_of_ble_eq_true rfl, Nat.le_of_ble_eq_true rfl⟩
theorem rf_Read_takes_Read_takesFactor : RF rm_Read_takes rm_Read_takesFactor 2 := ⟨rfl, rfl, Nat.le_of_ble_eq_true rfl, Nat.le_of_ble_eq_true rfl⟩
theorem rf_Read_takes_Read_takesSecondDigit : RF rm_Read_takes rm_Read_takesSecondDigit 2 := ⟨rfl, rfl, Nat.le_of_ble_eq_true rfl, Nat.le_of_ble_eq_true rfl⟩
theorem rf_Read_takes_Read_takesTarget : RF rm_Read_takes rm_Read_takesTarget 2 := ⟨rfl, rfl, Nat.le_of_ble_eq_true rfl, Nat.le_of_ble_eq_true rfl⟩
theorem rf_Read_takes_Read_takesUnit : RF rm_Read_takes rm_Read_takesUnit 3 := ⟨rfl, rfl, Nat.le_of_ble_eq_true rfl, Nat.le_of_ble_eq_true rfl⟩
theorem rf_Read_takesBehindFactor_Read_closeFactor : RF rm_Read_takesBehindFactor rm_Read_closeFactor 1 := ⟨rfl, rfl, Nat.le_of_ble_eq_true rfl, Nat.le_of_ble_eq_true rfl⟩
theorem rf_Read_takesBehindFactor_Read_closeTerms : RF rm_Read_takesBehindFactor rm_Read_closeTerms 1 := ⟨rfl, rfl, Nat.le_of_ble_eq_true rfl, Nat.le_of_ble_eq_true rfl⟩
theorem rf_Read_takesBehindFactor_Read_keep : RF rm_Read_takesBehindFactor rm_Read_keep 2 := ⟨rfl, rfl, Nat.le_of_ble_eq_true rfl, Nat.le_of_ble_eq_true rfl⟩
theorem rf_Read_takesBehindFactor_Read_release : RF rm_Read_takesBehindFactor rm_Read_release 3 := ⟨rfl, rfl, Nat.le_of_ble_eq_true rfl, Nat.le_of_ble_eq_true rfl⟩
theorem rf_Read_takesBehindFactor_Text_endRule : RF rm_Read_takesBehindFactor rm_Text_endRule 1 := ⟨rfl, rfl, Nat.le_of_ble_eq_true rfl, Nat.le_of_ble_eq_true rfl⟩
theorem rf_Read_takesFactor_Read_keep : RF rm_Read_takesFactor rm_Read_keep 2 := ⟨rfl, rfl, Nat.le_of_ble_eq_true rfl, Nat.le_of_ble_eq_true rfl⟩
theorem rf_Read_takesFactor_Read_takesUnit : RF rm_Read_takesFactor rm_Read_takesUnit 3 := ⟨rfl, rfl, Nat.le_of_ble_eq_true rfl, Nat.le_of_ble_eq_true rfl⟩
theorem rf_Read_takesSecondDigit_Text_widen : RF rm_Read_takesSecondDigit rm_Text_widen 2 := ⟨rfl, rfl, Nat.le_of_ble_eq_true rfl, Nat.le_of_ble_eq_true rfl⟩
theorem rf_Read_takesTarget_Read_isLetter : RF rm_Read_takesTarget rm_Read_isLetter 1 := ⟨rfl, rfl, Nat.le_of_ble_eq_true rfl, Nat.le_of_ble_eq_true rfl⟩
theorem rf_Read_takesUnit_Read_isDigit : RF rm_Read_takesUnit rm_Read_isDigit 1 := ⟨rfl, rfl, Nat.le_of_ble_eq_true rfl, Nat.le_of_ble_eq_true rfl⟩
theorem rf_Read_takesUnit_Read_isLetter : RF rm_Read_takesUnit rm_Read_isLetter 1 := ⟨rfl, rfl, Nat.le_of_ble_eq_true rfl, Nat.le_of_ble_eq_true rfl⟩
theorem rf_Read_takesUnit_Text_emit : RF rm_Read_takesUnit rm_Text_emit 3 := ⟨rfl, rfl, Nat.le_of_ble_eq_true rfl, Nat.le_of_ble_eq_true rfl⟩
theorem rf_Rule_failingIn_Main_unpack : RF rm_Rule_failingIn rm_Main_unpack 4 := ⟨rfl, rfl, Nat.le_of_ble_eq_true rfl, Nat.le_of_ble_eq_true rfl⟩
theorem rf_Rule_failingIn_Text_isTrue : RF rm_Rule_failingIn rm_Text_isTrue 8 := ⟨rfl, rfl, Nat.le_of_ble_eq_true rfl, Nat.le_of_ble_eq_true rfl⟩
theorem rf_Verd_firstBroken_Act_endsEpoch : RF rm_Verd_firstBroken rm_Act_endsEpoch 1 := ⟨rfl, rfl, Nat.le_of_ble_eq_true rfl, Nat.le_of_ble_eq_true rfl⟩
theorem rf_Verd_firstBroken_Verd_of : RF rm_Verd_firstBroken rm_Verd_of 9 := ⟨rfl, rfl, Nat.le_of_ble_eq_true rfl, Nat.le_of_ble_eq_true rfl⟩
theorem rf_Verd_firstBroken_Verd_ofEach : RF rm_Verd_firstBroken rm_Verd_ofEach 7 := ⟨rfl, rfl, Nat.le_of_ble_eq_true rfl, Nat.le_of_ble_eq_true rfl⟩
theorem rf_Verd_of_Heal_after : RF rm_Verd_of rm_Heal_after 8 := ⟨rfl, rfl, Nat.le_of_ble_eq_true rfl, Nat.le_of_ble_eq_true rfl⟩
theorem rf_Verd_of_Heal_isSteady : RF rm_Verd_of rm_Heal_isSteady 10 := ⟨rfl, rfl, Nat.le_of_ble_eq_true rfl, Nat.le_of_ble_eq_true rfl⟩
theorem rf_Verd_of_Prog_plateOf : RF rm_Verd_of rm_Prog_plateOf 5 := ⟨rfl, rfl, Nat.le_of_ble_eq_true rfl, Nat.le_of_ble_eq_true rfl⟩
theorem rf_Verd_of_Prog_shownOf : RF rm_Verd_of rm_Prog_shownOf 6 := ⟨rfl, rfl, Nat.le_of_ble_eq_true rfl, Nat.le_of_ble_eq_true rfl⟩
theorem rf_Verd_of_Rule_failingIn : RF rm_Verd_of rm_Rule_failingIn 5 := ⟨rfl, rfl, Nat.le_of_ble_eq_true rfl, Nat.le_of_ble_eq_true rfl⟩
theorem rf_Verd_ofEach_JInt_bitCount : RF rm_Verd_ofEach rm_JInt_bitCount 1 := ⟨rfl, rfl, Nat.le_of_ble_eq_true rfl, Nat.le_of_ble_eq_true rfl⟩
theorem rf_Verd_ofEach_Main_nextSet : RF rm_Verd_ofEach rm_Main_nextSet 2 := ⟨rfl, rfl, Nat.le_of_ble_eq_true rfl, Nat.le_of_ble_eq_true rfl⟩
theorem rf_Verd_ofEach_Verd_of : RF rm_Verd_ofEach rm_Verd_of 9 := ⟨rfl, rfl, Nat.le_of_ble_eq_true rfl, Nat.le_of_ble_eq_true rfl⟩
