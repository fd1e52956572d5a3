theorem xwi {l : List Cond} (h : l.all (fun w => decide (w ∈ lw_tbl) && goodWord w) = true) : ∀ w ∈ l, w ∈ xtb := by
  intro w hw
  have h1 := List.all_eq_true.mp h w hw
  rw [Bool.and_eq_true] at h1
  exact List.mem_filter.mpr ⟨of_decide_eq_true h1.1, h1.2⟩
set_option maxRecDepth 100000 in
theorem wl_0 : ∀ w ∈ u_ws RX0 TX0 8, w ∈ lw_tbl ∧ goodWord w = true := by decide +kernel
set_option maxRecDepth 100000 in
theorem wl_1 : ∀ w ∈ u_ws RX1 TX1 6, w ∈ lw_tbl ∧ goodWord w = true := by decide +kernel
set_option maxRecDepth 100000 in
theorem wl_2 : ∀ w ∈ u_ws RX2 TX2 5, w ∈ lw_tbl ∧ goodWord w = true := by decide +kernel
set_option maxRecDepth 100000 in
theorem wl_3 : ∀ w ∈ u_ws RX3 TX3 7, w ∈ lw_tbl ∧ goodWord w = true := by decide +kernel
set_option maxRecDepth 100000 in
theorem wl_4 : ∀ w ∈ u_ws RX4 TX4 7, w ∈ lw_tbl ∧ goodWord w = true := by decide +kernel
set_option maxRecDepth 100000 in
theorem wl_5 : ∀ w ∈ u_ws RX5 TX5 3, w ∈ lw_tbl ∧ goodWord w = true := by decide +kernel
set_option maxRecDepth 100000 in
theorem wl_6 : ∀ w ∈ u_ws RX6 TX6 7, w ∈ lw_tbl ∧ goodWord w = true := by decide +kernel
set_option maxRecDepth 100000 in
theorem wl_7 : ∀ w ∈ u_ws RX7 TX7 6, w ∈ lw_tbl ∧ goodWord w = true := by decide +kernel
set_option maxRecDepth 100000 in
theorem wl_8 : ∀ w ∈ u_ws RX8 TX8 3, w ∈ lw_tbl ∧ goodWord w = true := by decide +kernel
set_option maxRecDepth 100000 in
theorem wl_9 : ∀ w ∈ u_ws RX9 TX9 2, w ∈ lw_tbl ∧ goodWord w = true := by decide +kernel
set_option maxRecDepth 100000 in
theorem wl_10 : ∀ w ∈ u_ws RX10 TX10 11, w ∈ lw_tbl ∧ goodWord w = true := by decide +kernel
set_option maxRecDepth 100000 in
theorem wl_11 : ∀ w ∈ u_ws RX11 TX11 9, w ∈ lw_tbl ∧ goodWord w = true := by decide +kernel
set_option maxRecDepth 100000 in
theorem wl_12 : ∀ w ∈ u_ws RX12 TX12 66, w ∈ lw_tbl ∧ goodWord w = true := by decide +kernel
def xwl_0 : List Cond := [Cond.selects RX1 yX1_readClause yX1_readClause, Cond.selects RX1 yX1_sign yX1_sign, Cond.selects RX1 yX1_stop yX1_stop, Cond.selects RX1 yX1_readSum yX1_readSum, Cond.selects RX1 yX1_readFactor yX1_readFactor, Cond.selects RX1 yX1_opens yX1_opens, Cond.selects RX1 yX1_pass yX1_pass, Cond.selects RX1 yX1_readChoice yX1_readChoice, Cond.selects RX1 yX1_readPiece yX1_readPiece, Cond.selects RX11 yX11_isCase yX11_isCase, Cond.selects RX3 yX3_putFact yX3_putFact, Cond.selects RX11 yX11_minutesOwed yX11_minutesOwed, Cond.selects RX0 yX0_reckon yX0_reckon, Cond.selects RX11 yX11_hundredths yX11_hundredths, Cond.selects RX11 yX11_daysToLapse yX11_daysToLapse, Cond.selects RX11 yX11_followChain yX11_followChain, Cond.selects RX11 yX11_noteChain yX11_noteChain, Cond.selects RX4 yX4_useOn yX4_useOn, Cond.selects RX7 yX7_measure yX7_measure, Cond.selects RX7 yX7_widen yX7_widen, Cond.selects RX7 yX7_room yX7_room, Cond.selects RX7 yX7_leftFrom yX7_leftFrom, Cond.selects RX7 yX7_dueFrom yX7_dueFrom, Cond.selects RX7 yX7_length yX7_length, Cond.selects RX7 yX7_nearestTaker yX7_nearestTaker, Cond.selects RX7 yX7_send yX7_send, Cond.selects RX7 yX7_moveAlong yX7_moveAlong, Cond.selects RX10 yX10_lateEnds yX10_lateEnds, Cond.selects RX10 yX10_countLate yX10_countLate, Cond.selects RX10 yX10_costOfWay yX10_costOfWay, Cond.selects RX10 yX10_costOfComing yX10_costOfComing, Cond.selects RX10 yX10_costOfBoth yX10_costOfBoth, Cond.selects RX6 yX6_cheapest yX6_cheapest, Cond.selects RX6 yX6_gatherOthers yX6_gatherOthers, Cond.selects RX6 yX6_weightsWithout yX6_weightsWithout, Cond.selects RX6 yX6_spreadLasts yX6_spreadLasts, Cond.selects RX6 yX6_costOf yX6_costOf, Cond.selects RX10 yX10_drawNext yX10_drawNext, Cond.selects RX10 yX10_drawEnd yX10_drawEnd, Cond.selects RX12 yX12_isOf yX12_isOf, Cond.selects RX12 yX12_isMeeting yX12_isMeeting, Cond.selects RX12 yX12_allCame yX12_allCame, Cond.selects RX12 yX12_beginsAt yX12_beginsAt, Cond.selects RX12 yX12_keepsAt yX12_keepsAt, Cond.selects RX12 yX12_keptBy yX12_keptBy, Cond.selects RX12 yX12_lateAt yX12_lateAt, Cond.selects RX12 yX12_isKeeping yX12_isKeeping, Cond.selects RX12 yX12_keeperOf yX12_keeperOf, Cond.selects RX12 yX12_types yX12_types, Cond.selects RX12 yX12_readsClause yX12_readsClause, Cond.selects RX12 yX12_here yX12_here, Cond.selects RX12 yX12_wrongAt yX12_wrongAt, Cond.selects RX12 yX12_readsSum yX12_readsSum, Cond.selects RX12 yX12_readsFactor yX12_readsFactor, Cond.selects RX12 yX12_opens yX12_opens, Cond.selects RX12 yX12_isDigit yX12_isDigit, Cond.selects RX12 yX12_readsNumber yX12_readsNumber, Cond.selects RX12 yX12_notes yX12_notes, Cond.selects RX12 yX12_closesSums yX12_closesSums, Cond.selects RX12 yX12_top yX12_top]
set_option maxRecDepth 100000 in
theorem xwh_0 : xwl_0.all (fun w => decide (w ∈ lw_tbl) && goodWord w) = true := by decide +kernel
theorem xwi_0 : ∀ w ∈ xwl_0, w ∈ xtb := fun w h => xwi xwh_0 w h
theorem m_0 : Cond.selects RX1 yX1_readClause yX1_readClause ∈ xtb := xwi_0 _ (List.mem_of_getElem? (i := 0) rfl)
theorem m_1 : Cond.selects RX1 yX1_sign yX1_sign ∈ xtb := xwi_0 _ (List.mem_of_getElem? (i := 1) rfl)
theorem m_2 : Cond.selects RX1 yX1_stop yX1_stop ∈ xtb := xwi_0 _ (List.mem_of_getElem? (i := 2) rfl)
theorem m_3 : Cond.selects RX1 yX1_readSum yX1_readSum ∈ xtb := xwi_0 _ (List.mem_of_getElem? (i := 3) rfl)
theorem m_4 : Cond.selects RX1 yX1_readFactor yX1_readFactor ∈ xtb := xwi_0 _ (List.mem_of_getElem? (i := 4) rfl)
theorem m_5 : Cond.selects RX1 yX1_opens yX1_opens ∈ xtb := xwi_0 _ (List.mem_of_getElem? (i := 5) rfl)
theorem m_6 : Cond.selects RX1 yX1_pass yX1_pass ∈ xtb := xwi_0 _ (List.mem_of_getElem? (i := 6) rfl)
theorem m_7 : Cond.selects RX1 yX1_readChoice yX1_readChoice ∈ xtb := xwi_0 _ (List.mem_of_getElem? (i := 7) rfl)
theorem m_8 : Cond.selects RX1 yX1_readPiece yX1_readPiece ∈ xtb := xwi_0 _ (List.mem_of_getElem? (i := 8) rfl)
theorem m_9 : Cond.selects RX11 yX11_isCase yX11_isCase ∈ xtb := xwi_0 _ (List.mem_of_getElem? (i := 9) rfl)
theorem m_10 : Cond.selects RX3 yX3_putFact yX3_putFact ∈ xtb := xwi_0 _ (List.mem_of_getElem? (i := 10) rfl)
theorem m_11 : Cond.selects RX11 yX11_minutesOwed yX11_minutesOwed ∈ xtb := xwi_0 _ (List.mem_of_getElem? (i := 11) rfl)
theorem m_12 : Cond.selects RX0 yX0_reckon yX0_reckon ∈ xtb := xwi_0 _ (List.mem_of_getElem? (i := 12) rfl)
theorem m_13 : Cond.selects RX11 yX11_hundredths yX11_hundredths ∈ xtb := xwi_0 _ (List.mem_of_getElem? (i := 13) rfl)
theorem m_14 : Cond.selects RX11 yX11_daysToLapse yX11_daysToLapse ∈ xtb := xwi_0 _ (List.mem_of_getElem? (i := 14) rfl)
theorem m_15 : Cond.selects RX11 yX11_followChain yX11_followChain ∈ xtb := xwi_0 _ (List.mem_of_getElem? (i := 15) rfl)
theorem m_16 : Cond.selects RX11 yX11_noteChain yX11_noteChain ∈ xtb := xwi_0 _ (List.mem_of_getElem? (i := 16) rfl)
theorem m_17 : Cond.selects RX4 yX4_useOn yX4_useOn ∈ xtb := xwi_0 _ (List.mem_of_getElem? (i := 17) rfl)
theorem m_18 : Cond.selects RX7 yX7_measure yX7_measure ∈ xtb := xwi_0 _ (List.mem_of_getElem? (i := 18) rfl)
theorem m_19 : Cond.selects RX7 yX7_widen yX7_widen ∈ xtb := xwi_0 _ (List.mem_of_getElem? (i := 19) rfl)
theorem m_20 : Cond.selects RX7 yX7_room yX7_room ∈ xtb := xwi_0 _ (List.mem_of_getElem? (i := 20) rfl)
theorem m_21 : Cond.selects RX7 yX7_leftFrom yX7_leftFrom ∈ xtb := xwi_0 _ (List.mem_of_getElem? (i := 21) rfl)
theorem m_22 : Cond.selects RX7 yX7_dueFrom yX7_dueFrom ∈ xtb := xwi_0 _ (List.mem_of_getElem? (i := 22) rfl)
theorem m_23 : Cond.selects RX7 yX7_length yX7_length ∈ xtb := xwi_0 _ (List.mem_of_getElem? (i := 23) rfl)
theorem m_24 : Cond.selects RX7 yX7_nearestTaker yX7_nearestTaker ∈ xtb := xwi_0 _ (List.mem_of_getElem? (i := 24) rfl)
theorem m_25 : Cond.selects RX7 yX7_send yX7_send ∈ xtb := xwi_0 _ (List.mem_of_getElem? (i := 25) rfl)
theorem m_26 : Cond.selects RX7 yX7_moveAlong yX7_moveAlong ∈ xtb := xwi_0 _ (List.mem_of_getElem? (i := 26) rfl)
theorem m_27 : Cond.selects RX10 yX10_lateEnds yX10_lateEnds ∈ xtb := xwi_0 _ (List.mem_of_getElem? (i := 27) rfl)
theorem m_28 : Cond.selects RX10 yX10_countLate yX10_countLate ∈ xtb := xwi_0 _ (List.mem_of_getElem? (i := 28) rfl)
theorem m_29 : Cond.selects RX10 yX10_costOfWay yX10_costOfWay ∈ xtb := xwi_0 _ (List.mem_of_getElem? (i := 29) rfl)
theorem m_30 : Cond.selects RX10 yX10_costOfComing yX10_costOfComing ∈ xtb := xwi_0 _ (List.mem_of_getElem? (i := 30) rfl)
theorem m_31 : Cond.selects RX10 yX10_costOfBoth yX10_costOfBoth ∈ xtb := xwi_0 _ (List.mem_of_getElem? (i := 31) rfl)
theorem m_32 : Cond.selects RX6 yX6_cheapest yX6_cheapest ∈ xtb := xwi_0 _ (List.mem_of_getElem? (i := 32) rfl)
theorem m_33 : Cond.selects RX6 yX6_gatherOthers yX6_gatherOthers ∈ xtb := xwi_0 _ (List.mem_of_getElem? (i := 33) rfl)
theorem m_34 : Cond.selects RX6 yX6_weightsWithout yX6_weightsWithout ∈ xtb := xwi_0 _ (List.mem_of_getElem? (i := 34) rfl)
theorem m_35 : Cond.selects RX6 yX6_spreadLasts yX6_spreadLasts ∈ xtb := xwi_0 _ (List.mem_of_getElem? (i := 35) rfl)
theorem m_36 : Cond.selects RX6 yX6_costOf yX6_costOf ∈ xtb := xwi_0 _ (List.mem_of_getElem? (i := 36) rfl)
theorem m_37 : Cond.selects RX10 yX10_drawNext yX10_drawNext ∈ xtb := xwi_0 _ (List.mem_of_getElem? (i := 37) rfl)
theorem m_38 : Cond.selects RX10 yX10_drawEnd yX10_drawEnd ∈ xtb := xwi_0 _ (List.mem_of_getElem? (i := 38) rfl)
theorem m_39 : Cond.selects RX12 yX12_isOf yX12_isOf ∈ xtb := xwi_0 _ (List.mem_of_getElem? (i := 39) rfl)
theorem m_40 : Cond.selects RX12 yX12_isMeeting yX12_isMeeting ∈ xtb := xwi_0 _ (List.mem_of_getElem? (i := 40) rfl)
theorem m_41 : Cond.selects RX12 yX12_allCame yX12_allCame ∈ xtb := xwi_0 _ (List.mem_of_getElem? (i := 41) rfl)
theorem m_42 : Cond.selects RX12 yX12_beginsAt yX12_beginsAt ∈ xtb := xwi_0 _ (List.mem_of_getElem? (i := 42) rfl)
theorem m_43 : Cond.selects RX12 yX12_keepsAt yX12_keepsAt ∈ xtb := xwi_0 _ (List.mem_of_getElem? (i := 43) rfl)
theorem m_44 : Cond.selects RX12 yX12_keptBy yX12_keptBy ∈ xtb := xwi_0 _ (List.mem_of_getElem? (i := 44) rfl)
theorem m_45 : Cond.selects RX12 yX12_lateAt yX12_lateAt ∈ xtb := xwi_0 _ (List.mem_of_getElem? (i := 45) rfl)
theorem m_46 : Cond.selects RX12 yX12_isKeeping yX12_isKeeping ∈ xtb := xwi_0 _ (List.mem_of_getElem? (i := 46) rfl)
theorem m_47 : Cond.selects RX12 yX12_keeperOf yX12_keeperOf ∈ xtb := xwi_0 _ (List.mem_of_getElem? (i := 47) rfl)
theorem m_48 : Cond.selects RX12 yX12_types yX12_types ∈ xtb := xwi_0 _ (List.mem_of_getElem? (i := 48) rfl)
theorem m_49 : Cond.selects RX12 yX12_readsClause yX12_readsClause ∈ xtb := xwi_0 _ (List.mem_of_getElem? (i := 49) rfl)
theorem m_50 : Cond.selects RX12 yX12_here yX12_here ∈ xtb := xwi_0 _ (List.mem_of_getElem? (i := 50) rfl)
theorem m_51 : Cond.selects RX12 yX12_wrongAt yX12_wrongAt ∈ xtb := xwi_0 _ (List.mem_of_getElem? (i := 51) rfl)
theorem m_52 : Cond.selects RX12 yX12_readsSum yX12_readsSum ∈ xtb := xwi_0 _ (List.mem_of_getElem? (i := 52) rfl)
theorem m_53 : Cond.selects RX12 yX12_readsFactor yX12_readsFactor ∈ xtb := xwi_0 _ (List.mem_of_getElem? (i := 53) rfl)
theorem m_54 : Cond.selects RX12 yX12_opens yX12_opens ∈ xtb := xwi_0 _ (List.mem_of_getElem? (i := 54) rfl)
theorem m_55 : Cond.selects RX12 yX12_isDigit yX12_isDigit ∈ xtb := xwi_0 _ (List.mem_of_getElem? (i := 55) rfl)
theorem m_56 : Cond.selects RX12 yX12_readsNumber yX12_readsNumber ∈ xtb := xwi_0 _ (List.mem_of_getElem? (i := 56) rfl)
theorem m_57 : Cond.selects RX12 yX12_notes yX12_notes ∈ xtb := xwi_0 _ (List.mem_of_getElem? (i := 57) rfl)
theorem m_58 : Cond.selects RX12 yX12_closesSums yX12_closesSums ∈ xtb := xwi_0 _ (List.mem_of_getElem? (i := 58) rfl)
theorem m_59 : Cond.selects RX12 yX12_top yX12_top ∈ xtb := xwi_0 _ (List.mem_of_getElem? (i := 59) rfl)
def xwl_1 : List Cond := [Cond.selects RX12 yX12_hasOpenSum yX12_hasOpenSum, Cond.selects RX12 yX12_readsCondition yX12_readsCondition, Cond.selects RX12 yX12_readsCompared yX12_readsCompared, Cond.selects RX12 yX12_endsPiece yX12_endsPiece, Cond.selects RX12 yX12_lands yX12_lands, Cond.selects RX12 yX12_jumps yX12_jumps, Cond.selects RX12 yX12_takes yX12_takes, Cond.selects RX12 yX12_areTwo yX12_areTwo, Cond.selects RX12 yX12_owesBy yX12_owesBy, Cond.selects RX12 yX12_feels yX12_feels, Cond.selects RX12 yX12_byLaw yX12_byLaw, Cond.selects RX12 yX12_comesTo yX12_comesTo, Cond.selects RX12 yX12_chains yX12_chains, Cond.selects RX12 yX12_goesOver yX12_goesOver, Cond.selects RX12 yX12_makes yX12_makes, Cond.selects RX12 yX12_isNote yX12_isNote, Cond.selects RX12 yX12_isLive yX12_isLive, Cond.selects RX12 yX12_isLiveOn yX12_isLiveOn, Cond.selects RX12 yX12_dearest yX12_dearest, Cond.selects RX12 yX12_balances yX12_balances, Cond.selects RX12 yX12_measures yX12_measures, Cond.selects RX12 yX12_nearestGetter yX12_nearestGetter, Cond.selects RX12 yX12_goesTo yX12_goesTo, Cond.selects RX12 yX12_stepOn yX12_stepOn, Cond.selects RX12 yX12_isCrossing yX12_isCrossing, Cond.selects RX12 yX12_bridgeWeight yX12_bridgeWeight, Cond.selects RX12 yX12_lateWeight yX12_lateWeight, Cond.selects RX12 yX12_endsOf yX12_endsOf, Cond.selects RX12 yX12_wayAt yX12_wayAt, Cond.selects RX12 yX12_weightAt yX12_weightAt, Cond.selects RX12 yX12_weightsOf yX12_weightsOf, Cond.selects RX12 yX12_hangs yX12_hangs, Cond.selects RX12 yX12_costOf yX12_costOf, Cond.selects RX12 yX12_costWith yX12_costWith, Cond.selects RX12 yX12_comingCost yX12_comingCost, Cond.selects RX12 yX12_worthAt yX12_worthAt, Cond.selects RX12 yX12_areInRow yX12_areInRow, Cond.selects RX12 yX12_twoOf yX12_twoOf, Cond.selects RX12 yX12_twoWith yX12_twoWith, Cond.selects RX12 yX12_laysGoers yX12_laysGoers, Cond.selects RX12 yX12_changes yX12_changes, Cond.selects RX12 yX12_allWith yX12_allWith, Cond.selects RX12 yX12_dayCost yX12_dayCost, Cond.selects RX12 yX12_draws yX12_draws, Cond.selects RX12 yX12_drawnEnd yX12_drawnEnd, Cond.selects RX12 yX12_tapeNumber yX12_tapeNumber, Cond.selects RX12 yX12_noteNumber yX12_noteNumber, Cond.initialized RX11, Cond.initialized RX9, Cond.initialized RX1, Cond.initialized RX0, Cond.initialized RX5, Cond.initialized RJ7, Cond.initialized RX3, Cond.initialized RX4, Cond.initialized RX7, Cond.initialized RX10, Cond.initialized RX6, Cond.initialized RX8, Cond.initialized RX12]
set_option maxRecDepth 100000 in
theorem xwh_1 : xwl_1.all (fun w => decide (w ∈ lw_tbl) && goodWord w) = true := by decide +kernel
theorem xwi_1 : ∀ w ∈ xwl_1, w ∈ xtb := fun w h => xwi xwh_1 w h
theorem m_60 : Cond.selects RX12 yX12_hasOpenSum yX12_hasOpenSum ∈ xtb := xwi_1 _ (List.mem_of_getElem? (i := 0) rfl)
theorem m_61 : Cond.selects RX12 yX12_readsCondition yX12_readsCondition ∈ xtb := xwi_1 _ (List.mem_of_getElem? (i := 1) rfl)
theorem m_62 : Cond.selects RX12 yX12_readsCompared yX12_readsCompared ∈ xtb := xwi_1 _ (List.mem_of_getElem? (i := 2) rfl)
theorem m_63 : Cond.selects RX12 yX12_endsPiece yX12_endsPiece ∈ xtb := xwi_1 _ (List.mem_of_getElem? (i := 3) rfl)
theorem m_64 : Cond.selects RX12 yX12_lands yX12_lands ∈ xtb := xwi_1 _ (List.mem_of_getElem? (i := 4) rfl)
theorem m_65 : Cond.selects RX12 yX12_jumps yX12_jumps ∈ xtb := xwi_1 _ (List.mem_of_getElem? (i := 5) rfl)
theorem m_66 : Cond.selects RX12 yX12_takes yX12_takes ∈ xtb := xwi_1 _ (List.mem_of_getElem? (i := 6) rfl)
theorem m_67 : Cond.selects RX12 yX12_areTwo yX12_areTwo ∈ xtb := xwi_1 _ (List.mem_of_getElem? (i := 7) rfl)
theorem m_68 : Cond.selects RX12 yX12_owesBy yX12_owesBy ∈ xtb := xwi_1 _ (List.mem_of_getElem? (i := 8) rfl)
theorem m_69 : Cond.selects RX12 yX12_feels yX12_feels ∈ xtb := xwi_1 _ (List.mem_of_getElem? (i := 9) rfl)
theorem m_70 : Cond.selects RX12 yX12_byLaw yX12_byLaw ∈ xtb := xwi_1 _ (List.mem_of_getElem? (i := 10) rfl)
theorem m_71 : Cond.selects RX12 yX12_comesTo yX12_comesTo ∈ xtb := xwi_1 _ (List.mem_of_getElem? (i := 11) rfl)
theorem m_72 : Cond.selects RX12 yX12_chains yX12_chains ∈ xtb := xwi_1 _ (List.mem_of_getElem? (i := 12) rfl)
theorem m_73 : Cond.selects RX12 yX12_goesOver yX12_goesOver ∈ xtb := xwi_1 _ (List.mem_of_getElem? (i := 13) rfl)
theorem m_74 : Cond.selects RX12 yX12_makes yX12_makes ∈ xtb := xwi_1 _ (List.mem_of_getElem? (i := 14) rfl)
theorem m_75 : Cond.selects RX12 yX12_isNote yX12_isNote ∈ xtb := xwi_1 _ (List.mem_of_getElem? (i := 15) rfl)
theorem m_76 : Cond.selects RX12 yX12_isLive yX12_isLive ∈ xtb := xwi_1 _ (List.mem_of_getElem? (i := 16) rfl)
theorem m_77 : Cond.selects RX12 yX12_isLiveOn yX12_isLiveOn ∈ xtb := xwi_1 _ (List.mem_of_getElem? (i := 17) rfl)
theorem m_78 : Cond.selects RX12 yX12_dearest yX12_dearest ∈ xtb := xwi_1 _ (List.mem_of_getElem? (i := 18) rfl)
theorem m_79 : Cond.selects RX12 yX12_balances yX12_balances ∈ xtb := xwi_1 _ (List.mem_of_getElem? (i := 19) rfl)
theorem m_80 : Cond.selects RX12 yX12_measures yX12_measures ∈ xtb := xwi_1 _ (List.mem_of_getElem? (i := 20) rfl)
theorem m_81 : Cond.selects RX12 yX12_nearestGetter yX12_nearestGetter ∈ xtb := xwi_1 _ (List.mem_of_getElem? (i := 21) rfl)
theorem m_82 : Cond.selects RX12 yX12_goesTo yX12_goesTo ∈ xtb := xwi_1 _ (List.mem_of_getElem? (i := 22) rfl)
theorem m_83 : Cond.selects RX12 yX12_stepOn yX12_stepOn ∈ xtb := xwi_1 _ (List.mem_of_getElem? (i := 23) rfl)
theorem m_84 : Cond.selects RX12 yX12_isCrossing yX12_isCrossing ∈ xtb := xwi_1 _ (List.mem_of_getElem? (i := 24) rfl)
theorem m_85 : Cond.selects RX12 yX12_bridgeWeight yX12_bridgeWeight ∈ xtb := xwi_1 _ (List.mem_of_getElem? (i := 25) rfl)
theorem m_86 : Cond.selects RX12 yX12_lateWeight yX12_lateWeight ∈ xtb := xwi_1 _ (List.mem_of_getElem? (i := 26) rfl)
theorem m_87 : Cond.selects RX12 yX12_endsOf yX12_endsOf ∈ xtb := xwi_1 _ (List.mem_of_getElem? (i := 27) rfl)
theorem m_88 : Cond.selects RX12 yX12_wayAt yX12_wayAt ∈ xtb := xwi_1 _ (List.mem_of_getElem? (i := 28) rfl)
theorem m_89 : Cond.selects RX12 yX12_weightAt yX12_weightAt ∈ xtb := xwi_1 _ (List.mem_of_getElem? (i := 29) rfl)
theorem m_90 : Cond.selects RX12 yX12_weightsOf yX12_weightsOf ∈ xtb := xwi_1 _ (List.mem_of_getElem? (i := 30) rfl)
theorem m_91 : Cond.selects RX12 yX12_hangs yX12_hangs ∈ xtb := xwi_1 _ (List.mem_of_getElem? (i := 31) rfl)
theorem m_92 : Cond.selects RX12 yX12_costOf yX12_costOf ∈ xtb := xwi_1 _ (List.mem_of_getElem? (i := 32) rfl)
theorem m_93 : Cond.selects RX12 yX12_costWith yX12_costWith ∈ xtb := xwi_1 _ (List.mem_of_getElem? (i := 33) rfl)
theorem m_94 : Cond.selects RX12 yX12_comingCost yX12_comingCost ∈ xtb := xwi_1 _ (List.mem_of_getElem? (i := 34) rfl)
theorem m_95 : Cond.selects RX12 yX12_worthAt yX12_worthAt ∈ xtb := xwi_1 _ (List.mem_of_getElem? (i := 35) rfl)
theorem m_96 : Cond.selects RX12 yX12_areInRow yX12_areInRow ∈ xtb := xwi_1 _ (List.mem_of_getElem? (i := 36) rfl)
theorem m_97 : Cond.selects RX12 yX12_twoOf yX12_twoOf ∈ xtb := xwi_1 _ (List.mem_of_getElem? (i := 37) rfl)
theorem m_98 : Cond.selects RX12 yX12_twoWith yX12_twoWith ∈ xtb := xwi_1 _ (List.mem_of_getElem? (i := 38) rfl)
theorem m_99 : Cond.selects RX12 yX12_laysGoers yX12_laysGoers ∈ xtb := xwi_1 _ (List.mem_of_getElem? (i := 39) rfl)
theorem m_100 : Cond.selects RX12 yX12_changes yX12_changes ∈ xtb := xwi_1 _ (List.mem_of_getElem? (i := 40) rfl)
theorem m_101 : Cond.selects RX12 yX12_allWith yX12_allWith ∈ xtb := xwi_1 _ (List.mem_of_getElem? (i := 41) rfl)
theorem m_102 : Cond.selects RX12 yX12_dayCost yX12_dayCost ∈ xtb := xwi_1 _ (List.mem_of_getElem? (i := 42) rfl)
theorem m_103 : Cond.selects RX12 yX12_draws yX12_draws ∈ xtb := xwi_1 _ (List.mem_of_getElem? (i := 43) rfl)
theorem m_104 : Cond.selects RX12 yX12_drawnEnd yX12_drawnEnd ∈ xtb := xwi_1 _ (List.mem_of_getElem? (i := 44) rfl)
theorem m_105 : Cond.selects RX12 yX12_tapeNumber yX12_tapeNumber ∈ xtb := xwi_1 _ (List.mem_of_getElem? (i := 45) rfl)
theorem m_106 : Cond.selects RX12 yX12_noteNumber yX12_noteNumber ∈ xtb := xwi_1 _ (List.mem_of_getElem? (i := 46) rfl)
theorem m_108 : Cond.initialized RX11 ∈ xtb := xwi_1 _ (List.mem_of_getElem? (i := 47) rfl)
theorem m_109 : Cond.initialized RX9 ∈ xtb := xwi_1 _ (List.mem_of_getElem? (i := 48) rfl)
theorem m_110 : Cond.initialized RX1 ∈ xtb := xwi_1 _ (List.mem_of_getElem? (i := 49) rfl)
theorem m_111 : Cond.initialized RX0 ∈ xtb := xwi_1 _ (List.mem_of_getElem? (i := 50) rfl)
theorem m_112 : Cond.initialized RX5 ∈ xtb := xwi_1 _ (List.mem_of_getElem? (i := 51) rfl)
theorem m_113 : Cond.initialized RJ7 ∈ xtb := xwi_1 _ (List.mem_of_getElem? (i := 52) rfl)
theorem m_114 : Cond.initialized RX3 ∈ xtb := xwi_1 _ (List.mem_of_getElem? (i := 53) rfl)
theorem m_115 : Cond.initialized RX4 ∈ xtb := xwi_1 _ (List.mem_of_getElem? (i := 54) rfl)
theorem m_116 : Cond.initialized RX7 ∈ xtb := xwi_1 _ (List.mem_of_getElem? (i := 55) rfl)
theorem m_117 : Cond.initialized RX10 ∈ xtb := xwi_1 _ (List.mem_of_getElem? (i := 56) rfl)
theorem m_118 : Cond.initialized RX6 ∈ xtb := xwi_1 _ (List.mem_of_getElem? (i := 57) rfl)
theorem m_119 : Cond.initialized RX8 ∈ xtb := xwi_1 _ (List.mem_of_getElem? (i := 58) rfl)
theorem m_120 : Cond.initialized RX12 ∈ xtb := xwi_1 _ (List.mem_of_getElem? (i := 59) rfl)
def xwl_2 : List Cond := [Cond.initialized RJ6, Cond.initialized RX2, Cond.initialized RJ9, Cond.code yX11_init cX11_init 1 none, Cond.code yX9_init cX9_init 1 none, Cond.fieldLink RX9 9 "LateMinutes$Tape" "bytes" "[B", Cond.fieldLink RX9 15 "LateMinutes$Tape" "size" "I", Cond.code yX1_init cX1_init 1 none, Cond.code yX0_init cX0_init 1 none, Cond.fieldLink RX0 9 "LateMinutes$Law" "letters" "[I", Cond.fieldLink RX0 15 "LateMinutes$Law" "amountFrom" "[I", Cond.fieldLink RX0 18 "LateMinutes$Law" "conditionFrom" "[I", Cond.fieldLink RX0 21 "LateMinutes$Law" "conditionTo" "[I", Cond.fieldLink RX0 24 "LateMinutes$Law" "code" "[I", Cond.fieldLink RX0 27 "LateMinutes$Law" "stack" "[J", Cond.fieldLink RX0 31 "LateMinutes$Law" "clauses" "I", Cond.fieldLink RX0 35 "LateMinutes$Law" "size" "I", Cond.fieldLink RX1 9 "LateMinutes$LawReader" "text" "[B", Cond.fieldLink RX1 18 "LateMinutes$LawReader" "current" "LLateMinutes$Law;", Cond.fieldLink RX1 22 "LateMinutes$LawReader" "next" "LLateMinutes$Law;", Cond.fieldLink RX1 33 "LateMinutes$LawReader" "length" "I", Cond.fieldLink RX1 42 "LateMinutes$LawReader" "place" "I", Cond.fieldLink RX1 45 "LateMinutes$LawReader" "fault" "I", Cond.code yX5_init cX5_init 1 none, Cond.methodLink RX5 21 yJ7_fill_53178, Cond.static yJ7_fill_53178, Cond.code yJ7_fill_53178 cJ7_fill_53178 4 none, Cond.fieldLink RX5 9 "LateMinutes$People" "worths" "[I", Cond.fieldLink RX5 15 "LateMinutes$People" "given" "[I", Cond.fieldLink RX5 18 "LateMinutes$People" "taken" "[I", Cond.code yX3_init cX3_init 2 none, Cond.fieldLink RX3 27 "LateMinutes$Meetings" "people" "LLateMinutes$People;", Cond.fieldLink RX3 11 "LateMinutes$Meetings" "list" "[LLateMinutes$Meeting;", Cond.fieldLink RX3 17 "LateMinutes$Meetings" "facts" "[I", Cond.fieldLink RX3 21 "LateMinutes$Meetings" "payers" "[I", Cond.fieldLink RX3 24 "LateMinutes$Meetings" "paid" "[I", Cond.fieldLink RX3 31 "LateMinutes$Meetings" "size" "I", Cond.fieldLink RX3 102 "LateMinutes$Meetings" "chained" "I", Cond.code yX4_init cX4_init 1 none, Cond.fieldLink RX4 9 "LateMinutes$Notes" "owers" "[I", Cond.fieldLink RX4 15 "LateMinutes$Notes" "holders" "[I", Cond.fieldLink RX4 18 "LateMinutes$Notes" "minutes" "[I", Cond.fieldLink RX4 21 "LateMinutes$Notes" "made" "[I", Cond.fieldLink RX4 24 "LateMinutes$Notes" "lapses" "[I", Cond.fieldLink RX4 27 "LateMinutes$Notes" "free" "[I", Cond.fieldLink RX4 30 "LateMinutes$Notes" "size" "I", Cond.code yX7_init cX7_init 1 none, Cond.fieldLink RX7 11 "LateMinutes$Striking" "due" "[I", Cond.fieldLink RX7 15 "LateMinutes$Striking" "left" "[I", Cond.fieldLink RX7 18 "LateMinutes$Striking" "balance" "[I", Cond.fieldLink RX7 21 "LateMinutes$Striking" "away" "[I", Cond.fieldLink RX7 24 "LateMinutes$Striking" "from" "[I", Cond.fieldLink RX7 27 "LateMinutes$Striking" "clear" "[I", Cond.code yX10_init cX10_init 3 none, Cond.fieldLink RX10 39 "LateMinutes$Ways" "people" "LLateMinutes$People;", Cond.fieldLink RX10 9 "LateMinutes$Ways" "told" "[I", Cond.fieldLink RX10 15 "LateMinutes$Ways" "minutes" "[I", Cond.fieldLink RX10 18 "LateMinutes$Ways" "weights" "[I", Cond.fieldLink RX10 21 "LateMinutes$Ways" "allWeights" "[I", Cond.fieldLink RX10 24 "LateMinutes$Ways" "crossing" "[Z"]
set_option maxRecDepth 100000 in
theorem xwh_2 : xwl_2.all (fun w => decide (w ∈ lw_tbl) && goodWord w) = true := by decide +kernel
theorem xwi_2 : ∀ w ∈ xwl_2, w ∈ xtb := fun w h => xwi xwh_2 w h
theorem m_121 : Cond.initialized RJ6 ∈ xtb := xwi_2 _ (List.mem_of_getElem? (i := 0) rfl)
theorem m_122 : Cond.initialized RX2 ∈ xtb := xwi_2 _ (List.mem_of_getElem? (i := 1) rfl)
theorem m_123 : Cond.initialized RJ9 ∈ xtb := xwi_2 _ (List.mem_of_getElem? (i := 2) rfl)
theorem m_128 : Cond.code yX11_init cX11_init 1 none ∈ xtb := xwi_2 _ (List.mem_of_getElem? (i := 3) rfl)
theorem m_136 : Cond.code yX9_init cX9_init 1 none ∈ xtb := xwi_2 _ (List.mem_of_getElem? (i := 4) rfl)
theorem m_138 : Cond.fieldLink RX9 9 "LateMinutes$Tape" "bytes" "[B" ∈ xtb := xwi_2 _ (List.mem_of_getElem? (i := 5) rfl)
theorem m_139 : Cond.fieldLink RX9 15 "LateMinutes$Tape" "size" "I" ∈ xtb := xwi_2 _ (List.mem_of_getElem? (i := 6) rfl)
theorem m_150 : Cond.code yX1_init cX1_init 1 none ∈ xtb := xwi_2 _ (List.mem_of_getElem? (i := 7) rfl)
theorem m_156 : Cond.code yX0_init cX0_init 1 none ∈ xtb := xwi_2 _ (List.mem_of_getElem? (i := 8) rfl)
theorem m_158 : Cond.fieldLink RX0 9 "LateMinutes$Law" "letters" "[I" ∈ xtb := xwi_2 _ (List.mem_of_getElem? (i := 9) rfl)
theorem m_159 : Cond.fieldLink RX0 15 "LateMinutes$Law" "amountFrom" "[I" ∈ xtb := xwi_2 _ (List.mem_of_getElem? (i := 10) rfl)
theorem m_160 : Cond.fieldLink RX0 18 "LateMinutes$Law" "conditionFrom" "[I" ∈ xtb := xwi_2 _ (List.mem_of_getElem? (i := 11) rfl)
theorem m_161 : Cond.fieldLink RX0 21 "LateMinutes$Law" "conditionTo" "[I" ∈ xtb := xwi_2 _ (List.mem_of_getElem? (i := 12) rfl)
theorem m_162 : Cond.fieldLink RX0 24 "LateMinutes$Law" "code" "[I" ∈ xtb := xwi_2 _ (List.mem_of_getElem? (i := 13) rfl)
theorem m_163 : Cond.fieldLink RX0 27 "LateMinutes$Law" "stack" "[J" ∈ xtb := xwi_2 _ (List.mem_of_getElem? (i := 14) rfl)
theorem m_164 : Cond.fieldLink RX0 31 "LateMinutes$Law" "clauses" "I" ∈ xtb := xwi_2 _ (List.mem_of_getElem? (i := 15) rfl)
theorem m_165 : Cond.fieldLink RX0 35 "LateMinutes$Law" "size" "I" ∈ xtb := xwi_2 _ (List.mem_of_getElem? (i := 16) rfl)
theorem m_185 : Cond.fieldLink RX1 9 "LateMinutes$LawReader" "text" "[B" ∈ xtb := xwi_2 _ (List.mem_of_getElem? (i := 17) rfl)
theorem m_186 : Cond.fieldLink RX1 18 "LateMinutes$LawReader" "current" "LLateMinutes$Law;" ∈ xtb := xwi_2 _ (List.mem_of_getElem? (i := 18) rfl)
theorem m_187 : Cond.fieldLink RX1 22 "LateMinutes$LawReader" "next" "LLateMinutes$Law;" ∈ xtb := xwi_2 _ (List.mem_of_getElem? (i := 19) rfl)
theorem m_188 : Cond.fieldLink RX1 33 "LateMinutes$LawReader" "length" "I" ∈ xtb := xwi_2 _ (List.mem_of_getElem? (i := 20) rfl)
theorem m_189 : Cond.fieldLink RX1 42 "LateMinutes$LawReader" "place" "I" ∈ xtb := xwi_2 _ (List.mem_of_getElem? (i := 21) rfl)
theorem m_190 : Cond.fieldLink RX1 45 "LateMinutes$LawReader" "fault" "I" ∈ xtb := xwi_2 _ (List.mem_of_getElem? (i := 22) rfl)
theorem m_208 : Cond.code yX5_init cX5_init 1 none ∈ xtb := xwi_2 _ (List.mem_of_getElem? (i := 23) rfl)
theorem m_210 : Cond.methodLink RX5 21 yJ7_fill_53178 ∈ xtb := xwi_2 _ (List.mem_of_getElem? (i := 24) rfl)
theorem m_211 : Cond.static yJ7_fill_53178 ∈ xtb := xwi_2 _ (List.mem_of_getElem? (i := 25) rfl)
theorem m_212 : Cond.code yJ7_fill_53178 cJ7_fill_53178 4 none ∈ xtb := xwi_2 _ (List.mem_of_getElem? (i := 26) rfl)
theorem m_213 : Cond.fieldLink RX5 9 "LateMinutes$People" "worths" "[I" ∈ xtb := xwi_2 _ (List.mem_of_getElem? (i := 27) rfl)
theorem m_214 : Cond.fieldLink RX5 15 "LateMinutes$People" "given" "[I" ∈ xtb := xwi_2 _ (List.mem_of_getElem? (i := 28) rfl)
theorem m_215 : Cond.fieldLink RX5 18 "LateMinutes$People" "taken" "[I" ∈ xtb := xwi_2 _ (List.mem_of_getElem? (i := 29) rfl)
theorem m_227 : Cond.code yX3_init cX3_init 2 none ∈ xtb := xwi_2 _ (List.mem_of_getElem? (i := 30) rfl)
theorem m_231 : Cond.fieldLink RX3 27 "LateMinutes$Meetings" "people" "LLateMinutes$People;" ∈ xtb := xwi_2 _ (List.mem_of_getElem? (i := 31) rfl)
theorem m_232 : Cond.fieldLink RX3 11 "LateMinutes$Meetings" "list" "[LLateMinutes$Meeting;" ∈ xtb := xwi_2 _ (List.mem_of_getElem? (i := 32) rfl)
theorem m_233 : Cond.fieldLink RX3 17 "LateMinutes$Meetings" "facts" "[I" ∈ xtb := xwi_2 _ (List.mem_of_getElem? (i := 33) rfl)
theorem m_234 : Cond.fieldLink RX3 21 "LateMinutes$Meetings" "payers" "[I" ∈ xtb := xwi_2 _ (List.mem_of_getElem? (i := 34) rfl)
theorem m_235 : Cond.fieldLink RX3 24 "LateMinutes$Meetings" "paid" "[I" ∈ xtb := xwi_2 _ (List.mem_of_getElem? (i := 35) rfl)
theorem m_236 : Cond.fieldLink RX3 31 "LateMinutes$Meetings" "size" "I" ∈ xtb := xwi_2 _ (List.mem_of_getElem? (i := 36) rfl)
theorem m_237 : Cond.fieldLink RX3 102 "LateMinutes$Meetings" "chained" "I" ∈ xtb := xwi_2 _ (List.mem_of_getElem? (i := 37) rfl)
theorem m_257 : Cond.code yX4_init cX4_init 1 none ∈ xtb := xwi_2 _ (List.mem_of_getElem? (i := 38) rfl)
theorem m_259 : Cond.fieldLink RX4 9 "LateMinutes$Notes" "owers" "[I" ∈ xtb := xwi_2 _ (List.mem_of_getElem? (i := 39) rfl)
theorem m_260 : Cond.fieldLink RX4 15 "LateMinutes$Notes" "holders" "[I" ∈ xtb := xwi_2 _ (List.mem_of_getElem? (i := 40) rfl)
theorem m_261 : Cond.fieldLink RX4 18 "LateMinutes$Notes" "minutes" "[I" ∈ xtb := xwi_2 _ (List.mem_of_getElem? (i := 41) rfl)
theorem m_262 : Cond.fieldLink RX4 21 "LateMinutes$Notes" "made" "[I" ∈ xtb := xwi_2 _ (List.mem_of_getElem? (i := 42) rfl)
theorem m_263 : Cond.fieldLink RX4 24 "LateMinutes$Notes" "lapses" "[I" ∈ xtb := xwi_2 _ (List.mem_of_getElem? (i := 43) rfl)
theorem m_264 : Cond.fieldLink RX4 27 "LateMinutes$Notes" "free" "[I" ∈ xtb := xwi_2 _ (List.mem_of_getElem? (i := 44) rfl)
theorem m_265 : Cond.fieldLink RX4 30 "LateMinutes$Notes" "size" "I" ∈ xtb := xwi_2 _ (List.mem_of_getElem? (i := 45) rfl)
theorem m_285 : Cond.code yX7_init cX7_init 1 none ∈ xtb := xwi_2 _ (List.mem_of_getElem? (i := 46) rfl)
theorem m_287 : Cond.fieldLink RX7 11 "LateMinutes$Striking" "due" "[I" ∈ xtb := xwi_2 _ (List.mem_of_getElem? (i := 47) rfl)
theorem m_288 : Cond.fieldLink RX7 15 "LateMinutes$Striking" "left" "[I" ∈ xtb := xwi_2 _ (List.mem_of_getElem? (i := 48) rfl)
theorem m_289 : Cond.fieldLink RX7 18 "LateMinutes$Striking" "balance" "[I" ∈ xtb := xwi_2 _ (List.mem_of_getElem? (i := 49) rfl)
theorem m_290 : Cond.fieldLink RX7 21 "LateMinutes$Striking" "away" "[I" ∈ xtb := xwi_2 _ (List.mem_of_getElem? (i := 50) rfl)
theorem m_291 : Cond.fieldLink RX7 24 "LateMinutes$Striking" "from" "[I" ∈ xtb := xwi_2 _ (List.mem_of_getElem? (i := 51) rfl)
theorem m_292 : Cond.fieldLink RX7 27 "LateMinutes$Striking" "clear" "[I" ∈ xtb := xwi_2 _ (List.mem_of_getElem? (i := 52) rfl)
theorem m_310 : Cond.code yX10_init cX10_init 3 none ∈ xtb := xwi_2 _ (List.mem_of_getElem? (i := 53) rfl)
theorem m_312 : Cond.fieldLink RX10 39 "LateMinutes$Ways" "people" "LLateMinutes$People;" ∈ xtb := xwi_2 _ (List.mem_of_getElem? (i := 54) rfl)
theorem m_313 : Cond.fieldLink RX10 9 "LateMinutes$Ways" "told" "[I" ∈ xtb := xwi_2 _ (List.mem_of_getElem? (i := 55) rfl)
theorem m_314 : Cond.fieldLink RX10 15 "LateMinutes$Ways" "minutes" "[I" ∈ xtb := xwi_2 _ (List.mem_of_getElem? (i := 56) rfl)
theorem m_315 : Cond.fieldLink RX10 18 "LateMinutes$Ways" "weights" "[I" ∈ xtb := xwi_2 _ (List.mem_of_getElem? (i := 57) rfl)
theorem m_316 : Cond.fieldLink RX10 21 "LateMinutes$Ways" "allWeights" "[I" ∈ xtb := xwi_2 _ (List.mem_of_getElem? (i := 58) rfl)
theorem m_317 : Cond.fieldLink RX10 24 "LateMinutes$Ways" "crossing" "[Z" ∈ xtb := xwi_2 _ (List.mem_of_getElem? (i := 59) rfl)
def xwl_3 : List Cond := [Cond.fieldLink RX10 28 "LateMinutes$Ways" "late" "[J", Cond.fieldLink RX10 60 "LateMinutes$Ways" "shut" "I", Cond.fieldLink RX10 32 "LateMinutes$Ways" "all" "I", Cond.fieldLink RX10 57 "LateMinutes$Ways" "more" "I", Cond.fieldLink RX10 36 "LateMinutes$Ways" "drawn" "I", Cond.code yX6_init cX6_init 3 none, Cond.code yX8_init cX8_init 1 none, Cond.fieldLink RX8 11 "LateMinutes$Tally" "minutes" "[I", Cond.fieldLink RX8 15 "LateMinutes$Tally" "weights" "[J", Cond.fieldLink RX8 19 "LateMinutes$Tally" "size" "I", Cond.fieldLink RX6 32 "LateMinutes$Rest" "people" "LLateMinutes$People;", Cond.fieldLink RX6 36 "LateMinutes$Rest" "ways" "LLateMinutes$Ways;", Cond.fieldLink RX6 9 "LateMinutes$Rest" "aheads" "[I", Cond.fieldLink RX6 15 "LateMinutes$Rest" "costs" "[J", Cond.fieldLink RX6 22 "LateMinutes$Rest" "lasts" "LLateMinutes$Tally;", Cond.fieldLink RX6 26 "LateMinutes$Rest" "spare" "LLateMinutes$Tally;", Cond.fieldLink RX6 29 "LateMinutes$Rest" "each" "LLateMinutes$Tally;", Cond.fieldLink RX11 10 "LateMinutes" "tape" "LLateMinutes$Tape;", Cond.fieldLink RX11 19 "LateMinutes" "reader" "LLateMinutes$LawReader;", Cond.fieldLink RX11 26 "LateMinutes" "people" "LLateMinutes$People;", Cond.fieldLink RX11 35 "LateMinutes" "meetings" "LLateMinutes$Meetings;", Cond.fieldLink RX11 42 "LateMinutes" "notes" "LLateMinutes$Notes;", Cond.fieldLink RX11 49 "LateMinutes" "striking" "LLateMinutes$Striking;", Cond.fieldLink RX11 56 "LateMinutes" "ways" "LLateMinutes$Ways;", Cond.fieldLink RX11 65 "LateMinutes" "rest" "LLateMinutes$Rest;", Cond.fieldLink RX11 69 "LateMinutes" "now" "I", Cond.code yX11_now cX11_now 2 (some .boolean), Cond.methodLink RX11 73 yX11_within, Cond.static yX11_within, Cond.code yX11_within cX11_within 3 (some .boolean), Cond.methodLink RX11 77 yX5_emptyHours, Cond.instanceMethod yX5_emptyHours, Cond.selects RX5 yX5_emptyHours yX5_emptyHours, Cond.code yX5_emptyHours cX5_emptyHours 1 none, Cond.code yX11_worth cX11_worth 4 (some .boolean), Cond.methodLink RX11 80 yX11_isPerson, Cond.static yX11_isPerson, Cond.code yX11_isPerson cX11_isPerson 1 (some .boolean), Cond.methodLink RX11 84 yX5_setWorth, Cond.instanceMethod yX5_setWorth, Cond.selects RX5 yX5_setWorth yX5_setWorth, Cond.code yX5_setWorth cX5_setWorth 5 none, Cond.methodLink RX5 27 yX5_slot, Cond.static yX5_slot, Cond.code yX5_slot cX5_slot 2 (some .int), Cond.code yX11_meeting cX11_meeting 4 (some .int), Cond.methodLink RX11 88 yJ6_bitCount_0f7a4, Cond.static yJ6_bitCount_0f7a4, Cond.code yJ6_bitCount_0f7a4 cJ6_bitCount_0f7a4 1 (some .int), Cond.constant RJ6 265 (1431655765), Cond.constant RJ6 266 (858993459), Cond.constant RJ6 267 (252645135), Cond.code yX3_add cX3_add 4 (some .int), Cond.code yX2_init cX2_init 4 none, Cond.fieldLink RX2 19 "LateMinutes$Meeting" "minute" "I", Cond.fieldLink RX2 22 "LateMinutes$Meeting" "people" "I", Cond.fieldLink RX2 9 "LateMinutes$Meeting" "comings" "[I", Cond.fieldLink RX2 37 "LateMinutes$Meeting" "settled" "Z", Cond.code yX11_came cX11_came 5 (some .boolean), Cond.methodLink RX11 98 yX3_find]
set_option maxRecDepth 100000 in
theorem xwh_3 : xwl_3.all (fun w => decide (w ∈ lw_tbl) && goodWord w) = true := by decide +kernel
theorem xwi_3 : ∀ w ∈ xwl_3, w ∈ xtb := fun w h => xwi xwh_3 w h
theorem m_318 : Cond.fieldLink RX10 28 "LateMinutes$Ways" "late" "[J" ∈ xtb := xwi_3 _ (List.mem_of_getElem? (i := 0) rfl)
theorem m_319 : Cond.fieldLink RX10 60 "LateMinutes$Ways" "shut" "I" ∈ xtb := xwi_3 _ (List.mem_of_getElem? (i := 1) rfl)
theorem m_320 : Cond.fieldLink RX10 32 "LateMinutes$Ways" "all" "I" ∈ xtb := xwi_3 _ (List.mem_of_getElem? (i := 2) rfl)
theorem m_321 : Cond.fieldLink RX10 57 "LateMinutes$Ways" "more" "I" ∈ xtb := xwi_3 _ (List.mem_of_getElem? (i := 3) rfl)
theorem m_322 : Cond.fieldLink RX10 36 "LateMinutes$Ways" "drawn" "I" ∈ xtb := xwi_3 _ (List.mem_of_getElem? (i := 4) rfl)
theorem m_351 : Cond.code yX6_init cX6_init 3 none ∈ xtb := xwi_3 _ (List.mem_of_getElem? (i := 5) rfl)
theorem m_357 : Cond.code yX8_init cX8_init 1 none ∈ xtb := xwi_3 _ (List.mem_of_getElem? (i := 6) rfl)
theorem m_359 : Cond.fieldLink RX8 11 "LateMinutes$Tally" "minutes" "[I" ∈ xtb := xwi_3 _ (List.mem_of_getElem? (i := 7) rfl)
theorem m_360 : Cond.fieldLink RX8 15 "LateMinutes$Tally" "weights" "[J" ∈ xtb := xwi_3 _ (List.mem_of_getElem? (i := 8) rfl)
theorem m_361 : Cond.fieldLink RX8 19 "LateMinutes$Tally" "size" "I" ∈ xtb := xwi_3 _ (List.mem_of_getElem? (i := 9) rfl)
theorem m_369 : Cond.fieldLink RX6 32 "LateMinutes$Rest" "people" "LLateMinutes$People;" ∈ xtb := xwi_3 _ (List.mem_of_getElem? (i := 10) rfl)
theorem m_370 : Cond.fieldLink RX6 36 "LateMinutes$Rest" "ways" "LLateMinutes$Ways;" ∈ xtb := xwi_3 _ (List.mem_of_getElem? (i := 11) rfl)
theorem m_371 : Cond.fieldLink RX6 9 "LateMinutes$Rest" "aheads" "[I" ∈ xtb := xwi_3 _ (List.mem_of_getElem? (i := 12) rfl)
theorem m_372 : Cond.fieldLink RX6 15 "LateMinutes$Rest" "costs" "[J" ∈ xtb := xwi_3 _ (List.mem_of_getElem? (i := 13) rfl)
theorem m_373 : Cond.fieldLink RX6 22 "LateMinutes$Rest" "lasts" "LLateMinutes$Tally;" ∈ xtb := xwi_3 _ (List.mem_of_getElem? (i := 14) rfl)
theorem m_374 : Cond.fieldLink RX6 26 "LateMinutes$Rest" "spare" "LLateMinutes$Tally;" ∈ xtb := xwi_3 _ (List.mem_of_getElem? (i := 15) rfl)
theorem m_375 : Cond.fieldLink RX6 29 "LateMinutes$Rest" "each" "LLateMinutes$Tally;" ∈ xtb := xwi_3 _ (List.mem_of_getElem? (i := 16) rfl)
theorem m_391 : Cond.fieldLink RX11 10 "LateMinutes" "tape" "LLateMinutes$Tape;" ∈ xtb := xwi_3 _ (List.mem_of_getElem? (i := 17) rfl)
theorem m_392 : Cond.fieldLink RX11 19 "LateMinutes" "reader" "LLateMinutes$LawReader;" ∈ xtb := xwi_3 _ (List.mem_of_getElem? (i := 18) rfl)
theorem m_393 : Cond.fieldLink RX11 26 "LateMinutes" "people" "LLateMinutes$People;" ∈ xtb := xwi_3 _ (List.mem_of_getElem? (i := 19) rfl)
theorem m_394 : Cond.fieldLink RX11 35 "LateMinutes" "meetings" "LLateMinutes$Meetings;" ∈ xtb := xwi_3 _ (List.mem_of_getElem? (i := 20) rfl)
theorem m_395 : Cond.fieldLink RX11 42 "LateMinutes" "notes" "LLateMinutes$Notes;" ∈ xtb := xwi_3 _ (List.mem_of_getElem? (i := 21) rfl)
theorem m_396 : Cond.fieldLink RX11 49 "LateMinutes" "striking" "LLateMinutes$Striking;" ∈ xtb := xwi_3 _ (List.mem_of_getElem? (i := 22) rfl)
theorem m_397 : Cond.fieldLink RX11 56 "LateMinutes" "ways" "LLateMinutes$Ways;" ∈ xtb := xwi_3 _ (List.mem_of_getElem? (i := 23) rfl)
theorem m_398 : Cond.fieldLink RX11 65 "LateMinutes" "rest" "LLateMinutes$Rest;" ∈ xtb := xwi_3 _ (List.mem_of_getElem? (i := 24) rfl)
theorem m_399 : Cond.fieldLink RX11 69 "LateMinutes" "now" "I" ∈ xtb := xwi_3 _ (List.mem_of_getElem? (i := 25) rfl)
theorem m_422 : Cond.code yX11_now cX11_now 2 (some .boolean) ∈ xtb := xwi_3 _ (List.mem_of_getElem? (i := 26) rfl)
theorem m_423 : Cond.methodLink RX11 73 yX11_within ∈ xtb := xwi_3 _ (List.mem_of_getElem? (i := 27) rfl)
theorem m_424 : Cond.static yX11_within ∈ xtb := xwi_3 _ (List.mem_of_getElem? (i := 28) rfl)
theorem m_425 : Cond.code yX11_within cX11_within 3 (some .boolean) ∈ xtb := xwi_3 _ (List.mem_of_getElem? (i := 29) rfl)
theorem m_426 : Cond.methodLink RX11 77 yX5_emptyHours ∈ xtb := xwi_3 _ (List.mem_of_getElem? (i := 30) rfl)
theorem m_427 : Cond.instanceMethod yX5_emptyHours ∈ xtb := xwi_3 _ (List.mem_of_getElem? (i := 31) rfl)
theorem m_428 : Cond.selects RX5 yX5_emptyHours yX5_emptyHours ∈ xtb := xwi_3 _ (List.mem_of_getElem? (i := 32) rfl)
theorem m_429 : Cond.code yX5_emptyHours cX5_emptyHours 1 none ∈ xtb := xwi_3 _ (List.mem_of_getElem? (i := 33) rfl)
theorem m_433 : Cond.code yX11_worth cX11_worth 4 (some .boolean) ∈ xtb := xwi_3 _ (List.mem_of_getElem? (i := 34) rfl)
theorem m_434 : Cond.methodLink RX11 80 yX11_isPerson ∈ xtb := xwi_3 _ (List.mem_of_getElem? (i := 35) rfl)
theorem m_435 : Cond.static yX11_isPerson ∈ xtb := xwi_3 _ (List.mem_of_getElem? (i := 36) rfl)
theorem m_436 : Cond.code yX11_isPerson cX11_isPerson 1 (some .boolean) ∈ xtb := xwi_3 _ (List.mem_of_getElem? (i := 37) rfl)
theorem m_437 : Cond.methodLink RX11 84 yX5_setWorth ∈ xtb := xwi_3 _ (List.mem_of_getElem? (i := 38) rfl)
theorem m_438 : Cond.instanceMethod yX5_setWorth ∈ xtb := xwi_3 _ (List.mem_of_getElem? (i := 39) rfl)
theorem m_439 : Cond.selects RX5 yX5_setWorth yX5_setWorth ∈ xtb := xwi_3 _ (List.mem_of_getElem? (i := 40) rfl)
theorem m_440 : Cond.code yX5_setWorth cX5_setWorth 5 none ∈ xtb := xwi_3 _ (List.mem_of_getElem? (i := 41) rfl)
theorem m_441 : Cond.methodLink RX5 27 yX5_slot ∈ xtb := xwi_3 _ (List.mem_of_getElem? (i := 42) rfl)
theorem m_442 : Cond.static yX5_slot ∈ xtb := xwi_3 _ (List.mem_of_getElem? (i := 43) rfl)
theorem m_443 : Cond.code yX5_slot cX5_slot 2 (some .int) ∈ xtb := xwi_3 _ (List.mem_of_getElem? (i := 44) rfl)
theorem m_447 : Cond.code yX11_meeting cX11_meeting 4 (some .int) ∈ xtb := xwi_3 _ (List.mem_of_getElem? (i := 45) rfl)
theorem m_448 : Cond.methodLink RX11 88 yJ6_bitCount_0f7a4 ∈ xtb := xwi_3 _ (List.mem_of_getElem? (i := 46) rfl)
theorem m_449 : Cond.static yJ6_bitCount_0f7a4 ∈ xtb := xwi_3 _ (List.mem_of_getElem? (i := 47) rfl)
theorem m_450 : Cond.code yJ6_bitCount_0f7a4 cJ6_bitCount_0f7a4 1 (some .int) ∈ xtb := xwi_3 _ (List.mem_of_getElem? (i := 48) rfl)
theorem m_451 : Cond.constant RJ6 265 (1431655765) ∈ xtb := xwi_3 _ (List.mem_of_getElem? (i := 49) rfl)
theorem m_452 : Cond.constant RJ6 266 (858993459) ∈ xtb := xwi_3 _ (List.mem_of_getElem? (i := 50) rfl)
theorem m_453 : Cond.constant RJ6 267 (252645135) ∈ xtb := xwi_3 _ (List.mem_of_getElem? (i := 51) rfl)
theorem m_457 : Cond.code yX3_add cX3_add 4 (some .int) ∈ xtb := xwi_3 _ (List.mem_of_getElem? (i := 52) rfl)
theorem m_461 : Cond.code yX2_init cX2_init 4 none ∈ xtb := xwi_3 _ (List.mem_of_getElem? (i := 53) rfl)
theorem m_467 : Cond.fieldLink RX2 19 "LateMinutes$Meeting" "minute" "I" ∈ xtb := xwi_3 _ (List.mem_of_getElem? (i := 54) rfl)
theorem m_472 : Cond.fieldLink RX2 22 "LateMinutes$Meeting" "people" "I" ∈ xtb := xwi_3 _ (List.mem_of_getElem? (i := 55) rfl)
theorem m_473 : Cond.fieldLink RX2 9 "LateMinutes$Meeting" "comings" "[I" ∈ xtb := xwi_3 _ (List.mem_of_getElem? (i := 56) rfl)
theorem m_474 : Cond.fieldLink RX2 37 "LateMinutes$Meeting" "settled" "Z" ∈ xtb := xwi_3 _ (List.mem_of_getElem? (i := 57) rfl)
theorem m_489 : Cond.code yX11_came cX11_came 5 (some .boolean) ∈ xtb := xwi_3 _ (List.mem_of_getElem? (i := 58) rfl)
theorem m_490 : Cond.methodLink RX11 98 yX3_find ∈ xtb := xwi_3 _ (List.mem_of_getElem? (i := 59) rfl)
def xwl_4 : List Cond := [Cond.instanceMethod yX3_find, Cond.selects RX3 yX3_find yX3_find, Cond.code yX3_find cX3_find 2 (some (.object "LateMinutes$Meeting")), Cond.methodLink RX11 102 yX2_isSettled, Cond.instanceMethod yX2_isSettled, Cond.selects RX2 yX2_isSettled yX2_isSettled, Cond.code yX2_isSettled cX2_isSettled 1 (some .boolean), Cond.methodLink RX11 108 yX2_includes, Cond.instanceMethod yX2_includes, Cond.selects RX2 yX2_includes yX2_includes, Cond.code yX2_includes cX2_includes 2 (some .boolean), Cond.methodLink RX11 111 yX2_tell, Cond.instanceMethod yX2_tell, Cond.selects RX2 yX2_tell yX2_tell, Cond.code yX2_tell cX2_tell 3 none, Cond.code yX11_feed cX11_feed 6 (some .int), Cond.methodLink RX11 115 yX9_length, Cond.instanceMethod yX9_length, Cond.selects RX9 yX9_length yX9_length, Cond.code yX9_length cX9_length 1 (some .int), Cond.methodLink RX11 119 yX9_put, Cond.instanceMethod yX9_put, Cond.selects RX9 yX9_put yX9_put, Cond.code yX9_put cX9_put 3 none, Cond.code yX11_law cX11_law 3 (some .int), Cond.methodLink RX11 123 yX1_read, Cond.instanceMethod yX1_read, Cond.selects RX1 yX1_read yX1_read, Cond.code yX1_read cX1_read 4 (some .int), Cond.static yX11_held, Cond.code yX11_held cX11_held 3 (some .int), Cond.methodLink RX11 348 yJ9_min_7cf53, Cond.static yJ9_min_7cf53, Cond.code yJ9_min_7cf53 cJ9_min_7cf53 2 (some .int), Cond.methodLink RX11 353 yJ9_max_7cf53, Cond.static yJ9_max_7cf53, Cond.code yJ9_max_7cf53 cJ9_max_7cf53 2 (some .int), Cond.methodLink RX1 36 yX9_byteAt, Cond.instanceMethod yX9_byteAt, Cond.selects RX9 yX9_byteAt yX9_byteAt, Cond.code yX9_byteAt cX9_byteAt 2 (some .int), Cond.methodLink RX1 48 yX0_empty, Cond.instanceMethod yX0_empty, Cond.selects RX0 yX0_empty yX0_empty, Cond.code yX0_empty cX0_empty 1 none, Cond.methodLink RX1 51 yX1_readClause, Cond.instanceMethod yX1_readClause, Cond.code yX1_readClause cX1_readClause 2 none, Cond.methodLink RX1 58 yX1_sign, Cond.instanceMethod yX1_sign, Cond.code yX1_sign cX1_sign 1 (some .int), Cond.methodLink RX1 61 yX1_stop, Cond.instanceMethod yX1_stop, Cond.code yX1_stop cX1_stop 2 none, Cond.methodLink RX1 25 yX0_length, Cond.instanceMethod yX0_length, Cond.selects RX0 yX0_length yX0_length, Cond.code yX0_length cX0_length 1 (some .int), Cond.methodLink RX1 64 yX0_openClause, Cond.instanceMethod yX0_openClause]
set_option maxRecDepth 100000 in
theorem xwh_4 : xwl_4.all (fun w => decide (w ∈ lw_tbl) && goodWord w) = true := by decide +kernel
theorem xwi_4 : ∀ w ∈ xwl_4, w ∈ xtb := fun w h => xwi xwh_4 w h
theorem m_491 : Cond.instanceMethod yX3_find ∈ xtb := xwi_4 _ (List.mem_of_getElem? (i := 0) rfl)
theorem m_492 : Cond.selects RX3 yX3_find yX3_find ∈ xtb := xwi_4 _ (List.mem_of_getElem? (i := 1) rfl)
theorem m_493 : Cond.code yX3_find cX3_find 2 (some (.object "LateMinutes$Meeting")) ∈ xtb := xwi_4 _ (List.mem_of_getElem? (i := 2) rfl)
theorem m_494 : Cond.methodLink RX11 102 yX2_isSettled ∈ xtb := xwi_4 _ (List.mem_of_getElem? (i := 3) rfl)
theorem m_495 : Cond.instanceMethod yX2_isSettled ∈ xtb := xwi_4 _ (List.mem_of_getElem? (i := 4) rfl)
theorem m_496 : Cond.selects RX2 yX2_isSettled yX2_isSettled ∈ xtb := xwi_4 _ (List.mem_of_getElem? (i := 5) rfl)
theorem m_497 : Cond.code yX2_isSettled cX2_isSettled 1 (some .boolean) ∈ xtb := xwi_4 _ (List.mem_of_getElem? (i := 6) rfl)
theorem m_498 : Cond.methodLink RX11 108 yX2_includes ∈ xtb := xwi_4 _ (List.mem_of_getElem? (i := 7) rfl)
theorem m_499 : Cond.instanceMethod yX2_includes ∈ xtb := xwi_4 _ (List.mem_of_getElem? (i := 8) rfl)
theorem m_500 : Cond.selects RX2 yX2_includes yX2_includes ∈ xtb := xwi_4 _ (List.mem_of_getElem? (i := 9) rfl)
theorem m_501 : Cond.code yX2_includes cX2_includes 2 (some .boolean) ∈ xtb := xwi_4 _ (List.mem_of_getElem? (i := 10) rfl)
theorem m_502 : Cond.methodLink RX11 111 yX2_tell ∈ xtb := xwi_4 _ (List.mem_of_getElem? (i := 11) rfl)
theorem m_503 : Cond.instanceMethod yX2_tell ∈ xtb := xwi_4 _ (List.mem_of_getElem? (i := 12) rfl)
theorem m_504 : Cond.selects RX2 yX2_tell yX2_tell ∈ xtb := xwi_4 _ (List.mem_of_getElem? (i := 13) rfl)
theorem m_505 : Cond.code yX2_tell cX2_tell 3 none ∈ xtb := xwi_4 _ (List.mem_of_getElem? (i := 14) rfl)
theorem m_509 : Cond.code yX11_feed cX11_feed 6 (some .int) ∈ xtb := xwi_4 _ (List.mem_of_getElem? (i := 15) rfl)
theorem m_510 : Cond.methodLink RX11 115 yX9_length ∈ xtb := xwi_4 _ (List.mem_of_getElem? (i := 16) rfl)
theorem m_511 : Cond.instanceMethod yX9_length ∈ xtb := xwi_4 _ (List.mem_of_getElem? (i := 17) rfl)
theorem m_512 : Cond.selects RX9 yX9_length yX9_length ∈ xtb := xwi_4 _ (List.mem_of_getElem? (i := 18) rfl)
theorem m_513 : Cond.code yX9_length cX9_length 1 (some .int) ∈ xtb := xwi_4 _ (List.mem_of_getElem? (i := 19) rfl)
theorem m_514 : Cond.methodLink RX11 119 yX9_put ∈ xtb := xwi_4 _ (List.mem_of_getElem? (i := 20) rfl)
theorem m_515 : Cond.instanceMethod yX9_put ∈ xtb := xwi_4 _ (List.mem_of_getElem? (i := 21) rfl)
theorem m_516 : Cond.selects RX9 yX9_put yX9_put ∈ xtb := xwi_4 _ (List.mem_of_getElem? (i := 22) rfl)
theorem m_517 : Cond.code yX9_put cX9_put 3 none ∈ xtb := xwi_4 _ (List.mem_of_getElem? (i := 23) rfl)
theorem m_521 : Cond.code yX11_law cX11_law 3 (some .int) ∈ xtb := xwi_4 _ (List.mem_of_getElem? (i := 24) rfl)
theorem m_522 : Cond.methodLink RX11 123 yX1_read ∈ xtb := xwi_4 _ (List.mem_of_getElem? (i := 25) rfl)
theorem m_523 : Cond.instanceMethod yX1_read ∈ xtb := xwi_4 _ (List.mem_of_getElem? (i := 26) rfl)
theorem m_524 : Cond.selects RX1 yX1_read yX1_read ∈ xtb := xwi_4 _ (List.mem_of_getElem? (i := 27) rfl)
theorem m_525 : Cond.code yX1_read cX1_read 4 (some .int) ∈ xtb := xwi_4 _ (List.mem_of_getElem? (i := 28) rfl)
theorem m_527 : Cond.static yX11_held ∈ xtb := xwi_4 _ (List.mem_of_getElem? (i := 29) rfl)
theorem m_528 : Cond.code yX11_held cX11_held 3 (some .int) ∈ xtb := xwi_4 _ (List.mem_of_getElem? (i := 30) rfl)
theorem m_529 : Cond.methodLink RX11 348 yJ9_min_7cf53 ∈ xtb := xwi_4 _ (List.mem_of_getElem? (i := 31) rfl)
theorem m_530 : Cond.static yJ9_min_7cf53 ∈ xtb := xwi_4 _ (List.mem_of_getElem? (i := 32) rfl)
theorem m_531 : Cond.code yJ9_min_7cf53 cJ9_min_7cf53 2 (some .int) ∈ xtb := xwi_4 _ (List.mem_of_getElem? (i := 33) rfl)
theorem m_532 : Cond.methodLink RX11 353 yJ9_max_7cf53 ∈ xtb := xwi_4 _ (List.mem_of_getElem? (i := 34) rfl)
theorem m_533 : Cond.static yJ9_max_7cf53 ∈ xtb := xwi_4 _ (List.mem_of_getElem? (i := 35) rfl)
theorem m_534 : Cond.code yJ9_max_7cf53 cJ9_max_7cf53 2 (some .int) ∈ xtb := xwi_4 _ (List.mem_of_getElem? (i := 36) rfl)
theorem m_535 : Cond.methodLink RX1 36 yX9_byteAt ∈ xtb := xwi_4 _ (List.mem_of_getElem? (i := 37) rfl)
theorem m_536 : Cond.instanceMethod yX9_byteAt ∈ xtb := xwi_4 _ (List.mem_of_getElem? (i := 38) rfl)
theorem m_537 : Cond.selects RX9 yX9_byteAt yX9_byteAt ∈ xtb := xwi_4 _ (List.mem_of_getElem? (i := 39) rfl)
theorem m_538 : Cond.code yX9_byteAt cX9_byteAt 2 (some .int) ∈ xtb := xwi_4 _ (List.mem_of_getElem? (i := 40) rfl)
theorem m_539 : Cond.methodLink RX1 48 yX0_empty ∈ xtb := xwi_4 _ (List.mem_of_getElem? (i := 41) rfl)
theorem m_540 : Cond.instanceMethod yX0_empty ∈ xtb := xwi_4 _ (List.mem_of_getElem? (i := 42) rfl)
theorem m_541 : Cond.selects RX0 yX0_empty yX0_empty ∈ xtb := xwi_4 _ (List.mem_of_getElem? (i := 43) rfl)
theorem m_542 : Cond.code yX0_empty cX0_empty 1 none ∈ xtb := xwi_4 _ (List.mem_of_getElem? (i := 44) rfl)
theorem m_543 : Cond.methodLink RX1 51 yX1_readClause ∈ xtb := xwi_4 _ (List.mem_of_getElem? (i := 45) rfl)
theorem m_545 : Cond.instanceMethod yX1_readClause ∈ xtb := xwi_4 _ (List.mem_of_getElem? (i := 46) rfl)
theorem m_546 : Cond.code yX1_readClause cX1_readClause 2 none ∈ xtb := xwi_4 _ (List.mem_of_getElem? (i := 47) rfl)
theorem m_547 : Cond.methodLink RX1 58 yX1_sign ∈ xtb := xwi_4 _ (List.mem_of_getElem? (i := 48) rfl)
theorem m_549 : Cond.instanceMethod yX1_sign ∈ xtb := xwi_4 _ (List.mem_of_getElem? (i := 49) rfl)
theorem m_550 : Cond.code yX1_sign cX1_sign 1 (some .int) ∈ xtb := xwi_4 _ (List.mem_of_getElem? (i := 50) rfl)
theorem m_551 : Cond.methodLink RX1 61 yX1_stop ∈ xtb := xwi_4 _ (List.mem_of_getElem? (i := 51) rfl)
theorem m_553 : Cond.instanceMethod yX1_stop ∈ xtb := xwi_4 _ (List.mem_of_getElem? (i := 52) rfl)
theorem m_554 : Cond.code yX1_stop cX1_stop 2 none ∈ xtb := xwi_4 _ (List.mem_of_getElem? (i := 53) rfl)
theorem m_555 : Cond.methodLink RX1 25 yX0_length ∈ xtb := xwi_4 _ (List.mem_of_getElem? (i := 54) rfl)
theorem m_556 : Cond.instanceMethod yX0_length ∈ xtb := xwi_4 _ (List.mem_of_getElem? (i := 55) rfl)
theorem m_557 : Cond.selects RX0 yX0_length yX0_length ∈ xtb := xwi_4 _ (List.mem_of_getElem? (i := 56) rfl)
theorem m_558 : Cond.code yX0_length cX0_length 1 (some .int) ∈ xtb := xwi_4 _ (List.mem_of_getElem? (i := 57) rfl)
theorem m_559 : Cond.methodLink RX1 64 yX0_openClause ∈ xtb := xwi_4 _ (List.mem_of_getElem? (i := 58) rfl)
theorem m_560 : Cond.instanceMethod yX0_openClause ∈ xtb := xwi_4 _ (List.mem_of_getElem? (i := 59) rfl)
def xwl_5 : List Cond := [Cond.selects RX0 yX0_openClause yX0_openClause, Cond.code yX0_openClause cX0_openClause 2 none, Cond.methodLink RX1 67 yX1_readSum, Cond.instanceMethod yX1_readSum, Cond.code yX1_readSum cX1_readSum 6 none, Cond.methodLink RX1 89 yX1_readFactor, Cond.instanceMethod yX1_readFactor, Cond.code yX1_readFactor cX1_readFactor 5 none, Cond.methodLink RX1 85 yX1_opens, Cond.instanceMethod yX1_opens, Cond.code yX1_opens cX1_opens 2 (some .boolean), Cond.methodLink RX1 54 yX1_pass, Cond.instanceMethod yX1_pass, Cond.code yX1_pass cX1_pass 2 none, Cond.methodLink RX1 95 yX1_isDigit, Cond.static yX1_isDigit, Cond.code yX1_isDigit cX1_isDigit 1 (some .boolean), Cond.methodLink RX1 82 yX0_emit, Cond.instanceMethod yX0_emit, Cond.selects RX0 yX0_emit yX0_emit, Cond.code yX0_emit cX0_emit 2 none, Cond.methodLink RX1 98 yX0_isFact, Cond.static yX0_isFact, Cond.code yX0_isFact cX0_isFact 1 (some .boolean), Cond.methodLink RX1 92 yX1_isOperator, Cond.static yX1_isOperator, Cond.code yX1_isOperator cX1_isOperator 1 (some .boolean), Cond.methodLink RX1 70 yX0_openCondition, Cond.instanceMethod yX0_openCondition, Cond.selects RX0 yX0_openCondition yX0_openCondition, Cond.code yX0_openCondition cX0_openCondition 1 none, Cond.methodLink RX1 73 yX1_readChoice, Cond.instanceMethod yX1_readChoice, Cond.code yX1_readChoice cX1_readChoice 5 none, Cond.methodLink RX1 79 yX1_readPiece, Cond.instanceMethod yX1_readPiece, Cond.code yX1_readPiece cX1_readPiece 4 none, Cond.methodLink RX1 76 yX0_closeClause, Cond.instanceMethod yX0_closeClause, Cond.selects RX0 yX0_closeClause yX0_closeClause, Cond.code yX0_closeClause cX0_closeClause 1 none, Cond.methodLink RX11 127 yX9_empty, Cond.instanceMethod yX9_empty, Cond.selects RX9 yX9_empty yX9_empty, Cond.code yX9_empty cX9_empty 1 none, Cond.code yX11_begins cX11_begins 3 (some .int), Cond.methodLink RX11 130 yX2_start, Cond.instanceMethod yX2_start, Cond.selects RX2 yX2_start yX2_start, Cond.code yX2_start cX2_start 3 (some .int), Cond.methodLink RX2 41 yX2_includes, Cond.methodLink RX2 45 yJ9_max_7cf53, Cond.code yX11_keeps cX11_keeps 5 (some .int), Cond.methodLink RX11 133 yX2_comingOf, Cond.instanceMethod yX2_comingOf, Cond.selects RX2 yX2_comingOf yX2_comingOf, Cond.code yX2_comingOf cX2_comingOf 2 (some .int), Cond.methodLink RX11 136 yX2_waitFor, Cond.instanceMethod yX2_waitFor, Cond.selects RX2 yX2_waitFor yX2_waitFor]
set_option maxRecDepth 100000 in
theorem xwh_5 : xwl_5.all (fun w => decide (w ∈ lw_tbl) && goodWord w) = true := by decide +kernel
theorem xwi_5 : ∀ w ∈ xwl_5, w ∈ xtb := fun w h => xwi xwh_5 w h
theorem m_561 : Cond.selects RX0 yX0_openClause yX0_openClause ∈ xtb := xwi_5 _ (List.mem_of_getElem? (i := 0) rfl)
theorem m_562 : Cond.code yX0_openClause cX0_openClause 2 none ∈ xtb := xwi_5 _ (List.mem_of_getElem? (i := 1) rfl)
theorem m_563 : Cond.methodLink RX1 67 yX1_readSum ∈ xtb := xwi_5 _ (List.mem_of_getElem? (i := 2) rfl)
theorem m_565 : Cond.instanceMethod yX1_readSum ∈ xtb := xwi_5 _ (List.mem_of_getElem? (i := 3) rfl)
theorem m_566 : Cond.code yX1_readSum cX1_readSum 6 none ∈ xtb := xwi_5 _ (List.mem_of_getElem? (i := 4) rfl)
theorem m_567 : Cond.methodLink RX1 89 yX1_readFactor ∈ xtb := xwi_5 _ (List.mem_of_getElem? (i := 5) rfl)
theorem m_569 : Cond.instanceMethod yX1_readFactor ∈ xtb := xwi_5 _ (List.mem_of_getElem? (i := 6) rfl)
theorem m_570 : Cond.code yX1_readFactor cX1_readFactor 5 none ∈ xtb := xwi_5 _ (List.mem_of_getElem? (i := 7) rfl)
theorem m_571 : Cond.methodLink RX1 85 yX1_opens ∈ xtb := xwi_5 _ (List.mem_of_getElem? (i := 8) rfl)
theorem m_573 : Cond.instanceMethod yX1_opens ∈ xtb := xwi_5 _ (List.mem_of_getElem? (i := 9) rfl)
theorem m_574 : Cond.code yX1_opens cX1_opens 2 (some .boolean) ∈ xtb := xwi_5 _ (List.mem_of_getElem? (i := 10) rfl)
theorem m_575 : Cond.methodLink RX1 54 yX1_pass ∈ xtb := xwi_5 _ (List.mem_of_getElem? (i := 11) rfl)
theorem m_577 : Cond.instanceMethod yX1_pass ∈ xtb := xwi_5 _ (List.mem_of_getElem? (i := 12) rfl)
theorem m_578 : Cond.code yX1_pass cX1_pass 2 none ∈ xtb := xwi_5 _ (List.mem_of_getElem? (i := 13) rfl)
theorem m_579 : Cond.methodLink RX1 95 yX1_isDigit ∈ xtb := xwi_5 _ (List.mem_of_getElem? (i := 14) rfl)
theorem m_580 : Cond.static yX1_isDigit ∈ xtb := xwi_5 _ (List.mem_of_getElem? (i := 15) rfl)
theorem m_581 : Cond.code yX1_isDigit cX1_isDigit 1 (some .boolean) ∈ xtb := xwi_5 _ (List.mem_of_getElem? (i := 16) rfl)
theorem m_582 : Cond.methodLink RX1 82 yX0_emit ∈ xtb := xwi_5 _ (List.mem_of_getElem? (i := 17) rfl)
theorem m_583 : Cond.instanceMethod yX0_emit ∈ xtb := xwi_5 _ (List.mem_of_getElem? (i := 18) rfl)
theorem m_584 : Cond.selects RX0 yX0_emit yX0_emit ∈ xtb := xwi_5 _ (List.mem_of_getElem? (i := 19) rfl)
theorem m_585 : Cond.code yX0_emit cX0_emit 2 none ∈ xtb := xwi_5 _ (List.mem_of_getElem? (i := 20) rfl)
theorem m_586 : Cond.methodLink RX1 98 yX0_isFact ∈ xtb := xwi_5 _ (List.mem_of_getElem? (i := 21) rfl)
theorem m_587 : Cond.static yX0_isFact ∈ xtb := xwi_5 _ (List.mem_of_getElem? (i := 22) rfl)
theorem m_588 : Cond.code yX0_isFact cX0_isFact 1 (some .boolean) ∈ xtb := xwi_5 _ (List.mem_of_getElem? (i := 23) rfl)
theorem m_589 : Cond.methodLink RX1 92 yX1_isOperator ∈ xtb := xwi_5 _ (List.mem_of_getElem? (i := 24) rfl)
theorem m_590 : Cond.static yX1_isOperator ∈ xtb := xwi_5 _ (List.mem_of_getElem? (i := 25) rfl)
theorem m_591 : Cond.code yX1_isOperator cX1_isOperator 1 (some .boolean) ∈ xtb := xwi_5 _ (List.mem_of_getElem? (i := 26) rfl)
theorem m_592 : Cond.methodLink RX1 70 yX0_openCondition ∈ xtb := xwi_5 _ (List.mem_of_getElem? (i := 27) rfl)
theorem m_593 : Cond.instanceMethod yX0_openCondition ∈ xtb := xwi_5 _ (List.mem_of_getElem? (i := 28) rfl)
theorem m_594 : Cond.selects RX0 yX0_openCondition yX0_openCondition ∈ xtb := xwi_5 _ (List.mem_of_getElem? (i := 29) rfl)
theorem m_595 : Cond.code yX0_openCondition cX0_openCondition 1 none ∈ xtb := xwi_5 _ (List.mem_of_getElem? (i := 30) rfl)
theorem m_596 : Cond.methodLink RX1 73 yX1_readChoice ∈ xtb := xwi_5 _ (List.mem_of_getElem? (i := 31) rfl)
theorem m_598 : Cond.instanceMethod yX1_readChoice ∈ xtb := xwi_5 _ (List.mem_of_getElem? (i := 32) rfl)
theorem m_599 : Cond.code yX1_readChoice cX1_readChoice 5 none ∈ xtb := xwi_5 _ (List.mem_of_getElem? (i := 33) rfl)
theorem m_600 : Cond.methodLink RX1 79 yX1_readPiece ∈ xtb := xwi_5 _ (List.mem_of_getElem? (i := 34) rfl)
theorem m_602 : Cond.instanceMethod yX1_readPiece ∈ xtb := xwi_5 _ (List.mem_of_getElem? (i := 35) rfl)
theorem m_603 : Cond.code yX1_readPiece cX1_readPiece 4 none ∈ xtb := xwi_5 _ (List.mem_of_getElem? (i := 36) rfl)
theorem m_604 : Cond.methodLink RX1 76 yX0_closeClause ∈ xtb := xwi_5 _ (List.mem_of_getElem? (i := 37) rfl)
theorem m_605 : Cond.instanceMethod yX0_closeClause ∈ xtb := xwi_5 _ (List.mem_of_getElem? (i := 38) rfl)
theorem m_606 : Cond.selects RX0 yX0_closeClause yX0_closeClause ∈ xtb := xwi_5 _ (List.mem_of_getElem? (i := 39) rfl)
theorem m_607 : Cond.code yX0_closeClause cX0_closeClause 1 none ∈ xtb := xwi_5 _ (List.mem_of_getElem? (i := 40) rfl)
theorem m_608 : Cond.methodLink RX11 127 yX9_empty ∈ xtb := xwi_5 _ (List.mem_of_getElem? (i := 41) rfl)
theorem m_609 : Cond.instanceMethod yX9_empty ∈ xtb := xwi_5 _ (List.mem_of_getElem? (i := 42) rfl)
theorem m_610 : Cond.selects RX9 yX9_empty yX9_empty ∈ xtb := xwi_5 _ (List.mem_of_getElem? (i := 43) rfl)
theorem m_611 : Cond.code yX9_empty cX9_empty 1 none ∈ xtb := xwi_5 _ (List.mem_of_getElem? (i := 44) rfl)
theorem m_615 : Cond.code yX11_begins cX11_begins 3 (some .int) ∈ xtb := xwi_5 _ (List.mem_of_getElem? (i := 45) rfl)
theorem m_616 : Cond.methodLink RX11 130 yX2_start ∈ xtb := xwi_5 _ (List.mem_of_getElem? (i := 46) rfl)
theorem m_617 : Cond.instanceMethod yX2_start ∈ xtb := xwi_5 _ (List.mem_of_getElem? (i := 47) rfl)
theorem m_618 : Cond.selects RX2 yX2_start yX2_start ∈ xtb := xwi_5 _ (List.mem_of_getElem? (i := 48) rfl)
theorem m_619 : Cond.code yX2_start cX2_start 3 (some .int) ∈ xtb := xwi_5 _ (List.mem_of_getElem? (i := 49) rfl)
theorem m_620 : Cond.methodLink RX2 41 yX2_includes ∈ xtb := xwi_5 _ (List.mem_of_getElem? (i := 50) rfl)
theorem m_621 : Cond.methodLink RX2 45 yJ9_max_7cf53 ∈ xtb := xwi_5 _ (List.mem_of_getElem? (i := 51) rfl)
theorem m_625 : Cond.code yX11_keeps cX11_keeps 5 (some .int) ∈ xtb := xwi_5 _ (List.mem_of_getElem? (i := 52) rfl)
theorem m_626 : Cond.methodLink RX11 133 yX2_comingOf ∈ xtb := xwi_5 _ (List.mem_of_getElem? (i := 53) rfl)
theorem m_627 : Cond.instanceMethod yX2_comingOf ∈ xtb := xwi_5 _ (List.mem_of_getElem? (i := 54) rfl)
theorem m_628 : Cond.selects RX2 yX2_comingOf yX2_comingOf ∈ xtb := xwi_5 _ (List.mem_of_getElem? (i := 55) rfl)
theorem m_629 : Cond.code yX2_comingOf cX2_comingOf 2 (some .int) ∈ xtb := xwi_5 _ (List.mem_of_getElem? (i := 56) rfl)
theorem m_630 : Cond.methodLink RX11 136 yX2_waitFor ∈ xtb := xwi_5 _ (List.mem_of_getElem? (i := 57) rfl)
theorem m_631 : Cond.instanceMethod yX2_waitFor ∈ xtb := xwi_5 _ (List.mem_of_getElem? (i := 58) rfl)
theorem m_632 : Cond.selects RX2 yX2_waitFor yX2_waitFor ∈ xtb := xwi_5 _ (List.mem_of_getElem? (i := 59) rfl)
def xwl_6 : List Cond := [Cond.code yX2_waitFor cX2_waitFor 3 (some .int), Cond.methodLink RX2 51 yX2_comingOf, Cond.code yX11_kept cX11_kept 6 (some .int), Cond.methodLink RX11 140 yX3_keptBy, Cond.instanceMethod yX3_keptBy, Cond.selects RX3 yX3_keptBy yX3_keptBy, Cond.code yX3_keptBy cX3_keptBy 8 (some .int), Cond.methodLink RX3 38 yX3_find, Cond.methodLink RX3 53 yX2_lateness, Cond.instanceMethod yX2_lateness, Cond.selects RX2 yX2_lateness yX2_lateness, Cond.code yX2_lateness cX2_lateness 2 (some .int), Cond.methodLink RX3 60 yX3_didKeep, Cond.static yX3_didKeep, Cond.code yX3_didKeep cX3_didKeep 5 (some .boolean), Cond.methodLink RX3 67 yX2_includes, Cond.methodLink RX3 71 yX2_start, Cond.methodLink RX3 50 yX2_keeper, Cond.instanceMethod yX2_keeper, Cond.selects RX2 yX2_keeper yX2_keeper, Cond.code yX2_keeper cX2_keeper 4 (some .int), Cond.methodLink RX3 74 yX2_comingOf, Cond.methodLink RX11 143 yX3_keeperAt, Cond.instanceMethod yX3_keeperAt, Cond.selects RX3 yX3_keeperAt yX3_keeperAt, Cond.code yX3_keeperAt cX3_keeperAt 3 (some .int), Cond.code yX11_owes cX11_owes 6 (some .int), Cond.methodLink RX11 146 yX11_isCase, Cond.instanceMethod yX11_isCase, Cond.code yX11_isCase cX11_isCase 5 (some .boolean), Cond.methodLink RX11 149 yX3_gather, Cond.instanceMethod yX3_gather, Cond.selects RX3 yX3_gather yX3_gather, Cond.code yX3_gather cX3_gather 5 (some (.array .int)), Cond.methodLink RX3 77 yX2_waitFor, Cond.methodLink RX3 81 yX3_putFact, Cond.instanceMethod yX3_putFact, Cond.code yX3_putFact cX3_putFact 4 none, Cond.methodLink RX3 85 yX2_many, Cond.instanceMethod yX2_many, Cond.selects RX2 yX2_many yX2_many, Cond.code yX2_many cX2_many 1 (some .int), Cond.methodLink RX2 31 yJ6_bitCount_0f7a4, Cond.methodLink RX3 88 yX3_keptBy, Cond.methodLink RX3 91 yX2_laterThan, Cond.instanceMethod yX2_laterThan, Cond.selects RX2 yX2_laterThan yX2_laterThan, Cond.code yX2_laterThan cX2_laterThan 5 (some .int), Cond.methodLink RX3 94 yX2_hour, Cond.instanceMethod yX2_hour, Cond.selects RX2 yX2_hour yX2_hour, Cond.code yX2_hour cX2_hour 1 (some .int), Cond.methodLink RX3 97 yX5_worthAt, Cond.instanceMethod yX5_worthAt, Cond.selects RX5 yX5_worthAt yX5_worthAt, Cond.code yX5_worthAt cX5_worthAt 4 (some .int), Cond.methodLink RX11 153 yX11_minutesOwed, Cond.instanceMethod yX11_minutesOwed, Cond.code yX11_minutesOwed cX11_minutesOwed 2 (some .int), Cond.methodLink RX11 332 yX1_current]
set_option maxRecDepth 100000 in
theorem xwh_6 : xwl_6.all (fun w => decide (w ∈ lw_tbl) && goodWord w) = true := by decide +kernel
theorem xwi_6 : ∀ w ∈ xwl_6, w ∈ xtb := fun w h => xwi xwh_6 w h
theorem m_633 : Cond.code yX2_waitFor cX2_waitFor 3 (some .int) ∈ xtb := xwi_6 _ (List.mem_of_getElem? (i := 0) rfl)
theorem m_634 : Cond.methodLink RX2 51 yX2_comingOf ∈ xtb := xwi_6 _ (List.mem_of_getElem? (i := 1) rfl)
theorem m_638 : Cond.code yX11_kept cX11_kept 6 (some .int) ∈ xtb := xwi_6 _ (List.mem_of_getElem? (i := 2) rfl)
theorem m_639 : Cond.methodLink RX11 140 yX3_keptBy ∈ xtb := xwi_6 _ (List.mem_of_getElem? (i := 3) rfl)
theorem m_640 : Cond.instanceMethod yX3_keptBy ∈ xtb := xwi_6 _ (List.mem_of_getElem? (i := 4) rfl)
theorem m_641 : Cond.selects RX3 yX3_keptBy yX3_keptBy ∈ xtb := xwi_6 _ (List.mem_of_getElem? (i := 5) rfl)
theorem m_642 : Cond.code yX3_keptBy cX3_keptBy 8 (some .int) ∈ xtb := xwi_6 _ (List.mem_of_getElem? (i := 6) rfl)
theorem m_643 : Cond.methodLink RX3 38 yX3_find ∈ xtb := xwi_6 _ (List.mem_of_getElem? (i := 7) rfl)
theorem m_644 : Cond.methodLink RX3 53 yX2_lateness ∈ xtb := xwi_6 _ (List.mem_of_getElem? (i := 8) rfl)
theorem m_645 : Cond.instanceMethod yX2_lateness ∈ xtb := xwi_6 _ (List.mem_of_getElem? (i := 9) rfl)
theorem m_646 : Cond.selects RX2 yX2_lateness yX2_lateness ∈ xtb := xwi_6 _ (List.mem_of_getElem? (i := 10) rfl)
theorem m_647 : Cond.code yX2_lateness cX2_lateness 2 (some .int) ∈ xtb := xwi_6 _ (List.mem_of_getElem? (i := 11) rfl)
theorem m_648 : Cond.methodLink RX3 60 yX3_didKeep ∈ xtb := xwi_6 _ (List.mem_of_getElem? (i := 12) rfl)
theorem m_649 : Cond.static yX3_didKeep ∈ xtb := xwi_6 _ (List.mem_of_getElem? (i := 13) rfl)
theorem m_650 : Cond.code yX3_didKeep cX3_didKeep 5 (some .boolean) ∈ xtb := xwi_6 _ (List.mem_of_getElem? (i := 14) rfl)
theorem m_651 : Cond.methodLink RX3 67 yX2_includes ∈ xtb := xwi_6 _ (List.mem_of_getElem? (i := 15) rfl)
theorem m_652 : Cond.methodLink RX3 71 yX2_start ∈ xtb := xwi_6 _ (List.mem_of_getElem? (i := 16) rfl)
theorem m_653 : Cond.methodLink RX3 50 yX2_keeper ∈ xtb := xwi_6 _ (List.mem_of_getElem? (i := 17) rfl)
theorem m_654 : Cond.instanceMethod yX2_keeper ∈ xtb := xwi_6 _ (List.mem_of_getElem? (i := 18) rfl)
theorem m_655 : Cond.selects RX2 yX2_keeper yX2_keeper ∈ xtb := xwi_6 _ (List.mem_of_getElem? (i := 19) rfl)
theorem m_656 : Cond.code yX2_keeper cX2_keeper 4 (some .int) ∈ xtb := xwi_6 _ (List.mem_of_getElem? (i := 20) rfl)
theorem m_657 : Cond.methodLink RX3 74 yX2_comingOf ∈ xtb := xwi_6 _ (List.mem_of_getElem? (i := 21) rfl)
theorem m_658 : Cond.methodLink RX11 143 yX3_keeperAt ∈ xtb := xwi_6 _ (List.mem_of_getElem? (i := 22) rfl)
theorem m_659 : Cond.instanceMethod yX3_keeperAt ∈ xtb := xwi_6 _ (List.mem_of_getElem? (i := 23) rfl)
theorem m_660 : Cond.selects RX3 yX3_keeperAt yX3_keeperAt ∈ xtb := xwi_6 _ (List.mem_of_getElem? (i := 24) rfl)
theorem m_661 : Cond.code yX3_keeperAt cX3_keeperAt 3 (some .int) ∈ xtb := xwi_6 _ (List.mem_of_getElem? (i := 25) rfl)
theorem m_665 : Cond.code yX11_owes cX11_owes 6 (some .int) ∈ xtb := xwi_6 _ (List.mem_of_getElem? (i := 26) rfl)
theorem m_666 : Cond.methodLink RX11 146 yX11_isCase ∈ xtb := xwi_6 _ (List.mem_of_getElem? (i := 27) rfl)
theorem m_668 : Cond.instanceMethod yX11_isCase ∈ xtb := xwi_6 _ (List.mem_of_getElem? (i := 28) rfl)
theorem m_669 : Cond.code yX11_isCase cX11_isCase 5 (some .boolean) ∈ xtb := xwi_6 _ (List.mem_of_getElem? (i := 29) rfl)
theorem m_670 : Cond.methodLink RX11 149 yX3_gather ∈ xtb := xwi_6 _ (List.mem_of_getElem? (i := 30) rfl)
theorem m_671 : Cond.instanceMethod yX3_gather ∈ xtb := xwi_6 _ (List.mem_of_getElem? (i := 31) rfl)
theorem m_672 : Cond.selects RX3 yX3_gather yX3_gather ∈ xtb := xwi_6 _ (List.mem_of_getElem? (i := 32) rfl)
theorem m_673 : Cond.code yX3_gather cX3_gather 5 (some (.array .int)) ∈ xtb := xwi_6 _ (List.mem_of_getElem? (i := 33) rfl)
theorem m_674 : Cond.methodLink RX3 77 yX2_waitFor ∈ xtb := xwi_6 _ (List.mem_of_getElem? (i := 34) rfl)
theorem m_675 : Cond.methodLink RX3 81 yX3_putFact ∈ xtb := xwi_6 _ (List.mem_of_getElem? (i := 35) rfl)
theorem m_677 : Cond.instanceMethod yX3_putFact ∈ xtb := xwi_6 _ (List.mem_of_getElem? (i := 36) rfl)
theorem m_678 : Cond.code yX3_putFact cX3_putFact 4 none ∈ xtb := xwi_6 _ (List.mem_of_getElem? (i := 37) rfl)
theorem m_679 : Cond.methodLink RX3 85 yX2_many ∈ xtb := xwi_6 _ (List.mem_of_getElem? (i := 38) rfl)
theorem m_680 : Cond.instanceMethod yX2_many ∈ xtb := xwi_6 _ (List.mem_of_getElem? (i := 39) rfl)
theorem m_681 : Cond.selects RX2 yX2_many yX2_many ∈ xtb := xwi_6 _ (List.mem_of_getElem? (i := 40) rfl)
theorem m_682 : Cond.code yX2_many cX2_many 1 (some .int) ∈ xtb := xwi_6 _ (List.mem_of_getElem? (i := 41) rfl)
theorem m_683 : Cond.methodLink RX2 31 yJ6_bitCount_0f7a4 ∈ xtb := xwi_6 _ (List.mem_of_getElem? (i := 42) rfl)
theorem m_684 : Cond.methodLink RX3 88 yX3_keptBy ∈ xtb := xwi_6 _ (List.mem_of_getElem? (i := 43) rfl)
theorem m_685 : Cond.methodLink RX3 91 yX2_laterThan ∈ xtb := xwi_6 _ (List.mem_of_getElem? (i := 44) rfl)
theorem m_686 : Cond.instanceMethod yX2_laterThan ∈ xtb := xwi_6 _ (List.mem_of_getElem? (i := 45) rfl)
theorem m_687 : Cond.selects RX2 yX2_laterThan yX2_laterThan ∈ xtb := xwi_6 _ (List.mem_of_getElem? (i := 46) rfl)
theorem m_688 : Cond.code yX2_laterThan cX2_laterThan 5 (some .int) ∈ xtb := xwi_6 _ (List.mem_of_getElem? (i := 47) rfl)
theorem m_689 : Cond.methodLink RX3 94 yX2_hour ∈ xtb := xwi_6 _ (List.mem_of_getElem? (i := 48) rfl)
theorem m_690 : Cond.instanceMethod yX2_hour ∈ xtb := xwi_6 _ (List.mem_of_getElem? (i := 49) rfl)
theorem m_691 : Cond.selects RX2 yX2_hour yX2_hour ∈ xtb := xwi_6 _ (List.mem_of_getElem? (i := 50) rfl)
theorem m_692 : Cond.code yX2_hour cX2_hour 1 (some .int) ∈ xtb := xwi_6 _ (List.mem_of_getElem? (i := 51) rfl)
theorem m_693 : Cond.methodLink RX3 97 yX5_worthAt ∈ xtb := xwi_6 _ (List.mem_of_getElem? (i := 52) rfl)
theorem m_694 : Cond.instanceMethod yX5_worthAt ∈ xtb := xwi_6 _ (List.mem_of_getElem? (i := 53) rfl)
theorem m_695 : Cond.selects RX5 yX5_worthAt yX5_worthAt ∈ xtb := xwi_6 _ (List.mem_of_getElem? (i := 54) rfl)
theorem m_696 : Cond.code yX5_worthAt cX5_worthAt 4 (some .int) ∈ xtb := xwi_6 _ (List.mem_of_getElem? (i := 55) rfl)
theorem m_697 : Cond.methodLink RX11 153 yX11_minutesOwed ∈ xtb := xwi_6 _ (List.mem_of_getElem? (i := 56) rfl)
theorem m_699 : Cond.instanceMethod yX11_minutesOwed ∈ xtb := xwi_6 _ (List.mem_of_getElem? (i := 57) rfl)
theorem m_700 : Cond.code yX11_minutesOwed cX11_minutesOwed 2 (some .int) ∈ xtb := xwi_6 _ (List.mem_of_getElem? (i := 58) rfl)
theorem m_701 : Cond.methodLink RX11 332 yX1_current ∈ xtb := xwi_6 _ (List.mem_of_getElem? (i := 59) rfl)
def xwl_7 : List Cond := [Cond.instanceMethod yX1_current, Cond.selects RX1 yX1_current yX1_current, Cond.code yX1_current cX1_current 1 (some (.object "LateMinutes$Law")), Cond.methodLink RX11 336 yX0_amount, Cond.instanceMethod yX0_amount, Cond.selects RX0 yX0_amount yX0_amount, Cond.code yX0_amount cX0_amount 7 (some .int), Cond.methodLink RX0 38 yX0_reckon, Cond.instanceMethod yX0_reckon, Cond.code yX0_reckon cX0_reckon 8 (some .long), Cond.methodLink RX0 48 yJ9_max_7cf53, Cond.methodLink RX0 54 yX0_isFact, Cond.methodLink RX0 58 yX0_valueOf, Cond.static yX0_valueOf, Cond.code yX0_valueOf cX0_valueOf 3 (some .int), Cond.methodLink RX0 62 yX0_not, Cond.static yX0_not, Cond.code yX0_not cX0_not 2 (some .long), Cond.constantLong RX0 42 (1099511627776), Cond.methodLink RX0 66 yX0_join, Cond.static yX0_join, Cond.code yX0_join cX0_join 7 (some .long), Cond.methodLink RX11 157 yX11_hundredths, Cond.instanceMethod yX11_hundredths, Cond.code yX11_hundredths cX11_hundredths 2 (some .int), Cond.methodLink RX11 160 yX11_daysToLapse, Cond.instanceMethod yX11_daysToLapse, Cond.code yX11_daysToLapse cX11_daysToLapse 2 (some .int), Cond.code yX11_chain cX11_chain 5 (some .int), Cond.methodLink RX11 163 yX11_followChain, Cond.instanceMethod yX11_followChain, Cond.code yX11_followChain cX11_followChain 5 (some (.array .int)), Cond.methodLink RX11 342 yX3_follow, Cond.instanceMethod yX3_follow, Cond.selects RX3 yX3_follow yX3_follow, Cond.code yX3_follow cX3_follow 11 none, Cond.methodLink RX3 105 yX3_keeperAt, Cond.methodLink RX11 166 yX3_payers, Cond.instanceMethod yX3_payers, Cond.selects RX3 yX3_payers yX3_payers, Cond.code yX3_payers cX3_payers 1 (some .int), Cond.methodLink RX11 169 yX3_payerAt, Cond.instanceMethod yX3_payerAt, Cond.selects RX3 yX3_payerAt yX3_payerAt, Cond.code yX3_payerAt cX3_payerAt 2 (some .int), Cond.methodLink RX11 172 yX3_paidAt, Cond.instanceMethod yX3_paidAt, Cond.selects RX3 yX3_paidAt yX3_paidAt, Cond.code yX3_paidAt cX3_paidAt 2 (some .int), Cond.code yX11_settle cX11_settle 6 (some .int), Cond.methodLink RX11 178 yX4_length, Cond.instanceMethod yX4_length, Cond.selects RX4 yX4_length yX4_length, Cond.code yX4_length cX4_length 1 (some .int), Cond.methodLink RX11 179 yX11_noteChain, Cond.instanceMethod yX11_noteChain, Cond.code yX11_noteChain cX11_noteChain 8 (some .boolean), Cond.methodLink RX11 345 yX4_add, Cond.instanceMethod yX4_add, Cond.selects RX4 yX4_add yX4_add]
set_option maxRecDepth 100000 in
theorem xwh_7 : xwl_7.all (fun w => decide (w ∈ lw_tbl) && goodWord w) = true := by decide +kernel
theorem xwi_7 : ∀ w ∈ xwl_7, w ∈ xtb := fun w h => xwi xwh_7 w h
theorem m_702 : Cond.instanceMethod yX1_current ∈ xtb := xwi_7 _ (List.mem_of_getElem? (i := 0) rfl)
theorem m_703 : Cond.selects RX1 yX1_current yX1_current ∈ xtb := xwi_7 _ (List.mem_of_getElem? (i := 1) rfl)
theorem m_704 : Cond.code yX1_current cX1_current 1 (some (.object "LateMinutes$Law")) ∈ xtb := xwi_7 _ (List.mem_of_getElem? (i := 2) rfl)
theorem m_705 : Cond.methodLink RX11 336 yX0_amount ∈ xtb := xwi_7 _ (List.mem_of_getElem? (i := 3) rfl)
theorem m_706 : Cond.instanceMethod yX0_amount ∈ xtb := xwi_7 _ (List.mem_of_getElem? (i := 4) rfl)
theorem m_707 : Cond.selects RX0 yX0_amount yX0_amount ∈ xtb := xwi_7 _ (List.mem_of_getElem? (i := 5) rfl)
theorem m_708 : Cond.code yX0_amount cX0_amount 7 (some .int) ∈ xtb := xwi_7 _ (List.mem_of_getElem? (i := 6) rfl)
theorem m_709 : Cond.methodLink RX0 38 yX0_reckon ∈ xtb := xwi_7 _ (List.mem_of_getElem? (i := 7) rfl)
theorem m_711 : Cond.instanceMethod yX0_reckon ∈ xtb := xwi_7 _ (List.mem_of_getElem? (i := 8) rfl)
theorem m_712 : Cond.code yX0_reckon cX0_reckon 8 (some .long) ∈ xtb := xwi_7 _ (List.mem_of_getElem? (i := 9) rfl)
theorem m_713 : Cond.methodLink RX0 48 yJ9_max_7cf53 ∈ xtb := xwi_7 _ (List.mem_of_getElem? (i := 10) rfl)
theorem m_714 : Cond.methodLink RX0 54 yX0_isFact ∈ xtb := xwi_7 _ (List.mem_of_getElem? (i := 11) rfl)
theorem m_715 : Cond.methodLink RX0 58 yX0_valueOf ∈ xtb := xwi_7 _ (List.mem_of_getElem? (i := 12) rfl)
theorem m_716 : Cond.static yX0_valueOf ∈ xtb := xwi_7 _ (List.mem_of_getElem? (i := 13) rfl)
theorem m_717 : Cond.code yX0_valueOf cX0_valueOf 3 (some .int) ∈ xtb := xwi_7 _ (List.mem_of_getElem? (i := 14) rfl)
theorem m_718 : Cond.methodLink RX0 62 yX0_not ∈ xtb := xwi_7 _ (List.mem_of_getElem? (i := 15) rfl)
theorem m_719 : Cond.static yX0_not ∈ xtb := xwi_7 _ (List.mem_of_getElem? (i := 16) rfl)
theorem m_720 : Cond.code yX0_not cX0_not 2 (some .long) ∈ xtb := xwi_7 _ (List.mem_of_getElem? (i := 17) rfl)
theorem m_721 : Cond.constantLong RX0 42 (1099511627776) ∈ xtb := xwi_7 _ (List.mem_of_getElem? (i := 18) rfl)
theorem m_722 : Cond.methodLink RX0 66 yX0_join ∈ xtb := xwi_7 _ (List.mem_of_getElem? (i := 19) rfl)
theorem m_723 : Cond.static yX0_join ∈ xtb := xwi_7 _ (List.mem_of_getElem? (i := 20) rfl)
theorem m_724 : Cond.code yX0_join cX0_join 7 (some .long) ∈ xtb := xwi_7 _ (List.mem_of_getElem? (i := 21) rfl)
theorem m_726 : Cond.methodLink RX11 157 yX11_hundredths ∈ xtb := xwi_7 _ (List.mem_of_getElem? (i := 22) rfl)
theorem m_728 : Cond.instanceMethod yX11_hundredths ∈ xtb := xwi_7 _ (List.mem_of_getElem? (i := 23) rfl)
theorem m_729 : Cond.code yX11_hundredths cX11_hundredths 2 (some .int) ∈ xtb := xwi_7 _ (List.mem_of_getElem? (i := 24) rfl)
theorem m_730 : Cond.methodLink RX11 160 yX11_daysToLapse ∈ xtb := xwi_7 _ (List.mem_of_getElem? (i := 25) rfl)
theorem m_732 : Cond.instanceMethod yX11_daysToLapse ∈ xtb := xwi_7 _ (List.mem_of_getElem? (i := 26) rfl)
theorem m_733 : Cond.code yX11_daysToLapse cX11_daysToLapse 2 (some .int) ∈ xtb := xwi_7 _ (List.mem_of_getElem? (i := 27) rfl)
theorem m_737 : Cond.code yX11_chain cX11_chain 5 (some .int) ∈ xtb := xwi_7 _ (List.mem_of_getElem? (i := 28) rfl)
theorem m_738 : Cond.methodLink RX11 163 yX11_followChain ∈ xtb := xwi_7 _ (List.mem_of_getElem? (i := 29) rfl)
theorem m_740 : Cond.instanceMethod yX11_followChain ∈ xtb := xwi_7 _ (List.mem_of_getElem? (i := 30) rfl)
theorem m_741 : Cond.code yX11_followChain cX11_followChain 5 (some (.array .int)) ∈ xtb := xwi_7 _ (List.mem_of_getElem? (i := 31) rfl)
theorem m_742 : Cond.methodLink RX11 342 yX3_follow ∈ xtb := xwi_7 _ (List.mem_of_getElem? (i := 32) rfl)
theorem m_743 : Cond.instanceMethod yX3_follow ∈ xtb := xwi_7 _ (List.mem_of_getElem? (i := 33) rfl)
theorem m_744 : Cond.selects RX3 yX3_follow yX3_follow ∈ xtb := xwi_7 _ (List.mem_of_getElem? (i := 34) rfl)
theorem m_745 : Cond.code yX3_follow cX3_follow 11 none ∈ xtb := xwi_7 _ (List.mem_of_getElem? (i := 35) rfl)
theorem m_746 : Cond.methodLink RX3 105 yX3_keeperAt ∈ xtb := xwi_7 _ (List.mem_of_getElem? (i := 36) rfl)
theorem m_747 : Cond.methodLink RX11 166 yX3_payers ∈ xtb := xwi_7 _ (List.mem_of_getElem? (i := 37) rfl)
theorem m_748 : Cond.instanceMethod yX3_payers ∈ xtb := xwi_7 _ (List.mem_of_getElem? (i := 38) rfl)
theorem m_749 : Cond.selects RX3 yX3_payers yX3_payers ∈ xtb := xwi_7 _ (List.mem_of_getElem? (i := 39) rfl)
theorem m_750 : Cond.code yX3_payers cX3_payers 1 (some .int) ∈ xtb := xwi_7 _ (List.mem_of_getElem? (i := 40) rfl)
theorem m_751 : Cond.methodLink RX11 169 yX3_payerAt ∈ xtb := xwi_7 _ (List.mem_of_getElem? (i := 41) rfl)
theorem m_752 : Cond.instanceMethod yX3_payerAt ∈ xtb := xwi_7 _ (List.mem_of_getElem? (i := 42) rfl)
theorem m_753 : Cond.selects RX3 yX3_payerAt yX3_payerAt ∈ xtb := xwi_7 _ (List.mem_of_getElem? (i := 43) rfl)
theorem m_754 : Cond.code yX3_payerAt cX3_payerAt 2 (some .int) ∈ xtb := xwi_7 _ (List.mem_of_getElem? (i := 44) rfl)
theorem m_755 : Cond.methodLink RX11 172 yX3_paidAt ∈ xtb := xwi_7 _ (List.mem_of_getElem? (i := 45) rfl)
theorem m_756 : Cond.instanceMethod yX3_paidAt ∈ xtb := xwi_7 _ (List.mem_of_getElem? (i := 46) rfl)
theorem m_757 : Cond.selects RX3 yX3_paidAt yX3_paidAt ∈ xtb := xwi_7 _ (List.mem_of_getElem? (i := 47) rfl)
theorem m_758 : Cond.code yX3_paidAt cX3_paidAt 2 (some .int) ∈ xtb := xwi_7 _ (List.mem_of_getElem? (i := 48) rfl)
theorem m_762 : Cond.code yX11_settle cX11_settle 6 (some .int) ∈ xtb := xwi_7 _ (List.mem_of_getElem? (i := 49) rfl)
theorem m_763 : Cond.methodLink RX11 178 yX4_length ∈ xtb := xwi_7 _ (List.mem_of_getElem? (i := 50) rfl)
theorem m_764 : Cond.instanceMethod yX4_length ∈ xtb := xwi_7 _ (List.mem_of_getElem? (i := 51) rfl)
theorem m_765 : Cond.selects RX4 yX4_length yX4_length ∈ xtb := xwi_7 _ (List.mem_of_getElem? (i := 52) rfl)
theorem m_766 : Cond.code yX4_length cX4_length 1 (some .int) ∈ xtb := xwi_7 _ (List.mem_of_getElem? (i := 53) rfl)
theorem m_767 : Cond.methodLink RX11 179 yX11_noteChain ∈ xtb := xwi_7 _ (List.mem_of_getElem? (i := 54) rfl)
theorem m_769 : Cond.instanceMethod yX11_noteChain ∈ xtb := xwi_7 _ (List.mem_of_getElem? (i := 55) rfl)
theorem m_770 : Cond.code yX11_noteChain cX11_noteChain 8 (some .boolean) ∈ xtb := xwi_7 _ (List.mem_of_getElem? (i := 56) rfl)
theorem m_771 : Cond.methodLink RX11 345 yX4_add ∈ xtb := xwi_7 _ (List.mem_of_getElem? (i := 57) rfl)
theorem m_772 : Cond.instanceMethod yX4_add ∈ xtb := xwi_7 _ (List.mem_of_getElem? (i := 58) rfl)
theorem m_773 : Cond.selects RX4 yX4_add yX4_add ∈ xtb := xwi_7 _ (List.mem_of_getElem? (i := 59) rfl)
def xwl_8 : List Cond := [Cond.code yX4_add cX4_add 6 (some .int), Cond.methodLink RX11 183 yX4_dropFrom, Cond.instanceMethod yX4_dropFrom, Cond.selects RX4 yX4_dropFrom yX4_dropFrom, Cond.code yX4_dropFrom cX4_dropFrom 2 none, Cond.methodLink RX11 186 yX2_close, Cond.instanceMethod yX2_close, Cond.selects RX2 yX2_close yX2_close, Cond.code yX2_close cX2_close 1 none, Cond.code yX11_noteIs cX11_noteIs 3 (some .int), Cond.methodLink RX11 189 yX4_holds, Cond.instanceMethod yX4_holds, Cond.selects RX4 yX4_holds yX4_holds, Cond.code yX4_holds cX4_holds 2 (some .boolean), Cond.methodLink RX11 192 yX4_owerOf, Cond.instanceMethod yX4_owerOf, Cond.selects RX4 yX4_owerOf yX4_owerOf, Cond.code yX4_owerOf cX4_owerOf 2 (some .int), Cond.methodLink RX4 38 yX4_holds, Cond.methodLink RX11 195 yX4_holderOf, Cond.instanceMethod yX4_holderOf, Cond.selects RX4 yX4_holderOf yX4_holderOf, Cond.code yX4_holderOf cX4_holderOf 2 (some .int), Cond.methodLink RX11 198 yX4_minutesOf, Cond.instanceMethod yX4_minutesOf, Cond.selects RX4 yX4_minutesOf yX4_minutesOf, Cond.code yX4_minutesOf cX4_minutesOf 2 (some .int), Cond.methodLink RX11 201 yX4_madeOn, Cond.instanceMethod yX4_madeOn, Cond.selects RX4 yX4_madeOn yX4_madeOn, Cond.code yX4_madeOn cX4_madeOn 2 (some .int), Cond.methodLink RX11 204 yX4_lapsesOn, Cond.instanceMethod yX4_lapsesOn, Cond.selects RX4 yX4_lapsesOn yX4_lapsesOn, Cond.code yX4_lapsesOn cX4_lapsesOn 2 (some .int), Cond.methodLink RX11 207 yX4_isLive, Cond.instanceMethod yX4_isLive, Cond.selects RX4 yX4_isLive yX4_isLive, Cond.code yX4_isLive cX4_isLive 3 (some .boolean), Cond.code yX11_hand cX11_hand 3 (some .boolean), Cond.methodLink RX11 211 yX4_handTo, Cond.instanceMethod yX4_handTo, Cond.selects RX4 yX4_handTo yX4_handTo, Cond.code yX4_handTo cX4_handTo 3 none, Cond.code yX11_cut cX11_cut 3 (some .int), Cond.methodLink RX11 214 yX4_split, Cond.instanceMethod yX4_split, Cond.selects RX4 yX4_split yX4_split, Cond.code yX4_split cX4_split 4 (some .int), Cond.methodLink RX4 42 yX4_add, Cond.code yX11_take cX11_take 6 (some .int), Cond.methodLink RX11 217 yX5_givenIn, Cond.instanceMethod yX5_givenIn, Cond.selects RX5 yX5_givenIn yX5_givenIn, Cond.code yX5_givenIn cX5_givenIn 4 (some .int), Cond.methodLink RX11 220 yX5_takenIn, Cond.instanceMethod yX5_takenIn, Cond.selects RX5 yX5_takenIn yX5_takenIn, Cond.code yX5_takenIn cX5_takenIn 4 (some .int), Cond.methodLink RX11 223 yX5_countTaking]
set_option maxRecDepth 100000 in
theorem xwh_8 : xwl_8.all (fun w => decide (w ∈ lw_tbl) && goodWord w) = true := by decide +kernel
theorem xwi_8 : ∀ w ∈ xwl_8, w ∈ xtb := fun w h => xwi xwh_8 w h
theorem m_774 : Cond.code yX4_add cX4_add 6 (some .int) ∈ xtb := xwi_8 _ (List.mem_of_getElem? (i := 0) rfl)
theorem m_775 : Cond.methodLink RX11 183 yX4_dropFrom ∈ xtb := xwi_8 _ (List.mem_of_getElem? (i := 1) rfl)
theorem m_776 : Cond.instanceMethod yX4_dropFrom ∈ xtb := xwi_8 _ (List.mem_of_getElem? (i := 2) rfl)
theorem m_777 : Cond.selects RX4 yX4_dropFrom yX4_dropFrom ∈ xtb := xwi_8 _ (List.mem_of_getElem? (i := 3) rfl)
theorem m_778 : Cond.code yX4_dropFrom cX4_dropFrom 2 none ∈ xtb := xwi_8 _ (List.mem_of_getElem? (i := 4) rfl)
theorem m_780 : Cond.methodLink RX11 186 yX2_close ∈ xtb := xwi_8 _ (List.mem_of_getElem? (i := 5) rfl)
theorem m_781 : Cond.instanceMethod yX2_close ∈ xtb := xwi_8 _ (List.mem_of_getElem? (i := 6) rfl)
theorem m_782 : Cond.selects RX2 yX2_close yX2_close ∈ xtb := xwi_8 _ (List.mem_of_getElem? (i := 7) rfl)
theorem m_783 : Cond.code yX2_close cX2_close 1 none ∈ xtb := xwi_8 _ (List.mem_of_getElem? (i := 8) rfl)
theorem m_787 : Cond.code yX11_noteIs cX11_noteIs 3 (some .int) ∈ xtb := xwi_8 _ (List.mem_of_getElem? (i := 9) rfl)
theorem m_788 : Cond.methodLink RX11 189 yX4_holds ∈ xtb := xwi_8 _ (List.mem_of_getElem? (i := 10) rfl)
theorem m_789 : Cond.instanceMethod yX4_holds ∈ xtb := xwi_8 _ (List.mem_of_getElem? (i := 11) rfl)
theorem m_790 : Cond.selects RX4 yX4_holds yX4_holds ∈ xtb := xwi_8 _ (List.mem_of_getElem? (i := 12) rfl)
theorem m_791 : Cond.code yX4_holds cX4_holds 2 (some .boolean) ∈ xtb := xwi_8 _ (List.mem_of_getElem? (i := 13) rfl)
theorem m_792 : Cond.methodLink RX11 192 yX4_owerOf ∈ xtb := xwi_8 _ (List.mem_of_getElem? (i := 14) rfl)
theorem m_793 : Cond.instanceMethod yX4_owerOf ∈ xtb := xwi_8 _ (List.mem_of_getElem? (i := 15) rfl)
theorem m_794 : Cond.selects RX4 yX4_owerOf yX4_owerOf ∈ xtb := xwi_8 _ (List.mem_of_getElem? (i := 16) rfl)
theorem m_795 : Cond.code yX4_owerOf cX4_owerOf 2 (some .int) ∈ xtb := xwi_8 _ (List.mem_of_getElem? (i := 17) rfl)
theorem m_796 : Cond.methodLink RX4 38 yX4_holds ∈ xtb := xwi_8 _ (List.mem_of_getElem? (i := 18) rfl)
theorem m_797 : Cond.methodLink RX11 195 yX4_holderOf ∈ xtb := xwi_8 _ (List.mem_of_getElem? (i := 19) rfl)
theorem m_798 : Cond.instanceMethod yX4_holderOf ∈ xtb := xwi_8 _ (List.mem_of_getElem? (i := 20) rfl)
theorem m_799 : Cond.selects RX4 yX4_holderOf yX4_holderOf ∈ xtb := xwi_8 _ (List.mem_of_getElem? (i := 21) rfl)
theorem m_800 : Cond.code yX4_holderOf cX4_holderOf 2 (some .int) ∈ xtb := xwi_8 _ (List.mem_of_getElem? (i := 22) rfl)
theorem m_801 : Cond.methodLink RX11 198 yX4_minutesOf ∈ xtb := xwi_8 _ (List.mem_of_getElem? (i := 23) rfl)
theorem m_802 : Cond.instanceMethod yX4_minutesOf ∈ xtb := xwi_8 _ (List.mem_of_getElem? (i := 24) rfl)
theorem m_803 : Cond.selects RX4 yX4_minutesOf yX4_minutesOf ∈ xtb := xwi_8 _ (List.mem_of_getElem? (i := 25) rfl)
theorem m_804 : Cond.code yX4_minutesOf cX4_minutesOf 2 (some .int) ∈ xtb := xwi_8 _ (List.mem_of_getElem? (i := 26) rfl)
theorem m_805 : Cond.methodLink RX11 201 yX4_madeOn ∈ xtb := xwi_8 _ (List.mem_of_getElem? (i := 27) rfl)
theorem m_806 : Cond.instanceMethod yX4_madeOn ∈ xtb := xwi_8 _ (List.mem_of_getElem? (i := 28) rfl)
theorem m_807 : Cond.selects RX4 yX4_madeOn yX4_madeOn ∈ xtb := xwi_8 _ (List.mem_of_getElem? (i := 29) rfl)
theorem m_808 : Cond.code yX4_madeOn cX4_madeOn 2 (some .int) ∈ xtb := xwi_8 _ (List.mem_of_getElem? (i := 30) rfl)
theorem m_809 : Cond.methodLink RX11 204 yX4_lapsesOn ∈ xtb := xwi_8 _ (List.mem_of_getElem? (i := 31) rfl)
theorem m_810 : Cond.instanceMethod yX4_lapsesOn ∈ xtb := xwi_8 _ (List.mem_of_getElem? (i := 32) rfl)
theorem m_811 : Cond.selects RX4 yX4_lapsesOn yX4_lapsesOn ∈ xtb := xwi_8 _ (List.mem_of_getElem? (i := 33) rfl)
theorem m_812 : Cond.code yX4_lapsesOn cX4_lapsesOn 2 (some .int) ∈ xtb := xwi_8 _ (List.mem_of_getElem? (i := 34) rfl)
theorem m_813 : Cond.methodLink RX11 207 yX4_isLive ∈ xtb := xwi_8 _ (List.mem_of_getElem? (i := 35) rfl)
theorem m_814 : Cond.instanceMethod yX4_isLive ∈ xtb := xwi_8 _ (List.mem_of_getElem? (i := 36) rfl)
theorem m_815 : Cond.selects RX4 yX4_isLive yX4_isLive ∈ xtb := xwi_8 _ (List.mem_of_getElem? (i := 37) rfl)
theorem m_816 : Cond.code yX4_isLive cX4_isLive 3 (some .boolean) ∈ xtb := xwi_8 _ (List.mem_of_getElem? (i := 38) rfl)
theorem m_820 : Cond.code yX11_hand cX11_hand 3 (some .boolean) ∈ xtb := xwi_8 _ (List.mem_of_getElem? (i := 39) rfl)
theorem m_821 : Cond.methodLink RX11 211 yX4_handTo ∈ xtb := xwi_8 _ (List.mem_of_getElem? (i := 40) rfl)
theorem m_822 : Cond.instanceMethod yX4_handTo ∈ xtb := xwi_8 _ (List.mem_of_getElem? (i := 41) rfl)
theorem m_823 : Cond.selects RX4 yX4_handTo yX4_handTo ∈ xtb := xwi_8 _ (List.mem_of_getElem? (i := 42) rfl)
theorem m_824 : Cond.code yX4_handTo cX4_handTo 3 none ∈ xtb := xwi_8 _ (List.mem_of_getElem? (i := 43) rfl)
theorem m_828 : Cond.code yX11_cut cX11_cut 3 (some .int) ∈ xtb := xwi_8 _ (List.mem_of_getElem? (i := 44) rfl)
theorem m_829 : Cond.methodLink RX11 214 yX4_split ∈ xtb := xwi_8 _ (List.mem_of_getElem? (i := 45) rfl)
theorem m_830 : Cond.instanceMethod yX4_split ∈ xtb := xwi_8 _ (List.mem_of_getElem? (i := 46) rfl)
theorem m_831 : Cond.selects RX4 yX4_split yX4_split ∈ xtb := xwi_8 _ (List.mem_of_getElem? (i := 47) rfl)
theorem m_832 : Cond.code yX4_split cX4_split 4 (some .int) ∈ xtb := xwi_8 _ (List.mem_of_getElem? (i := 48) rfl)
theorem m_833 : Cond.methodLink RX4 42 yX4_add ∈ xtb := xwi_8 _ (List.mem_of_getElem? (i := 49) rfl)
theorem m_837 : Cond.code yX11_take cX11_take 6 (some .int) ∈ xtb := xwi_8 _ (List.mem_of_getElem? (i := 50) rfl)
theorem m_838 : Cond.methodLink RX11 217 yX5_givenIn ∈ xtb := xwi_8 _ (List.mem_of_getElem? (i := 51) rfl)
theorem m_839 : Cond.instanceMethod yX5_givenIn ∈ xtb := xwi_8 _ (List.mem_of_getElem? (i := 52) rfl)
theorem m_840 : Cond.selects RX5 yX5_givenIn yX5_givenIn ∈ xtb := xwi_8 _ (List.mem_of_getElem? (i := 53) rfl)
theorem m_841 : Cond.code yX5_givenIn cX5_givenIn 4 (some .int) ∈ xtb := xwi_8 _ (List.mem_of_getElem? (i := 54) rfl)
theorem m_842 : Cond.methodLink RX11 220 yX5_takenIn ∈ xtb := xwi_8 _ (List.mem_of_getElem? (i := 55) rfl)
theorem m_843 : Cond.instanceMethod yX5_takenIn ∈ xtb := xwi_8 _ (List.mem_of_getElem? (i := 56) rfl)
theorem m_844 : Cond.selects RX5 yX5_takenIn yX5_takenIn ∈ xtb := xwi_8 _ (List.mem_of_getElem? (i := 57) rfl)
theorem m_845 : Cond.code yX5_takenIn cX5_takenIn 4 (some .int) ∈ xtb := xwi_8 _ (List.mem_of_getElem? (i := 58) rfl)
theorem m_846 : Cond.methodLink RX11 223 yX5_countTaking ∈ xtb := xwi_8 _ (List.mem_of_getElem? (i := 59) rfl)
def xwl_9 : List Cond := [Cond.instanceMethod yX5_countTaking, Cond.selects RX5 yX5_countTaking yX5_countTaking, Cond.code yX5_countTaking cX5_countTaking 5 none, Cond.methodLink RX5 31 yX5_add, Cond.static yX5_add, Cond.code yX5_add cX5_add 3 none, Cond.methodLink RX11 227 yX4_lessen, Cond.instanceMethod yX4_lessen, Cond.selects RX4 yX4_lessen yX4_lessen, Cond.code yX4_lessen cX4_lessen 3 none, Cond.code yX11_owed cX11_owed 3 (some .int), Cond.methodLink RX11 230 yX4_sumOf, Cond.instanceMethod yX4_sumOf, Cond.selects RX4 yX4_sumOf yX4_sumOf, Cond.code yX4_sumOf cX4_sumOf 6 (some .int), Cond.methodLink RX4 46 yX4_isLive, Cond.code yX11_called cX11_called 3 (some .long), Cond.constantLong RX11 233 (-1), Cond.methodLink RX11 235 yX4_callIn, Cond.instanceMethod yX4_callIn, Cond.selects RX4 yX4_callIn yX4_callIn, Cond.code yX4_callIn cX4_callIn 11 (some .long), Cond.methodLink RX4 50 yX4_sumOf, Cond.methodLink RX4 53 yX5_worthAt, Cond.methodLink RX4 59 yX5_takenIn, Cond.methodLink RX4 62 yX4_useOn, Cond.instanceMethod yX4_useOn, Cond.code yX4_useOn cX4_useOn 5 (some .int), Cond.methodLink RX4 65 yJ9_min_7cf53, Cond.code yX11_round cX11_round 1 (some .int), Cond.methodLink RX11 239 yX7_load, Cond.instanceMethod yX7_load, Cond.selects RX7 yX7_load yX7_load, Cond.code yX7_load cX7_load 6 none, Cond.methodLink RX7 30 yJ7_fill_53178, Cond.methodLink RX7 36 yX4_length, Cond.methodLink RX7 42 yX4_owerOf, Cond.methodLink RX7 46 yX4_holderOf, Cond.methodLink RX7 49 yX4_isLive, Cond.methodLink RX7 57 yX4_minutesOf, Cond.methodLink RX11 243 yX7_leastLeft, Cond.instanceMethod yX7_leastLeft, Cond.selects RX7 yX7_leastLeft yX7_leastLeft, Cond.code yX7_leastLeft cX7_leastLeft 4 (some .int), Cond.constant RX7 60 (86401), Cond.methodLink RX7 61 yX7_measure, Cond.instanceMethod yX7_measure, Cond.code yX7_measure cX7_measure 4 none, Cond.methodLink RX7 70 yX7_widen, Cond.instanceMethod yX7_widen, Cond.code yX7_widen cX7_widen 4 (some .boolean), Cond.methodLink RX7 73 yX7_room, Cond.instanceMethod yX7_room, Cond.code yX7_room cX7_room 4 (some .int), Cond.methodLink RX7 79 yX7_leftFrom, Cond.instanceMethod yX7_leftFrom, Cond.code yX7_leftFrom cX7_leftFrom 3 (some .int), Cond.methodLink RX7 82 yX7_dueFrom, Cond.instanceMethod yX7_dueFrom, Cond.code yX7_dueFrom cX7_dueFrom 3 (some .int)]
set_option maxRecDepth 100000 in
theorem xwh_9 : xwl_9.all (fun w => decide (w ∈ lw_tbl) && goodWord w) = true := by decide +kernel
theorem xwi_9 : ∀ w ∈ xwl_9, w ∈ xtb := fun w h => xwi xwh_9 w h
theorem m_847 : Cond.instanceMethod yX5_countTaking ∈ xtb := xwi_9 _ (List.mem_of_getElem? (i := 0) rfl)
theorem m_848 : Cond.selects RX5 yX5_countTaking yX5_countTaking ∈ xtb := xwi_9 _ (List.mem_of_getElem? (i := 1) rfl)
theorem m_849 : Cond.code yX5_countTaking cX5_countTaking 5 none ∈ xtb := xwi_9 _ (List.mem_of_getElem? (i := 2) rfl)
theorem m_850 : Cond.methodLink RX5 31 yX5_add ∈ xtb := xwi_9 _ (List.mem_of_getElem? (i := 3) rfl)
theorem m_851 : Cond.static yX5_add ∈ xtb := xwi_9 _ (List.mem_of_getElem? (i := 4) rfl)
theorem m_852 : Cond.code yX5_add cX5_add 3 none ∈ xtb := xwi_9 _ (List.mem_of_getElem? (i := 5) rfl)
theorem m_853 : Cond.methodLink RX11 227 yX4_lessen ∈ xtb := xwi_9 _ (List.mem_of_getElem? (i := 6) rfl)
theorem m_854 : Cond.instanceMethod yX4_lessen ∈ xtb := xwi_9 _ (List.mem_of_getElem? (i := 7) rfl)
theorem m_855 : Cond.selects RX4 yX4_lessen yX4_lessen ∈ xtb := xwi_9 _ (List.mem_of_getElem? (i := 8) rfl)
theorem m_856 : Cond.code yX4_lessen cX4_lessen 3 none ∈ xtb := xwi_9 _ (List.mem_of_getElem? (i := 9) rfl)
theorem m_860 : Cond.code yX11_owed cX11_owed 3 (some .int) ∈ xtb := xwi_9 _ (List.mem_of_getElem? (i := 10) rfl)
theorem m_861 : Cond.methodLink RX11 230 yX4_sumOf ∈ xtb := xwi_9 _ (List.mem_of_getElem? (i := 11) rfl)
theorem m_862 : Cond.instanceMethod yX4_sumOf ∈ xtb := xwi_9 _ (List.mem_of_getElem? (i := 12) rfl)
theorem m_863 : Cond.selects RX4 yX4_sumOf yX4_sumOf ∈ xtb := xwi_9 _ (List.mem_of_getElem? (i := 13) rfl)
theorem m_864 : Cond.code yX4_sumOf cX4_sumOf 6 (some .int) ∈ xtb := xwi_9 _ (List.mem_of_getElem? (i := 14) rfl)
theorem m_865 : Cond.methodLink RX4 46 yX4_isLive ∈ xtb := xwi_9 _ (List.mem_of_getElem? (i := 15) rfl)
theorem m_869 : Cond.code yX11_called cX11_called 3 (some .long) ∈ xtb := xwi_9 _ (List.mem_of_getElem? (i := 16) rfl)
theorem m_870 : Cond.constantLong RX11 233 (-1) ∈ xtb := xwi_9 _ (List.mem_of_getElem? (i := 17) rfl)
theorem m_871 : Cond.methodLink RX11 235 yX4_callIn ∈ xtb := xwi_9 _ (List.mem_of_getElem? (i := 18) rfl)
theorem m_872 : Cond.instanceMethod yX4_callIn ∈ xtb := xwi_9 _ (List.mem_of_getElem? (i := 19) rfl)
theorem m_873 : Cond.selects RX4 yX4_callIn yX4_callIn ∈ xtb := xwi_9 _ (List.mem_of_getElem? (i := 20) rfl)
theorem m_874 : Cond.code yX4_callIn cX4_callIn 11 (some .long) ∈ xtb := xwi_9 _ (List.mem_of_getElem? (i := 21) rfl)
theorem m_875 : Cond.methodLink RX4 50 yX4_sumOf ∈ xtb := xwi_9 _ (List.mem_of_getElem? (i := 22) rfl)
theorem m_876 : Cond.methodLink RX4 53 yX5_worthAt ∈ xtb := xwi_9 _ (List.mem_of_getElem? (i := 23) rfl)
theorem m_877 : Cond.methodLink RX4 59 yX5_takenIn ∈ xtb := xwi_9 _ (List.mem_of_getElem? (i := 24) rfl)
theorem m_878 : Cond.methodLink RX4 62 yX4_useOn ∈ xtb := xwi_9 _ (List.mem_of_getElem? (i := 25) rfl)
theorem m_880 : Cond.instanceMethod yX4_useOn ∈ xtb := xwi_9 _ (List.mem_of_getElem? (i := 26) rfl)
theorem m_881 : Cond.code yX4_useOn cX4_useOn 5 (some .int) ∈ xtb := xwi_9 _ (List.mem_of_getElem? (i := 27) rfl)
theorem m_882 : Cond.methodLink RX4 65 yJ9_min_7cf53 ∈ xtb := xwi_9 _ (List.mem_of_getElem? (i := 28) rfl)
theorem m_886 : Cond.code yX11_round cX11_round 1 (some .int) ∈ xtb := xwi_9 _ (List.mem_of_getElem? (i := 29) rfl)
theorem m_887 : Cond.methodLink RX11 239 yX7_load ∈ xtb := xwi_9 _ (List.mem_of_getElem? (i := 30) rfl)
theorem m_888 : Cond.instanceMethod yX7_load ∈ xtb := xwi_9 _ (List.mem_of_getElem? (i := 31) rfl)
theorem m_889 : Cond.selects RX7 yX7_load yX7_load ∈ xtb := xwi_9 _ (List.mem_of_getElem? (i := 32) rfl)
theorem m_890 : Cond.code yX7_load cX7_load 6 none ∈ xtb := xwi_9 _ (List.mem_of_getElem? (i := 33) rfl)
theorem m_891 : Cond.methodLink RX7 30 yJ7_fill_53178 ∈ xtb := xwi_9 _ (List.mem_of_getElem? (i := 34) rfl)
theorem m_892 : Cond.methodLink RX7 36 yX4_length ∈ xtb := xwi_9 _ (List.mem_of_getElem? (i := 35) rfl)
theorem m_893 : Cond.methodLink RX7 42 yX4_owerOf ∈ xtb := xwi_9 _ (List.mem_of_getElem? (i := 36) rfl)
theorem m_894 : Cond.methodLink RX7 46 yX4_holderOf ∈ xtb := xwi_9 _ (List.mem_of_getElem? (i := 37) rfl)
theorem m_895 : Cond.methodLink RX7 49 yX4_isLive ∈ xtb := xwi_9 _ (List.mem_of_getElem? (i := 38) rfl)
theorem m_897 : Cond.methodLink RX7 57 yX4_minutesOf ∈ xtb := xwi_9 _ (List.mem_of_getElem? (i := 39) rfl)
theorem m_898 : Cond.methodLink RX11 243 yX7_leastLeft ∈ xtb := xwi_9 _ (List.mem_of_getElem? (i := 40) rfl)
theorem m_899 : Cond.instanceMethod yX7_leastLeft ∈ xtb := xwi_9 _ (List.mem_of_getElem? (i := 41) rfl)
theorem m_900 : Cond.selects RX7 yX7_leastLeft yX7_leastLeft ∈ xtb := xwi_9 _ (List.mem_of_getElem? (i := 42) rfl)
theorem m_901 : Cond.code yX7_leastLeft cX7_leastLeft 4 (some .int) ∈ xtb := xwi_9 _ (List.mem_of_getElem? (i := 43) rfl)
theorem m_902 : Cond.constant RX7 60 (86401) ∈ xtb := xwi_9 _ (List.mem_of_getElem? (i := 44) rfl)
theorem m_903 : Cond.methodLink RX7 61 yX7_measure ∈ xtb := xwi_9 _ (List.mem_of_getElem? (i := 45) rfl)
theorem m_905 : Cond.instanceMethod yX7_measure ∈ xtb := xwi_9 _ (List.mem_of_getElem? (i := 46) rfl)
theorem m_906 : Cond.code yX7_measure cX7_measure 4 none ∈ xtb := xwi_9 _ (List.mem_of_getElem? (i := 47) rfl)
theorem m_907 : Cond.methodLink RX7 70 yX7_widen ∈ xtb := xwi_9 _ (List.mem_of_getElem? (i := 48) rfl)
theorem m_909 : Cond.instanceMethod yX7_widen ∈ xtb := xwi_9 _ (List.mem_of_getElem? (i := 49) rfl)
theorem m_910 : Cond.code yX7_widen cX7_widen 4 (some .boolean) ∈ xtb := xwi_9 _ (List.mem_of_getElem? (i := 50) rfl)
theorem m_911 : Cond.methodLink RX7 73 yX7_room ∈ xtb := xwi_9 _ (List.mem_of_getElem? (i := 51) rfl)
theorem m_913 : Cond.instanceMethod yX7_room ∈ xtb := xwi_9 _ (List.mem_of_getElem? (i := 52) rfl)
theorem m_914 : Cond.code yX7_room cX7_room 4 (some .int) ∈ xtb := xwi_9 _ (List.mem_of_getElem? (i := 53) rfl)
theorem m_915 : Cond.methodLink RX7 79 yX7_leftFrom ∈ xtb := xwi_9 _ (List.mem_of_getElem? (i := 54) rfl)
theorem m_917 : Cond.instanceMethod yX7_leftFrom ∈ xtb := xwi_9 _ (List.mem_of_getElem? (i := 55) rfl)
theorem m_918 : Cond.code yX7_leftFrom cX7_leftFrom 3 (some .int) ∈ xtb := xwi_9 _ (List.mem_of_getElem? (i := 56) rfl)
theorem m_919 : Cond.methodLink RX7 82 yX7_dueFrom ∈ xtb := xwi_9 _ (List.mem_of_getElem? (i := 57) rfl)
theorem m_921 : Cond.instanceMethod yX7_dueFrom ∈ xtb := xwi_9 _ (List.mem_of_getElem? (i := 58) rfl)
theorem m_922 : Cond.code yX7_dueFrom cX7_dueFrom 3 (some .int) ∈ xtb := xwi_9 _ (List.mem_of_getElem? (i := 59) rfl)
def xwl_10 : List Cond := [Cond.methodLink RX7 77 yX7_length, Cond.instanceMethod yX7_length, Cond.code yX7_length cX7_length 3 (some .int), Cond.methodLink RX7 64 yX7_nearestTaker, Cond.instanceMethod yX7_nearestTaker, Cond.code yX7_nearestTaker cX7_nearestTaker 4 (some .int), Cond.methodLink RX7 67 yX7_send, Cond.instanceMethod yX7_send, Cond.code yX7_send cX7_send 6 (some .int), Cond.methodLink RX7 85 yJ9_min_7cf53, Cond.methodLink RX7 90 yX7_moveAlong, Cond.instanceMethod yX7_moveAlong, Cond.code yX7_moveAlong cX7_moveAlong 6 none, Cond.code yX11_takings cX11_takings 1 (some .int), Cond.methodLink RX11 246 yX7_fewestPayments, Cond.instanceMethod yX7_fewestPayments, Cond.selects RX7 yX7_fewestPayments yX7_fewestPayments, Cond.code yX7_fewestPayments cX7_fewestPayments 6 (some .int), Cond.methodLink RX7 94 yJ9_max_7cf53, Cond.code yX11_end cX11_end 4 (some .int), Cond.methodLink RX11 249 yX10_tell, Cond.instanceMethod yX10_tell, Cond.selects RX10 yX10_tell yX10_tell, Cond.code yX10_tell cX10_tell 4 (some .int), Cond.code yX11_bridge cX11_bridge 4 (some .boolean), Cond.methodLink RX11 251 yX10_setBridge, Cond.instanceMethod yX10_setBridge, Cond.selects RX10 yX10_setBridge yX10_setBridge, Cond.code yX10_setBridge cX10_setBridge 4 none, Cond.code yX11_crosses cX11_crosses 3 (some .boolean), Cond.methodLink RX11 254 yX10_isCrossing, Cond.instanceMethod yX10_isCrossing, Cond.selects RX10 yX10_isCrossing yX10_isCrossing, Cond.code yX10_isCrossing cX10_isCrossing 2 (some .boolean), Cond.methodLink RX11 257 yX10_setCrossing, Cond.instanceMethod yX10_setCrossing, Cond.selects RX10 yX10_setCrossing yX10_setCrossing, Cond.code yX10_setCrossing cX10_setCrossing 3 none, Cond.code yX11_lateIf cX11_lateIf 6 (some .int), Cond.methodLink RX11 261 yX10_lateWeights, Cond.instanceMethod yX10_lateWeights, Cond.selects RX10 yX10_lateWeights yX10_lateWeights, Cond.code yX10_lateWeights cX10_lateWeights 5 (some .int), Cond.methodLink RX10 63 yX10_bridgeWeight, Cond.instanceMethod yX10_bridgeWeight, Cond.selects RX10 yX10_bridgeWeight yX10_bridgeWeight, Cond.code yX10_bridgeWeight cX10_bridgeWeight 2 (some .int), Cond.methodLink RX10 67 yX10_lateEnds, Cond.instanceMethod yX10_lateEnds, Cond.code yX10_lateEnds cX10_lateEnds 6 (some .int), Cond.methodLink RX10 71 yX10_endsOf, Cond.instanceMethod yX10_endsOf, Cond.selects RX10 yX10_endsOf yX10_endsOf, Cond.code yX10_endsOf cX10_endsOf 2 (some .int), Cond.methodLink RX10 47 yJ9_max_7cf53, Cond.methodLink RX10 74 yX10_takes, Cond.instanceMethod yX10_takes, Cond.selects RX10 yX10_takes yX10_takes, Cond.code yX10_takes cX10_takes 4 (some .int), Cond.methodLink RX10 77 yX10_weightOf]
set_option maxRecDepth 100000 in
theorem xwh_10 : xwl_10.all (fun w => decide (w ∈ lw_tbl) && goodWord w) = true := by decide +kernel
theorem xwi_10 : ∀ w ∈ xwl_10, w ∈ xtb := fun w h => xwi xwh_10 w h
theorem m_923 : Cond.methodLink RX7 77 yX7_length ∈ xtb := xwi_10 _ (List.mem_of_getElem? (i := 0) rfl)
theorem m_925 : Cond.instanceMethod yX7_length ∈ xtb := xwi_10 _ (List.mem_of_getElem? (i := 1) rfl)
theorem m_926 : Cond.code yX7_length cX7_length 3 (some .int) ∈ xtb := xwi_10 _ (List.mem_of_getElem? (i := 2) rfl)
theorem m_927 : Cond.methodLink RX7 64 yX7_nearestTaker ∈ xtb := xwi_10 _ (List.mem_of_getElem? (i := 3) rfl)
theorem m_929 : Cond.instanceMethod yX7_nearestTaker ∈ xtb := xwi_10 _ (List.mem_of_getElem? (i := 4) rfl)
theorem m_930 : Cond.code yX7_nearestTaker cX7_nearestTaker 4 (some .int) ∈ xtb := xwi_10 _ (List.mem_of_getElem? (i := 5) rfl)
theorem m_931 : Cond.methodLink RX7 67 yX7_send ∈ xtb := xwi_10 _ (List.mem_of_getElem? (i := 6) rfl)
theorem m_933 : Cond.instanceMethod yX7_send ∈ xtb := xwi_10 _ (List.mem_of_getElem? (i := 7) rfl)
theorem m_934 : Cond.code yX7_send cX7_send 6 (some .int) ∈ xtb := xwi_10 _ (List.mem_of_getElem? (i := 8) rfl)
theorem m_935 : Cond.methodLink RX7 85 yJ9_min_7cf53 ∈ xtb := xwi_10 _ (List.mem_of_getElem? (i := 9) rfl)
theorem m_936 : Cond.methodLink RX7 90 yX7_moveAlong ∈ xtb := xwi_10 _ (List.mem_of_getElem? (i := 10) rfl)
theorem m_938 : Cond.instanceMethod yX7_moveAlong ∈ xtb := xwi_10 _ (List.mem_of_getElem? (i := 11) rfl)
theorem m_939 : Cond.code yX7_moveAlong cX7_moveAlong 6 none ∈ xtb := xwi_10 _ (List.mem_of_getElem? (i := 12) rfl)
theorem m_943 : Cond.code yX11_takings cX11_takings 1 (some .int) ∈ xtb := xwi_10 _ (List.mem_of_getElem? (i := 13) rfl)
theorem m_944 : Cond.methodLink RX11 246 yX7_fewestPayments ∈ xtb := xwi_10 _ (List.mem_of_getElem? (i := 14) rfl)
theorem m_945 : Cond.instanceMethod yX7_fewestPayments ∈ xtb := xwi_10 _ (List.mem_of_getElem? (i := 15) rfl)
theorem m_946 : Cond.selects RX7 yX7_fewestPayments yX7_fewestPayments ∈ xtb := xwi_10 _ (List.mem_of_getElem? (i := 16) rfl)
theorem m_947 : Cond.code yX7_fewestPayments cX7_fewestPayments 6 (some .int) ∈ xtb := xwi_10 _ (List.mem_of_getElem? (i := 17) rfl)
theorem m_948 : Cond.methodLink RX7 94 yJ9_max_7cf53 ∈ xtb := xwi_10 _ (List.mem_of_getElem? (i := 18) rfl)
theorem m_952 : Cond.code yX11_end cX11_end 4 (some .int) ∈ xtb := xwi_10 _ (List.mem_of_getElem? (i := 19) rfl)
theorem m_953 : Cond.methodLink RX11 249 yX10_tell ∈ xtb := xwi_10 _ (List.mem_of_getElem? (i := 20) rfl)
theorem m_954 : Cond.instanceMethod yX10_tell ∈ xtb := xwi_10 _ (List.mem_of_getElem? (i := 21) rfl)
theorem m_955 : Cond.selects RX10 yX10_tell yX10_tell ∈ xtb := xwi_10 _ (List.mem_of_getElem? (i := 22) rfl)
theorem m_956 : Cond.code yX10_tell cX10_tell 4 (some .int) ∈ xtb := xwi_10 _ (List.mem_of_getElem? (i := 23) rfl)
theorem m_961 : Cond.code yX11_bridge cX11_bridge 4 (some .boolean) ∈ xtb := xwi_10 _ (List.mem_of_getElem? (i := 24) rfl)
theorem m_962 : Cond.methodLink RX11 251 yX10_setBridge ∈ xtb := xwi_10 _ (List.mem_of_getElem? (i := 25) rfl)
theorem m_963 : Cond.instanceMethod yX10_setBridge ∈ xtb := xwi_10 _ (List.mem_of_getElem? (i := 26) rfl)
theorem m_964 : Cond.selects RX10 yX10_setBridge yX10_setBridge ∈ xtb := xwi_10 _ (List.mem_of_getElem? (i := 27) rfl)
theorem m_965 : Cond.code yX10_setBridge cX10_setBridge 4 none ∈ xtb := xwi_10 _ (List.mem_of_getElem? (i := 28) rfl)
theorem m_969 : Cond.code yX11_crosses cX11_crosses 3 (some .boolean) ∈ xtb := xwi_10 _ (List.mem_of_getElem? (i := 29) rfl)
theorem m_970 : Cond.methodLink RX11 254 yX10_isCrossing ∈ xtb := xwi_10 _ (List.mem_of_getElem? (i := 30) rfl)
theorem m_971 : Cond.instanceMethod yX10_isCrossing ∈ xtb := xwi_10 _ (List.mem_of_getElem? (i := 31) rfl)
theorem m_972 : Cond.selects RX10 yX10_isCrossing yX10_isCrossing ∈ xtb := xwi_10 _ (List.mem_of_getElem? (i := 32) rfl)
theorem m_973 : Cond.code yX10_isCrossing cX10_isCrossing 2 (some .boolean) ∈ xtb := xwi_10 _ (List.mem_of_getElem? (i := 33) rfl)
theorem m_974 : Cond.methodLink RX11 257 yX10_setCrossing ∈ xtb := xwi_10 _ (List.mem_of_getElem? (i := 34) rfl)
theorem m_975 : Cond.instanceMethod yX10_setCrossing ∈ xtb := xwi_10 _ (List.mem_of_getElem? (i := 35) rfl)
theorem m_976 : Cond.selects RX10 yX10_setCrossing yX10_setCrossing ∈ xtb := xwi_10 _ (List.mem_of_getElem? (i := 36) rfl)
theorem m_977 : Cond.code yX10_setCrossing cX10_setCrossing 3 none ∈ xtb := xwi_10 _ (List.mem_of_getElem? (i := 37) rfl)
theorem m_981 : Cond.code yX11_lateIf cX11_lateIf 6 (some .int) ∈ xtb := xwi_10 _ (List.mem_of_getElem? (i := 38) rfl)
theorem m_982 : Cond.methodLink RX11 261 yX10_lateWeights ∈ xtb := xwi_10 _ (List.mem_of_getElem? (i := 39) rfl)
theorem m_983 : Cond.instanceMethod yX10_lateWeights ∈ xtb := xwi_10 _ (List.mem_of_getElem? (i := 40) rfl)
theorem m_984 : Cond.selects RX10 yX10_lateWeights yX10_lateWeights ∈ xtb := xwi_10 _ (List.mem_of_getElem? (i := 41) rfl)
theorem m_985 : Cond.code yX10_lateWeights cX10_lateWeights 5 (some .int) ∈ xtb := xwi_10 _ (List.mem_of_getElem? (i := 42) rfl)
theorem m_986 : Cond.methodLink RX10 63 yX10_bridgeWeight ∈ xtb := xwi_10 _ (List.mem_of_getElem? (i := 43) rfl)
theorem m_987 : Cond.instanceMethod yX10_bridgeWeight ∈ xtb := xwi_10 _ (List.mem_of_getElem? (i := 44) rfl)
theorem m_988 : Cond.selects RX10 yX10_bridgeWeight yX10_bridgeWeight ∈ xtb := xwi_10 _ (List.mem_of_getElem? (i := 45) rfl)
theorem m_989 : Cond.code yX10_bridgeWeight cX10_bridgeWeight 2 (some .int) ∈ xtb := xwi_10 _ (List.mem_of_getElem? (i := 46) rfl)
theorem m_990 : Cond.methodLink RX10 67 yX10_lateEnds ∈ xtb := xwi_10 _ (List.mem_of_getElem? (i := 47) rfl)
theorem m_992 : Cond.instanceMethod yX10_lateEnds ∈ xtb := xwi_10 _ (List.mem_of_getElem? (i := 48) rfl)
theorem m_993 : Cond.code yX10_lateEnds cX10_lateEnds 6 (some .int) ∈ xtb := xwi_10 _ (List.mem_of_getElem? (i := 49) rfl)
theorem m_994 : Cond.methodLink RX10 71 yX10_endsOf ∈ xtb := xwi_10 _ (List.mem_of_getElem? (i := 50) rfl)
theorem m_995 : Cond.instanceMethod yX10_endsOf ∈ xtb := xwi_10 _ (List.mem_of_getElem? (i := 51) rfl)
theorem m_996 : Cond.selects RX10 yX10_endsOf yX10_endsOf ∈ xtb := xwi_10 _ (List.mem_of_getElem? (i := 52) rfl)
theorem m_997 : Cond.code yX10_endsOf cX10_endsOf 2 (some .int) ∈ xtb := xwi_10 _ (List.mem_of_getElem? (i := 53) rfl)
theorem m_998 : Cond.methodLink RX10 47 yJ9_max_7cf53 ∈ xtb := xwi_10 _ (List.mem_of_getElem? (i := 54) rfl)
theorem m_999 : Cond.methodLink RX10 74 yX10_takes ∈ xtb := xwi_10 _ (List.mem_of_getElem? (i := 55) rfl)
theorem m_1000 : Cond.instanceMethod yX10_takes ∈ xtb := xwi_10 _ (List.mem_of_getElem? (i := 56) rfl)
theorem m_1001 : Cond.selects RX10 yX10_takes yX10_takes ∈ xtb := xwi_10 _ (List.mem_of_getElem? (i := 57) rfl)
theorem m_1002 : Cond.code yX10_takes cX10_takes 4 (some .int) ∈ xtb := xwi_10 _ (List.mem_of_getElem? (i := 58) rfl)
theorem m_1004 : Cond.methodLink RX10 77 yX10_weightOf ∈ xtb := xwi_10 _ (List.mem_of_getElem? (i := 59) rfl)
def xwl_11 : List Cond := [Cond.instanceMethod yX10_weightOf, Cond.selects RX10 yX10_weightOf yX10_weightOf, Cond.code yX10_weightOf cX10_weightOf 3 (some .int), Cond.methodLink RX11 264 yX10_allOfBridge, Cond.instanceMethod yX10_allOfBridge, Cond.selects RX10 yX10_allOfBridge yX10_allOfBridge, Cond.code yX10_allOfBridge cX10_allOfBridge 1 (some .int), Cond.methodLink RX11 267 yX10_weightsOf, Cond.instanceMethod yX10_weightsOf, Cond.selects RX10 yX10_weightsOf yX10_weightsOf, Cond.code yX10_weightsOf cX10_weightsOf 2 (some .int), Cond.methodLink RX11 270 yX11_commonDivisor, Cond.static yX11_commonDivisor, Cond.code yX11_commonDivisor cX11_commonDivisor 6 (some .int), Cond.methodLink RX11 356 yX11_leftOver, Cond.static yX11_leftOver, Cond.code yX11_leftOver cX11_leftOver 2 (some .int), Cond.methodLink RX11 273 yX11_whole, Cond.static yX11_whole, Cond.code yX11_whole cX11_whole 2 (some .int), Cond.code yX11_hang cX11_hang 4 (some .long), Cond.methodLink RX11 276 yX10_lateTogether, Cond.instanceMethod yX10_lateTogether, Cond.selects RX10 yX10_lateTogether yX10_lateTogether, Cond.code yX10_lateTogether cX10_lateTogether 7 (some .long), Cond.methodLink RX10 80 yX10_countLate, Cond.instanceMethod yX10_countLate, Cond.code yX10_countLate cX10_countLate 10 none, Cond.methodLink RX10 84 yJ7_fill_d0a16, Cond.static yJ7_fill_d0a16, Cond.code yJ7_fill_d0a16 cJ7_fill_d0a16 5 none, Cond.methodLink RX10 90 yX10_weightsOf, Cond.code yX11_cost cX11_cost 6 (some .long), Cond.methodLink RX11 280 yX10_costOfOne, Cond.instanceMethod yX10_costOfOne, Cond.selects RX10 yX10_costOfOne yX10_costOfOne, Cond.code yX10_costOfOne cX10_costOfOne 9 (some .long), Cond.methodLink RX10 114 yX10_costOfWay, Cond.instanceMethod yX10_costOfWay, Cond.code yX10_costOfWay cX10_costOfWay 9 (some .long), Cond.methodLink RX10 110 yX10_costOfComing, Cond.instanceMethod yX10_costOfComing, Cond.code yX10_costOfComing cX10_costOfComing 6 (some .long), Cond.methodLink RX10 98 yX2_many, Cond.methodLink RX10 105 yX5_worthAt, Cond.code yX11_out cX11_out 11 (some .int), Cond.code yX11_two cX11_two 9 (some .long), Cond.methodLink RX11 284 yX11_inRow, Cond.static yX11_inRow, Cond.code yX11_inRow cX11_inRow 3 (some .boolean), Cond.methodLink RX11 288 yX10_costOfRow, Cond.instanceMethod yX10_costOfRow, Cond.selects RX10 yX10_costOfRow yX10_costOfRow, Cond.code yX10_costOfRow cX10_costOfRow 11 (some .long), Cond.methodLink RX10 118 yX10_costOfBoth, Cond.instanceMethod yX10_costOfBoth, Cond.code yX10_costOfBoth cX10_costOfBoth 16 (some .long), Cond.constant RX10 124 (-2147483648), Cond.code yX11_outTwo cX11_outTwo 14 (some .int), Cond.code yX11_rest cX11_rest 6 (some .int)]
set_option maxRecDepth 100000 in
theorem xwh_11 : xwl_11.all (fun w => decide (w ∈ lw_tbl) && goodWord w) = true := by decide +kernel
theorem xwi_11 : ∀ w ∈ xwl_11, w ∈ xtb := fun w h => xwi xwh_11 w h
theorem m_1005 : Cond.instanceMethod yX10_weightOf ∈ xtb := xwi_11 _ (List.mem_of_getElem? (i := 0) rfl)
theorem m_1006 : Cond.selects RX10 yX10_weightOf yX10_weightOf ∈ xtb := xwi_11 _ (List.mem_of_getElem? (i := 1) rfl)
theorem m_1007 : Cond.code yX10_weightOf cX10_weightOf 3 (some .int) ∈ xtb := xwi_11 _ (List.mem_of_getElem? (i := 2) rfl)
theorem m_1008 : Cond.methodLink RX11 264 yX10_allOfBridge ∈ xtb := xwi_11 _ (List.mem_of_getElem? (i := 3) rfl)
theorem m_1009 : Cond.instanceMethod yX10_allOfBridge ∈ xtb := xwi_11 _ (List.mem_of_getElem? (i := 4) rfl)
theorem m_1010 : Cond.selects RX10 yX10_allOfBridge yX10_allOfBridge ∈ xtb := xwi_11 _ (List.mem_of_getElem? (i := 5) rfl)
theorem m_1011 : Cond.code yX10_allOfBridge cX10_allOfBridge 1 (some .int) ∈ xtb := xwi_11 _ (List.mem_of_getElem? (i := 6) rfl)
theorem m_1012 : Cond.methodLink RX11 267 yX10_weightsOf ∈ xtb := xwi_11 _ (List.mem_of_getElem? (i := 7) rfl)
theorem m_1013 : Cond.instanceMethod yX10_weightsOf ∈ xtb := xwi_11 _ (List.mem_of_getElem? (i := 8) rfl)
theorem m_1014 : Cond.selects RX10 yX10_weightsOf yX10_weightsOf ∈ xtb := xwi_11 _ (List.mem_of_getElem? (i := 9) rfl)
theorem m_1015 : Cond.code yX10_weightsOf cX10_weightsOf 2 (some .int) ∈ xtb := xwi_11 _ (List.mem_of_getElem? (i := 10) rfl)
theorem m_1016 : Cond.methodLink RX11 270 yX11_commonDivisor ∈ xtb := xwi_11 _ (List.mem_of_getElem? (i := 11) rfl)
theorem m_1017 : Cond.static yX11_commonDivisor ∈ xtb := xwi_11 _ (List.mem_of_getElem? (i := 12) rfl)
theorem m_1018 : Cond.code yX11_commonDivisor cX11_commonDivisor 6 (some .int) ∈ xtb := xwi_11 _ (List.mem_of_getElem? (i := 13) rfl)
theorem m_1019 : Cond.methodLink RX11 356 yX11_leftOver ∈ xtb := xwi_11 _ (List.mem_of_getElem? (i := 14) rfl)
theorem m_1020 : Cond.static yX11_leftOver ∈ xtb := xwi_11 _ (List.mem_of_getElem? (i := 15) rfl)
theorem m_1021 : Cond.code yX11_leftOver cX11_leftOver 2 (some .int) ∈ xtb := xwi_11 _ (List.mem_of_getElem? (i := 16) rfl)
theorem m_1022 : Cond.methodLink RX11 273 yX11_whole ∈ xtb := xwi_11 _ (List.mem_of_getElem? (i := 17) rfl)
theorem m_1023 : Cond.static yX11_whole ∈ xtb := xwi_11 _ (List.mem_of_getElem? (i := 18) rfl)
theorem m_1024 : Cond.code yX11_whole cX11_whole 2 (some .int) ∈ xtb := xwi_11 _ (List.mem_of_getElem? (i := 19) rfl)
theorem m_1028 : Cond.code yX11_hang cX11_hang 4 (some .long) ∈ xtb := xwi_11 _ (List.mem_of_getElem? (i := 20) rfl)
theorem m_1029 : Cond.methodLink RX11 276 yX10_lateTogether ∈ xtb := xwi_11 _ (List.mem_of_getElem? (i := 21) rfl)
theorem m_1030 : Cond.instanceMethod yX10_lateTogether ∈ xtb := xwi_11 _ (List.mem_of_getElem? (i := 22) rfl)
theorem m_1031 : Cond.selects RX10 yX10_lateTogether yX10_lateTogether ∈ xtb := xwi_11 _ (List.mem_of_getElem? (i := 23) rfl)
theorem m_1032 : Cond.code yX10_lateTogether cX10_lateTogether 7 (some .long) ∈ xtb := xwi_11 _ (List.mem_of_getElem? (i := 24) rfl)
theorem m_1033 : Cond.methodLink RX10 80 yX10_countLate ∈ xtb := xwi_11 _ (List.mem_of_getElem? (i := 25) rfl)
theorem m_1035 : Cond.instanceMethod yX10_countLate ∈ xtb := xwi_11 _ (List.mem_of_getElem? (i := 26) rfl)
theorem m_1036 : Cond.code yX10_countLate cX10_countLate 10 none ∈ xtb := xwi_11 _ (List.mem_of_getElem? (i := 27) rfl)
theorem m_1037 : Cond.methodLink RX10 84 yJ7_fill_d0a16 ∈ xtb := xwi_11 _ (List.mem_of_getElem? (i := 28) rfl)
theorem m_1038 : Cond.static yJ7_fill_d0a16 ∈ xtb := xwi_11 _ (List.mem_of_getElem? (i := 29) rfl)
theorem m_1039 : Cond.code yJ7_fill_d0a16 cJ7_fill_d0a16 5 none ∈ xtb := xwi_11 _ (List.mem_of_getElem? (i := 30) rfl)
theorem m_1040 : Cond.methodLink RX10 90 yX10_weightsOf ∈ xtb := xwi_11 _ (List.mem_of_getElem? (i := 31) rfl)
theorem m_1044 : Cond.code yX11_cost cX11_cost 6 (some .long) ∈ xtb := xwi_11 _ (List.mem_of_getElem? (i := 32) rfl)
theorem m_1045 : Cond.methodLink RX11 280 yX10_costOfOne ∈ xtb := xwi_11 _ (List.mem_of_getElem? (i := 33) rfl)
theorem m_1046 : Cond.instanceMethod yX10_costOfOne ∈ xtb := xwi_11 _ (List.mem_of_getElem? (i := 34) rfl)
theorem m_1047 : Cond.selects RX10 yX10_costOfOne yX10_costOfOne ∈ xtb := xwi_11 _ (List.mem_of_getElem? (i := 35) rfl)
theorem m_1048 : Cond.code yX10_costOfOne cX10_costOfOne 9 (some .long) ∈ xtb := xwi_11 _ (List.mem_of_getElem? (i := 36) rfl)
theorem m_1049 : Cond.methodLink RX10 114 yX10_costOfWay ∈ xtb := xwi_11 _ (List.mem_of_getElem? (i := 37) rfl)
theorem m_1051 : Cond.instanceMethod yX10_costOfWay ∈ xtb := xwi_11 _ (List.mem_of_getElem? (i := 38) rfl)
theorem m_1052 : Cond.code yX10_costOfWay cX10_costOfWay 9 (some .long) ∈ xtb := xwi_11 _ (List.mem_of_getElem? (i := 39) rfl)
theorem m_1053 : Cond.methodLink RX10 110 yX10_costOfComing ∈ xtb := xwi_11 _ (List.mem_of_getElem? (i := 40) rfl)
theorem m_1055 : Cond.instanceMethod yX10_costOfComing ∈ xtb := xwi_11 _ (List.mem_of_getElem? (i := 41) rfl)
theorem m_1056 : Cond.code yX10_costOfComing cX10_costOfComing 6 (some .long) ∈ xtb := xwi_11 _ (List.mem_of_getElem? (i := 42) rfl)
theorem m_1057 : Cond.methodLink RX10 98 yX2_many ∈ xtb := xwi_11 _ (List.mem_of_getElem? (i := 43) rfl)
theorem m_1059 : Cond.methodLink RX10 105 yX5_worthAt ∈ xtb := xwi_11 _ (List.mem_of_getElem? (i := 44) rfl)
theorem m_1063 : Cond.code yX11_out cX11_out 11 (some .int) ∈ xtb := xwi_11 _ (List.mem_of_getElem? (i := 45) rfl)
theorem m_1067 : Cond.code yX11_two cX11_two 9 (some .long) ∈ xtb := xwi_11 _ (List.mem_of_getElem? (i := 46) rfl)
theorem m_1068 : Cond.methodLink RX11 284 yX11_inRow ∈ xtb := xwi_11 _ (List.mem_of_getElem? (i := 47) rfl)
theorem m_1069 : Cond.static yX11_inRow ∈ xtb := xwi_11 _ (List.mem_of_getElem? (i := 48) rfl)
theorem m_1070 : Cond.code yX11_inRow cX11_inRow 3 (some .boolean) ∈ xtb := xwi_11 _ (List.mem_of_getElem? (i := 49) rfl)
theorem m_1071 : Cond.methodLink RX11 288 yX10_costOfRow ∈ xtb := xwi_11 _ (List.mem_of_getElem? (i := 50) rfl)
theorem m_1072 : Cond.instanceMethod yX10_costOfRow ∈ xtb := xwi_11 _ (List.mem_of_getElem? (i := 51) rfl)
theorem m_1073 : Cond.selects RX10 yX10_costOfRow yX10_costOfRow ∈ xtb := xwi_11 _ (List.mem_of_getElem? (i := 52) rfl)
theorem m_1074 : Cond.code yX10_costOfRow cX10_costOfRow 11 (some .long) ∈ xtb := xwi_11 _ (List.mem_of_getElem? (i := 53) rfl)
theorem m_1075 : Cond.methodLink RX10 118 yX10_costOfBoth ∈ xtb := xwi_11 _ (List.mem_of_getElem? (i := 54) rfl)
theorem m_1077 : Cond.instanceMethod yX10_costOfBoth ∈ xtb := xwi_11 _ (List.mem_of_getElem? (i := 55) rfl)
theorem m_1078 : Cond.code yX10_costOfBoth cX10_costOfBoth 16 (some .long) ∈ xtb := xwi_11 _ (List.mem_of_getElem? (i := 56) rfl)
theorem m_1079 : Cond.constant RX10 124 (-2147483648) ∈ xtb := xwi_11 _ (List.mem_of_getElem? (i := 57) rfl)
theorem m_1083 : Cond.code yX11_outTwo cX11_outTwo 14 (some .int) ∈ xtb := xwi_11 _ (List.mem_of_getElem? (i := 58) rfl)
theorem m_1087 : Cond.code yX11_rest cX11_rest 6 (some .int) ∈ xtb := xwi_11 _ (List.mem_of_getElem? (i := 59) rfl)
def xwl_12 : List Cond := [Cond.methodLink RX11 292 yX2_many, Cond.methodLink RX11 295 yX6_comeToRest, Cond.instanceMethod yX6_comeToRest, Cond.selects RX6 yX6_comeToRest yX6_comeToRest, Cond.code yX6_comeToRest cX6_comeToRest 7 (some .int), Cond.methodLink RX6 40 yJ7_fill_53178, Cond.methodLink RX6 46 yX2_includes, Cond.methodLink RX6 52 yX6_cheapest, Cond.instanceMethod yX6_cheapest, Cond.code yX6_cheapest cX6_cheapest 7 (some .int), Cond.methodLink RX6 56 yJ7_fill_d0a16, Cond.methodLink RX6 59 yX10_bridgeWeight, Cond.methodLink RX6 65 yX6_gatherOthers, Cond.instanceMethod yX6_gatherOthers, Cond.code yX6_gatherOthers cX6_gatherOthers 9 none, Cond.methodLink RX6 77 yX8_empty, Cond.instanceMethod yX8_empty, Cond.selects RX8 yX8_empty yX8_empty, Cond.code yX8_empty cX8_empty 1 none, Cond.methodLink RX6 80 yX8_add, Cond.instanceMethod yX8_add, Cond.selects RX8 yX8_add yX8_add, Cond.code yX8_add cX8_add 5 none, Cond.methodLink RX6 84 yX6_weightsWithout, Cond.instanceMethod yX6_weightsWithout, Cond.code yX6_weightsWithout cX6_weightsWithout 7 (some .long), Cond.methodLink RX6 119 yX10_weightsOf, Cond.methodLink RX6 88 yX10_endsOf, Cond.methodLink RX6 91 yX10_takes, Cond.methodLink RX6 95 yJ9_max_7cf53, Cond.methodLink RX6 101 yX10_weightOf, Cond.methodLink RX6 104 yX6_spreadLasts, Cond.instanceMethod yX6_spreadLasts, Cond.code yX6_spreadLasts cX6_spreadLasts 4 none, Cond.methodLink RX6 108 yX8_length, Cond.instanceMethod yX8_length, Cond.selects RX8 yX8_length yX8_length, Cond.code yX8_length cX8_length 1 (some .int), Cond.methodLink RX6 112 yX8_minuteAt, Cond.instanceMethod yX8_minuteAt, Cond.selects RX8 yX8_minuteAt yX8_minuteAt, Cond.code yX8_minuteAt cX8_minuteAt 2 (some .int), Cond.methodLink RX6 115 yX8_weightAt, Cond.instanceMethod yX8_weightAt, Cond.selects RX8 yX8_weightAt yX8_weightAt, Cond.code yX8_weightAt cX8_weightAt 2 (some .long), Cond.methodLink RX6 73 yX6_costOf, Cond.instanceMethod yX6_costOf, Cond.code yX6_costOf cX6_costOf 11 (some .long), Cond.methodLink RX6 122 yX2_hour, Cond.methodLink RX6 125 yX5_worthAt, Cond.methodLink RX6 130 yX8_above, Cond.instanceMethod yX8_above, Cond.selects RX8 yX8_above yX8_above, Cond.code yX8_above cX8_above 5 (some .long), Cond.methodLink RX6 133 yX8_below, Cond.instanceMethod yX8_below, Cond.selects RX8 yX8_below yX8_below, Cond.code yX8_below cX8_below 5 (some .long), Cond.methodLink RX11 299 yX6_aheadOf]
set_option maxRecDepth 100000 in
theorem xwh_12 : xwl_12.all (fun w => decide (w ∈ lw_tbl) && goodWord w) = true := by decide +kernel
theorem xwi_12 : ∀ w ∈ xwl_12, w ∈ xtb := fun w h => xwi xwh_12 w h
theorem m_1088 : Cond.methodLink RX11 292 yX2_many ∈ xtb := xwi_12 _ (List.mem_of_getElem? (i := 0) rfl)
theorem m_1089 : Cond.methodLink RX11 295 yX6_comeToRest ∈ xtb := xwi_12 _ (List.mem_of_getElem? (i := 1) rfl)
theorem m_1090 : Cond.instanceMethod yX6_comeToRest ∈ xtb := xwi_12 _ (List.mem_of_getElem? (i := 2) rfl)
theorem m_1091 : Cond.selects RX6 yX6_comeToRest yX6_comeToRest ∈ xtb := xwi_12 _ (List.mem_of_getElem? (i := 3) rfl)
theorem m_1092 : Cond.code yX6_comeToRest cX6_comeToRest 7 (some .int) ∈ xtb := xwi_12 _ (List.mem_of_getElem? (i := 4) rfl)
theorem m_1093 : Cond.methodLink RX6 40 yJ7_fill_53178 ∈ xtb := xwi_12 _ (List.mem_of_getElem? (i := 5) rfl)
theorem m_1094 : Cond.methodLink RX6 46 yX2_includes ∈ xtb := xwi_12 _ (List.mem_of_getElem? (i := 6) rfl)
theorem m_1095 : Cond.methodLink RX6 52 yX6_cheapest ∈ xtb := xwi_12 _ (List.mem_of_getElem? (i := 7) rfl)
theorem m_1097 : Cond.instanceMethod yX6_cheapest ∈ xtb := xwi_12 _ (List.mem_of_getElem? (i := 8) rfl)
theorem m_1098 : Cond.code yX6_cheapest cX6_cheapest 7 (some .int) ∈ xtb := xwi_12 _ (List.mem_of_getElem? (i := 9) rfl)
theorem m_1099 : Cond.methodLink RX6 56 yJ7_fill_d0a16 ∈ xtb := xwi_12 _ (List.mem_of_getElem? (i := 10) rfl)
theorem m_1100 : Cond.methodLink RX6 59 yX10_bridgeWeight ∈ xtb := xwi_12 _ (List.mem_of_getElem? (i := 11) rfl)
theorem m_1101 : Cond.methodLink RX6 65 yX6_gatherOthers ∈ xtb := xwi_12 _ (List.mem_of_getElem? (i := 12) rfl)
theorem m_1103 : Cond.instanceMethod yX6_gatherOthers ∈ xtb := xwi_12 _ (List.mem_of_getElem? (i := 13) rfl)
theorem m_1104 : Cond.code yX6_gatherOthers cX6_gatherOthers 9 none ∈ xtb := xwi_12 _ (List.mem_of_getElem? (i := 14) rfl)
theorem m_1105 : Cond.methodLink RX6 77 yX8_empty ∈ xtb := xwi_12 _ (List.mem_of_getElem? (i := 15) rfl)
theorem m_1106 : Cond.instanceMethod yX8_empty ∈ xtb := xwi_12 _ (List.mem_of_getElem? (i := 16) rfl)
theorem m_1107 : Cond.selects RX8 yX8_empty yX8_empty ∈ xtb := xwi_12 _ (List.mem_of_getElem? (i := 17) rfl)
theorem m_1108 : Cond.code yX8_empty cX8_empty 1 none ∈ xtb := xwi_12 _ (List.mem_of_getElem? (i := 18) rfl)
theorem m_1109 : Cond.methodLink RX6 80 yX8_add ∈ xtb := xwi_12 _ (List.mem_of_getElem? (i := 19) rfl)
theorem m_1110 : Cond.instanceMethod yX8_add ∈ xtb := xwi_12 _ (List.mem_of_getElem? (i := 20) rfl)
theorem m_1111 : Cond.selects RX8 yX8_add yX8_add ∈ xtb := xwi_12 _ (List.mem_of_getElem? (i := 21) rfl)
theorem m_1112 : Cond.code yX8_add cX8_add 5 none ∈ xtb := xwi_12 _ (List.mem_of_getElem? (i := 22) rfl)
theorem m_1113 : Cond.methodLink RX6 84 yX6_weightsWithout ∈ xtb := xwi_12 _ (List.mem_of_getElem? (i := 23) rfl)
theorem m_1115 : Cond.instanceMethod yX6_weightsWithout ∈ xtb := xwi_12 _ (List.mem_of_getElem? (i := 24) rfl)
theorem m_1116 : Cond.code yX6_weightsWithout cX6_weightsWithout 7 (some .long) ∈ xtb := xwi_12 _ (List.mem_of_getElem? (i := 25) rfl)
theorem m_1117 : Cond.methodLink RX6 119 yX10_weightsOf ∈ xtb := xwi_12 _ (List.mem_of_getElem? (i := 26) rfl)
theorem m_1118 : Cond.methodLink RX6 88 yX10_endsOf ∈ xtb := xwi_12 _ (List.mem_of_getElem? (i := 27) rfl)
theorem m_1119 : Cond.methodLink RX6 91 yX10_takes ∈ xtb := xwi_12 _ (List.mem_of_getElem? (i := 28) rfl)
theorem m_1120 : Cond.methodLink RX6 95 yJ9_max_7cf53 ∈ xtb := xwi_12 _ (List.mem_of_getElem? (i := 29) rfl)
theorem m_1121 : Cond.methodLink RX6 101 yX10_weightOf ∈ xtb := xwi_12 _ (List.mem_of_getElem? (i := 30) rfl)
theorem m_1122 : Cond.methodLink RX6 104 yX6_spreadLasts ∈ xtb := xwi_12 _ (List.mem_of_getElem? (i := 31) rfl)
theorem m_1124 : Cond.instanceMethod yX6_spreadLasts ∈ xtb := xwi_12 _ (List.mem_of_getElem? (i := 32) rfl)
theorem m_1125 : Cond.code yX6_spreadLasts cX6_spreadLasts 4 none ∈ xtb := xwi_12 _ (List.mem_of_getElem? (i := 33) rfl)
theorem m_1126 : Cond.methodLink RX6 108 yX8_length ∈ xtb := xwi_12 _ (List.mem_of_getElem? (i := 34) rfl)
theorem m_1127 : Cond.instanceMethod yX8_length ∈ xtb := xwi_12 _ (List.mem_of_getElem? (i := 35) rfl)
theorem m_1128 : Cond.selects RX8 yX8_length yX8_length ∈ xtb := xwi_12 _ (List.mem_of_getElem? (i := 36) rfl)
theorem m_1129 : Cond.code yX8_length cX8_length 1 (some .int) ∈ xtb := xwi_12 _ (List.mem_of_getElem? (i := 37) rfl)
theorem m_1130 : Cond.methodLink RX6 112 yX8_minuteAt ∈ xtb := xwi_12 _ (List.mem_of_getElem? (i := 38) rfl)
theorem m_1131 : Cond.instanceMethod yX8_minuteAt ∈ xtb := xwi_12 _ (List.mem_of_getElem? (i := 39) rfl)
theorem m_1132 : Cond.selects RX8 yX8_minuteAt yX8_minuteAt ∈ xtb := xwi_12 _ (List.mem_of_getElem? (i := 40) rfl)
theorem m_1133 : Cond.code yX8_minuteAt cX8_minuteAt 2 (some .int) ∈ xtb := xwi_12 _ (List.mem_of_getElem? (i := 41) rfl)
theorem m_1134 : Cond.methodLink RX6 115 yX8_weightAt ∈ xtb := xwi_12 _ (List.mem_of_getElem? (i := 42) rfl)
theorem m_1135 : Cond.instanceMethod yX8_weightAt ∈ xtb := xwi_12 _ (List.mem_of_getElem? (i := 43) rfl)
theorem m_1136 : Cond.selects RX8 yX8_weightAt yX8_weightAt ∈ xtb := xwi_12 _ (List.mem_of_getElem? (i := 44) rfl)
theorem m_1137 : Cond.code yX8_weightAt cX8_weightAt 2 (some .long) ∈ xtb := xwi_12 _ (List.mem_of_getElem? (i := 45) rfl)
theorem m_1138 : Cond.methodLink RX6 73 yX6_costOf ∈ xtb := xwi_12 _ (List.mem_of_getElem? (i := 46) rfl)
theorem m_1140 : Cond.instanceMethod yX6_costOf ∈ xtb := xwi_12 _ (List.mem_of_getElem? (i := 47) rfl)
theorem m_1141 : Cond.code yX6_costOf cX6_costOf 11 (some .long) ∈ xtb := xwi_12 _ (List.mem_of_getElem? (i := 48) rfl)
theorem m_1142 : Cond.methodLink RX6 122 yX2_hour ∈ xtb := xwi_12 _ (List.mem_of_getElem? (i := 49) rfl)
theorem m_1143 : Cond.methodLink RX6 125 yX5_worthAt ∈ xtb := xwi_12 _ (List.mem_of_getElem? (i := 50) rfl)
theorem m_1144 : Cond.methodLink RX6 130 yX8_above ∈ xtb := xwi_12 _ (List.mem_of_getElem? (i := 51) rfl)
theorem m_1145 : Cond.instanceMethod yX8_above ∈ xtb := xwi_12 _ (List.mem_of_getElem? (i := 52) rfl)
theorem m_1146 : Cond.selects RX8 yX8_above yX8_above ∈ xtb := xwi_12 _ (List.mem_of_getElem? (i := 53) rfl)
theorem m_1147 : Cond.code yX8_above cX8_above 5 (some .long) ∈ xtb := xwi_12 _ (List.mem_of_getElem? (i := 54) rfl)
theorem m_1148 : Cond.methodLink RX6 133 yX8_below ∈ xtb := xwi_12 _ (List.mem_of_getElem? (i := 55) rfl)
theorem m_1149 : Cond.instanceMethod yX8_below ∈ xtb := xwi_12 _ (List.mem_of_getElem? (i := 56) rfl)
theorem m_1150 : Cond.selects RX8 yX8_below yX8_below ∈ xtb := xwi_12 _ (List.mem_of_getElem? (i := 57) rfl)
theorem m_1151 : Cond.code yX8_below cX8_below 5 (some .long) ∈ xtb := xwi_12 _ (List.mem_of_getElem? (i := 58) rfl)
theorem m_1152 : Cond.methodLink RX11 299 yX6_aheadOf ∈ xtb := xwi_12 _ (List.mem_of_getElem? (i := 59) rfl)
def xwl_13 : List Cond := [Cond.instanceMethod yX6_aheadOf, Cond.selects RX6 yX6_aheadOf yX6_aheadOf, Cond.code yX6_aheadOf cX6_aheadOf 2 (some .int), Cond.code yX11_lost cX11_lost 1 (some .int), Cond.methodLink RX11 302 yX3_waitedAtSettled, Cond.instanceMethod yX3_waitedAtSettled, Cond.selects RX3 yX3_waitedAtSettled yX3_waitedAtSettled, Cond.code yX3_waitedAtSettled cX3_waitedAtSettled 4 (some .int), Cond.methodLink RX3 42 yX2_isSettled, Cond.methodLink RX3 46 yX2_waitedByAll, Cond.instanceMethod yX2_waitedByAll, Cond.selects RX2 yX2_waitedByAll yX2_waitedByAll, Cond.code yX2_waitedByAll cX2_waitedByAll 4 (some .int), Cond.methodLink RX2 54 yX2_start, Cond.code yX11_seed cX11_seed 2 (some .boolean), Cond.constant RX11 305 (65535), Cond.methodLink RX11 306 yX10_setDrawn, Cond.instanceMethod yX10_setDrawn, Cond.selects RX10 yX10_setDrawn yX10_setDrawn, Cond.code yX10_setDrawn cX10_setDrawn 2 none, Cond.code yX11_draw cX11_draw 4 (some .int), Cond.methodLink RX11 309 yX10_drawComings, Cond.instanceMethod yX10_drawComings, Cond.selects RX10 yX10_drawComings yX10_drawComings, Cond.code yX10_drawComings cX10_drawComings 6 (some .int), Cond.methodLink RX10 126 yX10_drawNext, Cond.instanceMethod yX10_drawNext, Cond.code yX10_drawNext cX10_drawNext 1 (some .int), Cond.constant RX10 125 (65536), Cond.methodLink RX10 132 yX2_includes, Cond.methodLink RX10 135 yX10_drawEnd, Cond.instanceMethod yX10_drawEnd, Cond.code yX10_drawEnd cX10_drawEnd 5 (some .int), Cond.methodLink RX10 138 yX2_tell, Cond.code yX11_check cX11_check 3 (some .int), Cond.methodLink RX11 312 yX4_firstWrong, Cond.instanceMethod yX4_firstWrong, Cond.selects RX4 yX4_firstWrong yX4_firstWrong, Cond.code yX4_firstWrong cX4_firstWrong 6 (some .int), Cond.methodLink RX4 70 yX9_wordAt, Cond.instanceMethod yX9_wordAt, Cond.selects RX9 yX9_wordAt yX9_wordAt, Cond.code yX9_wordAt cX9_wordAt 4 (some .int), Cond.methodLink RX9 19 yX9_byteAt, Cond.code yX11_count cX11_count 3 (some .int), Cond.methodLink RX11 316 yX3_length, Cond.instanceMethod yX3_length, Cond.selects RX3 yX3_length yX3_length, Cond.code yX3_length cX3_length 1 (some .int), Cond.methodLink RX11 317 yX1_clauses, Cond.instanceMethod yX1_clauses, Cond.selects RX1 yX1_clauses yX1_clauses, Cond.code yX1_clauses cX1_clauses 1 (some .int), Cond.methodLink RX11 320 yX10_drawn, Cond.instanceMethod yX10_drawn, Cond.selects RX10 yX10_drawn yX10_drawn, Cond.code yX10_drawn cX10_drawn 1 (some .int), Cond.methodLink RX11 323 yX3_settledOnes, Cond.instanceMethod yX3_settledOnes, Cond.selects RX3 yX3_settledOnes yX3_settledOnes]
set_option maxRecDepth 100000 in
theorem xwh_13 : xwl_13.all (fun w => decide (w ∈ lw_tbl) && goodWord w) = true := by decide +kernel
theorem xwi_13 : ∀ w ∈ xwl_13, w ∈ xtb := fun w h => xwi xwh_13 w h
theorem m_1153 : Cond.instanceMethod yX6_aheadOf ∈ xtb := xwi_13 _ (List.mem_of_getElem? (i := 0) rfl)
theorem m_1154 : Cond.selects RX6 yX6_aheadOf yX6_aheadOf ∈ xtb := xwi_13 _ (List.mem_of_getElem? (i := 1) rfl)
theorem m_1155 : Cond.code yX6_aheadOf cX6_aheadOf 2 (some .int) ∈ xtb := xwi_13 _ (List.mem_of_getElem? (i := 2) rfl)
theorem m_1159 : Cond.code yX11_lost cX11_lost 1 (some .int) ∈ xtb := xwi_13 _ (List.mem_of_getElem? (i := 3) rfl)
theorem m_1160 : Cond.methodLink RX11 302 yX3_waitedAtSettled ∈ xtb := xwi_13 _ (List.mem_of_getElem? (i := 4) rfl)
theorem m_1161 : Cond.instanceMethod yX3_waitedAtSettled ∈ xtb := xwi_13 _ (List.mem_of_getElem? (i := 5) rfl)
theorem m_1162 : Cond.selects RX3 yX3_waitedAtSettled yX3_waitedAtSettled ∈ xtb := xwi_13 _ (List.mem_of_getElem? (i := 6) rfl)
theorem m_1163 : Cond.code yX3_waitedAtSettled cX3_waitedAtSettled 4 (some .int) ∈ xtb := xwi_13 _ (List.mem_of_getElem? (i := 7) rfl)
theorem m_1164 : Cond.methodLink RX3 42 yX2_isSettled ∈ xtb := xwi_13 _ (List.mem_of_getElem? (i := 8) rfl)
theorem m_1165 : Cond.methodLink RX3 46 yX2_waitedByAll ∈ xtb := xwi_13 _ (List.mem_of_getElem? (i := 9) rfl)
theorem m_1166 : Cond.instanceMethod yX2_waitedByAll ∈ xtb := xwi_13 _ (List.mem_of_getElem? (i := 10) rfl)
theorem m_1167 : Cond.selects RX2 yX2_waitedByAll yX2_waitedByAll ∈ xtb := xwi_13 _ (List.mem_of_getElem? (i := 11) rfl)
theorem m_1168 : Cond.code yX2_waitedByAll cX2_waitedByAll 4 (some .int) ∈ xtb := xwi_13 _ (List.mem_of_getElem? (i := 12) rfl)
theorem m_1169 : Cond.methodLink RX2 54 yX2_start ∈ xtb := xwi_13 _ (List.mem_of_getElem? (i := 13) rfl)
theorem m_1173 : Cond.code yX11_seed cX11_seed 2 (some .boolean) ∈ xtb := xwi_13 _ (List.mem_of_getElem? (i := 14) rfl)
theorem m_1174 : Cond.constant RX11 305 (65535) ∈ xtb := xwi_13 _ (List.mem_of_getElem? (i := 15) rfl)
theorem m_1175 : Cond.methodLink RX11 306 yX10_setDrawn ∈ xtb := xwi_13 _ (List.mem_of_getElem? (i := 16) rfl)
theorem m_1176 : Cond.instanceMethod yX10_setDrawn ∈ xtb := xwi_13 _ (List.mem_of_getElem? (i := 17) rfl)
theorem m_1177 : Cond.selects RX10 yX10_setDrawn yX10_setDrawn ∈ xtb := xwi_13 _ (List.mem_of_getElem? (i := 18) rfl)
theorem m_1178 : Cond.code yX10_setDrawn cX10_setDrawn 2 none ∈ xtb := xwi_13 _ (List.mem_of_getElem? (i := 19) rfl)
theorem m_1182 : Cond.code yX11_draw cX11_draw 4 (some .int) ∈ xtb := xwi_13 _ (List.mem_of_getElem? (i := 20) rfl)
theorem m_1183 : Cond.methodLink RX11 309 yX10_drawComings ∈ xtb := xwi_13 _ (List.mem_of_getElem? (i := 21) rfl)
theorem m_1184 : Cond.instanceMethod yX10_drawComings ∈ xtb := xwi_13 _ (List.mem_of_getElem? (i := 22) rfl)
theorem m_1185 : Cond.selects RX10 yX10_drawComings yX10_drawComings ∈ xtb := xwi_13 _ (List.mem_of_getElem? (i := 23) rfl)
theorem m_1186 : Cond.code yX10_drawComings cX10_drawComings 6 (some .int) ∈ xtb := xwi_13 _ (List.mem_of_getElem? (i := 24) rfl)
theorem m_1187 : Cond.methodLink RX10 126 yX10_drawNext ∈ xtb := xwi_13 _ (List.mem_of_getElem? (i := 25) rfl)
theorem m_1189 : Cond.instanceMethod yX10_drawNext ∈ xtb := xwi_13 _ (List.mem_of_getElem? (i := 26) rfl)
theorem m_1190 : Cond.code yX10_drawNext cX10_drawNext 1 (some .int) ∈ xtb := xwi_13 _ (List.mem_of_getElem? (i := 27) rfl)
theorem m_1191 : Cond.constant RX10 125 (65536) ∈ xtb := xwi_13 _ (List.mem_of_getElem? (i := 28) rfl)
theorem m_1193 : Cond.methodLink RX10 132 yX2_includes ∈ xtb := xwi_13 _ (List.mem_of_getElem? (i := 29) rfl)
theorem m_1194 : Cond.methodLink RX10 135 yX10_drawEnd ∈ xtb := xwi_13 _ (List.mem_of_getElem? (i := 30) rfl)
theorem m_1196 : Cond.instanceMethod yX10_drawEnd ∈ xtb := xwi_13 _ (List.mem_of_getElem? (i := 31) rfl)
theorem m_1197 : Cond.code yX10_drawEnd cX10_drawEnd 5 (some .int) ∈ xtb := xwi_13 _ (List.mem_of_getElem? (i := 32) rfl)
theorem m_1198 : Cond.methodLink RX10 138 yX2_tell ∈ xtb := xwi_13 _ (List.mem_of_getElem? (i := 33) rfl)
theorem m_1202 : Cond.code yX11_check cX11_check 3 (some .int) ∈ xtb := xwi_13 _ (List.mem_of_getElem? (i := 34) rfl)
theorem m_1203 : Cond.methodLink RX11 312 yX4_firstWrong ∈ xtb := xwi_13 _ (List.mem_of_getElem? (i := 35) rfl)
theorem m_1204 : Cond.instanceMethod yX4_firstWrong ∈ xtb := xwi_13 _ (List.mem_of_getElem? (i := 36) rfl)
theorem m_1205 : Cond.selects RX4 yX4_firstWrong yX4_firstWrong ∈ xtb := xwi_13 _ (List.mem_of_getElem? (i := 37) rfl)
theorem m_1206 : Cond.code yX4_firstWrong cX4_firstWrong 6 (some .int) ∈ xtb := xwi_13 _ (List.mem_of_getElem? (i := 38) rfl)
theorem m_1207 : Cond.methodLink RX4 70 yX9_wordAt ∈ xtb := xwi_13 _ (List.mem_of_getElem? (i := 39) rfl)
theorem m_1208 : Cond.instanceMethod yX9_wordAt ∈ xtb := xwi_13 _ (List.mem_of_getElem? (i := 40) rfl)
theorem m_1209 : Cond.selects RX9 yX9_wordAt yX9_wordAt ∈ xtb := xwi_13 _ (List.mem_of_getElem? (i := 41) rfl)
theorem m_1210 : Cond.code yX9_wordAt cX9_wordAt 4 (some .int) ∈ xtb := xwi_13 _ (List.mem_of_getElem? (i := 42) rfl)
theorem m_1211 : Cond.methodLink RX9 19 yX9_byteAt ∈ xtb := xwi_13 _ (List.mem_of_getElem? (i := 43) rfl)
theorem m_1215 : Cond.code yX11_count cX11_count 3 (some .int) ∈ xtb := xwi_13 _ (List.mem_of_getElem? (i := 44) rfl)
theorem m_1216 : Cond.methodLink RX11 316 yX3_length ∈ xtb := xwi_13 _ (List.mem_of_getElem? (i := 45) rfl)
theorem m_1217 : Cond.instanceMethod yX3_length ∈ xtb := xwi_13 _ (List.mem_of_getElem? (i := 46) rfl)
theorem m_1218 : Cond.selects RX3 yX3_length yX3_length ∈ xtb := xwi_13 _ (List.mem_of_getElem? (i := 47) rfl)
theorem m_1219 : Cond.code yX3_length cX3_length 1 (some .int) ∈ xtb := xwi_13 _ (List.mem_of_getElem? (i := 48) rfl)
theorem m_1220 : Cond.methodLink RX11 317 yX1_clauses ∈ xtb := xwi_13 _ (List.mem_of_getElem? (i := 49) rfl)
theorem m_1221 : Cond.instanceMethod yX1_clauses ∈ xtb := xwi_13 _ (List.mem_of_getElem? (i := 50) rfl)
theorem m_1222 : Cond.selects RX1 yX1_clauses yX1_clauses ∈ xtb := xwi_13 _ (List.mem_of_getElem? (i := 51) rfl)
theorem m_1223 : Cond.code yX1_clauses cX1_clauses 1 (some .int) ∈ xtb := xwi_13 _ (List.mem_of_getElem? (i := 52) rfl)
theorem m_1224 : Cond.methodLink RX11 320 yX10_drawn ∈ xtb := xwi_13 _ (List.mem_of_getElem? (i := 53) rfl)
theorem m_1225 : Cond.instanceMethod yX10_drawn ∈ xtb := xwi_13 _ (List.mem_of_getElem? (i := 54) rfl)
theorem m_1226 : Cond.selects RX10 yX10_drawn yX10_drawn ∈ xtb := xwi_13 _ (List.mem_of_getElem? (i := 55) rfl)
theorem m_1227 : Cond.code yX10_drawn cX10_drawn 1 (some .int) ∈ xtb := xwi_13 _ (List.mem_of_getElem? (i := 56) rfl)
theorem m_1228 : Cond.methodLink RX11 323 yX3_settledOnes ∈ xtb := xwi_13 _ (List.mem_of_getElem? (i := 57) rfl)
theorem m_1229 : Cond.instanceMethod yX3_settledOnes ∈ xtb := xwi_13 _ (List.mem_of_getElem? (i := 58) rfl)
theorem m_1230 : Cond.selects RX3 yX3_settledOnes yX3_settledOnes ∈ xtb := xwi_13 _ (List.mem_of_getElem? (i := 59) rfl)
def xwl_14 : List Cond := [Cond.code yX3_settledOnes cX3_settledOnes 4 (some .int), Cond.methodLink RX11 326 yX10_toldBy, Cond.instanceMethod yX10_toldBy, Cond.selects RX10 yX10_toldBy yX10_toldBy, Cond.code yX10_toldBy cX10_toldBy 2 (some .int), Cond.code yX12_init cX12_init 2 none, Cond.fieldLink RX12 165 "LateMinutesModel" "now" "I", Cond.fieldLink RX12 155 "LateMinutesModel" "meetings" "I", Cond.fieldLink RX12 152 "LateMinutesModel" "x0" "I", Cond.fieldLink RX12 339 "LateMinutesModel" "settledMany" "I", Cond.fieldLink RX12 7 "LateMinutesModel" "worthOf" "[I", Cond.fieldLink RX12 13 "LateMinutesModel" "dayOf" "[I", Cond.fieldLink RX12 16 "LateMinutesModel" "minuteOf" "[I", Cond.fieldLink RX12 19 "LateMinutesModel" "peopleOf" "[I", Cond.fieldLink RX12 22 "LateMinutesModel" "cameAt" "[I", Cond.fieldLink RX12 25 "LateMinutesModel" "isSettled" "[Z", Cond.fieldLink RX12 29 "LateMinutesModel" "tape" "[B", Cond.fieldLink RX12 203 "LateMinutesModel" "taped" "I", Cond.fieldLink RX12 210 "LateMinutesModel" "place0" "I", Cond.fieldLink RX12 213 "LateMinutesModel" "length0" "I", Cond.fieldLink RX12 220 "LateMinutesModel" "fault" "I", Cond.fieldLink RX12 237 "LateMinutesModel" "open" "I", Cond.fieldLink RX12 233 "LateMinutesModel" "codeMany" "I", Cond.fieldLink RX12 240 "LateMinutesModel" "waiting" "I", Cond.fieldLink RX12 287 "LateMinutesModel" "saidMany" "I", Cond.fieldLink RX12 226 "LateMinutesModel" "number0" "I", Cond.fieldLink RX12 299 "LateMinutesModel" "clauses" "I", Cond.fieldLink RX12 33 "LateMinutesModel" "said" "[I", Cond.fieldLink RX12 36 "LateMinutesModel" "waits" "[I", Cond.fieldLink RX12 39 "LateMinutesModel" "saidLetter" "[I", Cond.fieldLink RX12 42 "LateMinutesModel" "saidFrom" "[I", Cond.fieldLink RX12 45 "LateMinutesModel" "saidHalf" "[I", Cond.fieldLink RX12 48 "LateMinutesModel" "saidTo" "[I", Cond.fieldLink RX12 51 "LateMinutesModel" "codes" "[I", Cond.fieldLink RX12 54 "LateMinutesModel" "letterOf" "[I", Cond.fieldLink RX12 57 "LateMinutesModel" "codeFrom" "[I", Cond.fieldLink RX12 60 "LateMinutesModel" "codeHalf" "[I", Cond.fieldLink RX12 63 "LateMinutesModel" "codeTo" "[I", Cond.fieldLink RX12 66 "LateMinutesModel" "stack" "[I", Cond.fieldLink RX12 69 "LateMinutesModel" "facts" "[I", Cond.fieldLink RX12 322 "LateMinutesModel" "chained" "I", Cond.fieldLink RX12 72 "LateMinutesModel" "chainWho" "[I", Cond.fieldLink RX12 75 "LateMinutesModel" "chainMinutes" "[I", Cond.fieldLink RX12 328 "LateMinutesModel" "notes0" "I", Cond.fieldLink RX12 78 "LateMinutesModel" "owesIt" "[I", Cond.fieldLink RX12 81 "LateMinutesModel" "hasIt" "[I", Cond.fieldLink RX12 84 "LateMinutesModel" "leftOf" "[I", Cond.fieldLink RX12 87 "LateMinutesModel" "madeOn" "[I", Cond.fieldLink RX12 90 "LateMinutesModel" "lapseOf" "[I", Cond.fieldLink RX12 93 "LateMinutesModel" "tookIn" "[I", Cond.fieldLink RX12 96 "LateMinutesModel" "gaveIn" "[I", Cond.fieldLink RX12 99 "LateMinutesModel" "liveFrom" "[I", Cond.fieldLink RX12 102 "LateMinutesModel" "isUsed" "[Z", Cond.fieldLink RX12 105 "LateMinutesModel" "least0" "[I", Cond.fieldLink RX12 108 "LateMinutesModel" "most0" "[I", Cond.fieldLink RX12 111 "LateMinutesModel" "balance" "[I", Cond.fieldLink RX12 114 "LateMinutesModel" "way" "[I", Cond.fieldLink RX12 117 "LateMinutesModel" "cameBy" "[I", Cond.fieldLink RX12 120 "LateMinutesModel" "groups" "[I", Cond.fieldLink RX12 374 "LateMinutesModel" "bridgeShut" "I"]
set_option maxRecDepth 100000 in
theorem xwh_14 : xwl_14.all (fun w => decide (w ∈ lw_tbl) && goodWord w) = true := by decide +kernel
theorem xwi_14 : ∀ w ∈ xwl_14, w ∈ xtb := fun w h => xwi xwh_14 w h
theorem m_1231 : Cond.code yX3_settledOnes cX3_settledOnes 4 (some .int) ∈ xtb := xwi_14 _ (List.mem_of_getElem? (i := 0) rfl)
theorem m_1232 : Cond.methodLink RX11 326 yX10_toldBy ∈ xtb := xwi_14 _ (List.mem_of_getElem? (i := 1) rfl)
theorem m_1233 : Cond.instanceMethod yX10_toldBy ∈ xtb := xwi_14 _ (List.mem_of_getElem? (i := 2) rfl)
theorem m_1234 : Cond.selects RX10 yX10_toldBy yX10_toldBy ∈ xtb := xwi_14 _ (List.mem_of_getElem? (i := 3) rfl)
theorem m_1235 : Cond.code yX10_toldBy cX10_toldBy 2 (some .int) ∈ xtb := xwi_14 _ (List.mem_of_getElem? (i := 4) rfl)
theorem m_1240 : Cond.code yX12_init cX12_init 2 none ∈ xtb := xwi_14 _ (List.mem_of_getElem? (i := 5) rfl)
theorem m_1242 : Cond.fieldLink RX12 165 "LateMinutesModel" "now" "I" ∈ xtb := xwi_14 _ (List.mem_of_getElem? (i := 6) rfl)
theorem m_1243 : Cond.fieldLink RX12 155 "LateMinutesModel" "meetings" "I" ∈ xtb := xwi_14 _ (List.mem_of_getElem? (i := 7) rfl)
theorem m_1244 : Cond.fieldLink RX12 152 "LateMinutesModel" "x0" "I" ∈ xtb := xwi_14 _ (List.mem_of_getElem? (i := 8) rfl)
theorem m_1245 : Cond.fieldLink RX12 339 "LateMinutesModel" "settledMany" "I" ∈ xtb := xwi_14 _ (List.mem_of_getElem? (i := 9) rfl)
theorem m_1246 : Cond.fieldLink RX12 7 "LateMinutesModel" "worthOf" "[I" ∈ xtb := xwi_14 _ (List.mem_of_getElem? (i := 10) rfl)
theorem m_1247 : Cond.fieldLink RX12 13 "LateMinutesModel" "dayOf" "[I" ∈ xtb := xwi_14 _ (List.mem_of_getElem? (i := 11) rfl)
theorem m_1248 : Cond.fieldLink RX12 16 "LateMinutesModel" "minuteOf" "[I" ∈ xtb := xwi_14 _ (List.mem_of_getElem? (i := 12) rfl)
theorem m_1249 : Cond.fieldLink RX12 19 "LateMinutesModel" "peopleOf" "[I" ∈ xtb := xwi_14 _ (List.mem_of_getElem? (i := 13) rfl)
theorem m_1250 : Cond.fieldLink RX12 22 "LateMinutesModel" "cameAt" "[I" ∈ xtb := xwi_14 _ (List.mem_of_getElem? (i := 14) rfl)
theorem m_1251 : Cond.fieldLink RX12 25 "LateMinutesModel" "isSettled" "[Z" ∈ xtb := xwi_14 _ (List.mem_of_getElem? (i := 15) rfl)
theorem m_1252 : Cond.fieldLink RX12 29 "LateMinutesModel" "tape" "[B" ∈ xtb := xwi_14 _ (List.mem_of_getElem? (i := 16) rfl)
theorem m_1253 : Cond.fieldLink RX12 203 "LateMinutesModel" "taped" "I" ∈ xtb := xwi_14 _ (List.mem_of_getElem? (i := 17) rfl)
theorem m_1254 : Cond.fieldLink RX12 210 "LateMinutesModel" "place0" "I" ∈ xtb := xwi_14 _ (List.mem_of_getElem? (i := 18) rfl)
theorem m_1255 : Cond.fieldLink RX12 213 "LateMinutesModel" "length0" "I" ∈ xtb := xwi_14 _ (List.mem_of_getElem? (i := 19) rfl)
theorem m_1256 : Cond.fieldLink RX12 220 "LateMinutesModel" "fault" "I" ∈ xtb := xwi_14 _ (List.mem_of_getElem? (i := 20) rfl)
theorem m_1257 : Cond.fieldLink RX12 237 "LateMinutesModel" "open" "I" ∈ xtb := xwi_14 _ (List.mem_of_getElem? (i := 21) rfl)
theorem m_1258 : Cond.fieldLink RX12 233 "LateMinutesModel" "codeMany" "I" ∈ xtb := xwi_14 _ (List.mem_of_getElem? (i := 22) rfl)
theorem m_1259 : Cond.fieldLink RX12 240 "LateMinutesModel" "waiting" "I" ∈ xtb := xwi_14 _ (List.mem_of_getElem? (i := 23) rfl)
theorem m_1260 : Cond.fieldLink RX12 287 "LateMinutesModel" "saidMany" "I" ∈ xtb := xwi_14 _ (List.mem_of_getElem? (i := 24) rfl)
theorem m_1261 : Cond.fieldLink RX12 226 "LateMinutesModel" "number0" "I" ∈ xtb := xwi_14 _ (List.mem_of_getElem? (i := 25) rfl)
theorem m_1262 : Cond.fieldLink RX12 299 "LateMinutesModel" "clauses" "I" ∈ xtb := xwi_14 _ (List.mem_of_getElem? (i := 26) rfl)
theorem m_1263 : Cond.fieldLink RX12 33 "LateMinutesModel" "said" "[I" ∈ xtb := xwi_14 _ (List.mem_of_getElem? (i := 27) rfl)
theorem m_1264 : Cond.fieldLink RX12 36 "LateMinutesModel" "waits" "[I" ∈ xtb := xwi_14 _ (List.mem_of_getElem? (i := 28) rfl)
theorem m_1265 : Cond.fieldLink RX12 39 "LateMinutesModel" "saidLetter" "[I" ∈ xtb := xwi_14 _ (List.mem_of_getElem? (i := 29) rfl)
theorem m_1266 : Cond.fieldLink RX12 42 "LateMinutesModel" "saidFrom" "[I" ∈ xtb := xwi_14 _ (List.mem_of_getElem? (i := 30) rfl)
theorem m_1267 : Cond.fieldLink RX12 45 "LateMinutesModel" "saidHalf" "[I" ∈ xtb := xwi_14 _ (List.mem_of_getElem? (i := 31) rfl)
theorem m_1268 : Cond.fieldLink RX12 48 "LateMinutesModel" "saidTo" "[I" ∈ xtb := xwi_14 _ (List.mem_of_getElem? (i := 32) rfl)
theorem m_1269 : Cond.fieldLink RX12 51 "LateMinutesModel" "codes" "[I" ∈ xtb := xwi_14 _ (List.mem_of_getElem? (i := 33) rfl)
theorem m_1270 : Cond.fieldLink RX12 54 "LateMinutesModel" "letterOf" "[I" ∈ xtb := xwi_14 _ (List.mem_of_getElem? (i := 34) rfl)
theorem m_1271 : Cond.fieldLink RX12 57 "LateMinutesModel" "codeFrom" "[I" ∈ xtb := xwi_14 _ (List.mem_of_getElem? (i := 35) rfl)
theorem m_1272 : Cond.fieldLink RX12 60 "LateMinutesModel" "codeHalf" "[I" ∈ xtb := xwi_14 _ (List.mem_of_getElem? (i := 36) rfl)
theorem m_1273 : Cond.fieldLink RX12 63 "LateMinutesModel" "codeTo" "[I" ∈ xtb := xwi_14 _ (List.mem_of_getElem? (i := 37) rfl)
theorem m_1274 : Cond.fieldLink RX12 66 "LateMinutesModel" "stack" "[I" ∈ xtb := xwi_14 _ (List.mem_of_getElem? (i := 38) rfl)
theorem m_1275 : Cond.fieldLink RX12 69 "LateMinutesModel" "facts" "[I" ∈ xtb := xwi_14 _ (List.mem_of_getElem? (i := 39) rfl)
theorem m_1276 : Cond.fieldLink RX12 322 "LateMinutesModel" "chained" "I" ∈ xtb := xwi_14 _ (List.mem_of_getElem? (i := 40) rfl)
theorem m_1277 : Cond.fieldLink RX12 72 "LateMinutesModel" "chainWho" "[I" ∈ xtb := xwi_14 _ (List.mem_of_getElem? (i := 41) rfl)
theorem m_1278 : Cond.fieldLink RX12 75 "LateMinutesModel" "chainMinutes" "[I" ∈ xtb := xwi_14 _ (List.mem_of_getElem? (i := 42) rfl)
theorem m_1279 : Cond.fieldLink RX12 328 "LateMinutesModel" "notes0" "I" ∈ xtb := xwi_14 _ (List.mem_of_getElem? (i := 43) rfl)
theorem m_1280 : Cond.fieldLink RX12 78 "LateMinutesModel" "owesIt" "[I" ∈ xtb := xwi_14 _ (List.mem_of_getElem? (i := 44) rfl)
theorem m_1281 : Cond.fieldLink RX12 81 "LateMinutesModel" "hasIt" "[I" ∈ xtb := xwi_14 _ (List.mem_of_getElem? (i := 45) rfl)
theorem m_1282 : Cond.fieldLink RX12 84 "LateMinutesModel" "leftOf" "[I" ∈ xtb := xwi_14 _ (List.mem_of_getElem? (i := 46) rfl)
theorem m_1283 : Cond.fieldLink RX12 87 "LateMinutesModel" "madeOn" "[I" ∈ xtb := xwi_14 _ (List.mem_of_getElem? (i := 47) rfl)
theorem m_1284 : Cond.fieldLink RX12 90 "LateMinutesModel" "lapseOf" "[I" ∈ xtb := xwi_14 _ (List.mem_of_getElem? (i := 48) rfl)
theorem m_1285 : Cond.fieldLink RX12 93 "LateMinutesModel" "tookIn" "[I" ∈ xtb := xwi_14 _ (List.mem_of_getElem? (i := 49) rfl)
theorem m_1286 : Cond.fieldLink RX12 96 "LateMinutesModel" "gaveIn" "[I" ∈ xtb := xwi_14 _ (List.mem_of_getElem? (i := 50) rfl)
theorem m_1287 : Cond.fieldLink RX12 99 "LateMinutesModel" "liveFrom" "[I" ∈ xtb := xwi_14 _ (List.mem_of_getElem? (i := 51) rfl)
theorem m_1288 : Cond.fieldLink RX12 102 "LateMinutesModel" "isUsed" "[Z" ∈ xtb := xwi_14 _ (List.mem_of_getElem? (i := 52) rfl)
theorem m_1289 : Cond.fieldLink RX12 105 "LateMinutesModel" "least0" "[I" ∈ xtb := xwi_14 _ (List.mem_of_getElem? (i := 53) rfl)
theorem m_1290 : Cond.fieldLink RX12 108 "LateMinutesModel" "most0" "[I" ∈ xtb := xwi_14 _ (List.mem_of_getElem? (i := 54) rfl)
theorem m_1291 : Cond.fieldLink RX12 111 "LateMinutesModel" "balance" "[I" ∈ xtb := xwi_14 _ (List.mem_of_getElem? (i := 55) rfl)
theorem m_1292 : Cond.fieldLink RX12 114 "LateMinutesModel" "way" "[I" ∈ xtb := xwi_14 _ (List.mem_of_getElem? (i := 56) rfl)
theorem m_1293 : Cond.fieldLink RX12 117 "LateMinutesModel" "cameBy" "[I" ∈ xtb := xwi_14 _ (List.mem_of_getElem? (i := 57) rfl)
theorem m_1294 : Cond.fieldLink RX12 120 "LateMinutesModel" "groups" "[I" ∈ xtb := xwi_14 _ (List.mem_of_getElem? (i := 58) rfl)
theorem m_1295 : Cond.fieldLink RX12 374 "LateMinutesModel" "bridgeShut" "I" ∈ xtb := xwi_14 _ (List.mem_of_getElem? (i := 59) rfl)
def xwl_15 : List Cond := [Cond.fieldLink RX12 148 "LateMinutesModel" "bridgeAll" "I", Cond.fieldLink RX12 377 "LateMinutesModel" "bridgeMore" "I", Cond.fieldLink RX12 380 "LateMinutesModel" "crossing" "I", Cond.fieldLink RX12 123 "LateMinutesModel" "endMany" "[I", Cond.fieldLink RX12 126 "LateMinutesModel" "endMinutes" "[I", Cond.fieldLink RX12 129 "LateMinutesModel" "endWeight" "[I", Cond.fieldLink RX12 132 "LateMinutesModel" "lateBy" "[J", Cond.fieldLink RX12 439 "LateMinutesModel" "going" "I", Cond.fieldLink RX12 136 "LateMinutesModel" "goer" "[I", Cond.fieldLink RX12 139 "LateMinutesModel" "aheadOf" "[I", Cond.fieldLink RX12 145 "LateMinutesModel" "comesAt" "[I", Cond.code yX12_now cX12_now 3 (some .boolean), Cond.methodLink RX12 168 yX12_in, Cond.static yX12_in, Cond.code yX12_in cX12_in 3 (some .boolean), Cond.code yX12_worth cX12_worth 4 (some .boolean), Cond.methodLink RX12 162 yX12_isPerson, Cond.static yX12_isPerson, Cond.code yX12_isPerson cX12_isPerson 1 (some .boolean), Cond.code yX12_meeting cX12_meeting 5 (some .int), Cond.methodLink RX12 172 yX12_bits, Cond.static yX12_bits, Cond.code yX12_bits cX12_bits 3 (some .int), Cond.code yX12_came cX12_came 4 (some .boolean), Cond.methodLink RX12 176 yX12_isOf, Cond.instanceMethod yX12_isOf, Cond.code yX12_isOf cX12_isOf 3 (some .boolean), Cond.methodLink RX12 158 yX12_isMeeting, Cond.instanceMethod yX12_isMeeting, Cond.code yX12_isMeeting cX12_isMeeting 2 (some .boolean), Cond.code yX12_begins cX12_begins 2 (some .int), Cond.methodLink RX12 180 yX12_allCame, Cond.instanceMethod yX12_allCame, Cond.code yX12_allCame cX12_allCame 3 (some .boolean), Cond.methodLink RX12 183 yX12_beginsAt, Cond.instanceMethod yX12_beginsAt, Cond.code yX12_beginsAt cX12_beginsAt 4 (some .int), Cond.code yX12_keeps cX12_keeps 4 (some .int), Cond.methodLink RX12 186 yX12_keepsAt, Cond.instanceMethod yX12_keepsAt, Cond.code yX12_keepsAt cX12_keepsAt 5 (some .int), Cond.code yX12_kept cX12_kept 5 (some .int), Cond.methodLink RX12 200 yX12_keptBy, Cond.instanceMethod yX12_keptBy, Cond.code yX12_keptBy cX12_keptBy 5 (some .int), Cond.methodLink RX12 193 yX12_lateAt, Cond.instanceMethod yX12_lateAt, Cond.code yX12_lateAt cX12_lateAt 3 (some .int), Cond.methodLink RX12 197 yX12_isKeeping, Cond.instanceMethod yX12_isKeeping, Cond.code yX12_isKeeping cX12_isKeeping 5 (some .boolean), Cond.methodLink RX12 190 yX12_keeperOf, Cond.instanceMethod yX12_keeperOf, Cond.code yX12_keeperOf cX12_keeperOf 4 (some .int), Cond.code yX12_feed cX12_feed 6 (some .int), Cond.methodLink RX12 206 yX12_types, Cond.instanceMethod yX12_types, Cond.code yX12_types cX12_types 3 none, Cond.code yX12_law cX12_law 4 (some .int), Cond.methodLink RX12 293 yX12_readsClause]
set_option maxRecDepth 100000 in
theorem xwh_15 : xwl_15.all (fun w => decide (w ∈ lw_tbl) && goodWord w) = true := by decide +kernel
theorem xwi_15 : ∀ w ∈ xwl_15, w ∈ xtb := fun w h => xwi xwh_15 w h
theorem m_1296 : Cond.fieldLink RX12 148 "LateMinutesModel" "bridgeAll" "I" ∈ xtb := xwi_15 _ (List.mem_of_getElem? (i := 0) rfl)
theorem m_1297 : Cond.fieldLink RX12 377 "LateMinutesModel" "bridgeMore" "I" ∈ xtb := xwi_15 _ (List.mem_of_getElem? (i := 1) rfl)
theorem m_1298 : Cond.fieldLink RX12 380 "LateMinutesModel" "crossing" "I" ∈ xtb := xwi_15 _ (List.mem_of_getElem? (i := 2) rfl)
theorem m_1299 : Cond.fieldLink RX12 123 "LateMinutesModel" "endMany" "[I" ∈ xtb := xwi_15 _ (List.mem_of_getElem? (i := 3) rfl)
theorem m_1300 : Cond.fieldLink RX12 126 "LateMinutesModel" "endMinutes" "[I" ∈ xtb := xwi_15 _ (List.mem_of_getElem? (i := 4) rfl)
theorem m_1301 : Cond.fieldLink RX12 129 "LateMinutesModel" "endWeight" "[I" ∈ xtb := xwi_15 _ (List.mem_of_getElem? (i := 5) rfl)
theorem m_1302 : Cond.fieldLink RX12 132 "LateMinutesModel" "lateBy" "[J" ∈ xtb := xwi_15 _ (List.mem_of_getElem? (i := 6) rfl)
theorem m_1303 : Cond.fieldLink RX12 439 "LateMinutesModel" "going" "I" ∈ xtb := xwi_15 _ (List.mem_of_getElem? (i := 7) rfl)
theorem m_1304 : Cond.fieldLink RX12 136 "LateMinutesModel" "goer" "[I" ∈ xtb := xwi_15 _ (List.mem_of_getElem? (i := 8) rfl)
theorem m_1305 : Cond.fieldLink RX12 139 "LateMinutesModel" "aheadOf" "[I" ∈ xtb := xwi_15 _ (List.mem_of_getElem? (i := 9) rfl)
theorem m_1307 : Cond.fieldLink RX12 145 "LateMinutesModel" "comesAt" "[I" ∈ xtb := xwi_15 _ (List.mem_of_getElem? (i := 10) rfl)
theorem m_1444 : Cond.code yX12_now cX12_now 3 (some .boolean) ∈ xtb := xwi_15 _ (List.mem_of_getElem? (i := 11) rfl)
theorem m_1445 : Cond.methodLink RX12 168 yX12_in ∈ xtb := xwi_15 _ (List.mem_of_getElem? (i := 12) rfl)
theorem m_1446 : Cond.static yX12_in ∈ xtb := xwi_15 _ (List.mem_of_getElem? (i := 13) rfl)
theorem m_1447 : Cond.code yX12_in cX12_in 3 (some .boolean) ∈ xtb := xwi_15 _ (List.mem_of_getElem? (i := 14) rfl)
theorem m_1451 : Cond.code yX12_worth cX12_worth 4 (some .boolean) ∈ xtb := xwi_15 _ (List.mem_of_getElem? (i := 15) rfl)
theorem m_1452 : Cond.methodLink RX12 162 yX12_isPerson ∈ xtb := xwi_15 _ (List.mem_of_getElem? (i := 16) rfl)
theorem m_1453 : Cond.static yX12_isPerson ∈ xtb := xwi_15 _ (List.mem_of_getElem? (i := 17) rfl)
theorem m_1454 : Cond.code yX12_isPerson cX12_isPerson 1 (some .boolean) ∈ xtb := xwi_15 _ (List.mem_of_getElem? (i := 18) rfl)
theorem m_1458 : Cond.code yX12_meeting cX12_meeting 5 (some .int) ∈ xtb := xwi_15 _ (List.mem_of_getElem? (i := 19) rfl)
theorem m_1459 : Cond.methodLink RX12 172 yX12_bits ∈ xtb := xwi_15 _ (List.mem_of_getElem? (i := 20) rfl)
theorem m_1460 : Cond.static yX12_bits ∈ xtb := xwi_15 _ (List.mem_of_getElem? (i := 21) rfl)
theorem m_1461 : Cond.code yX12_bits cX12_bits 3 (some .int) ∈ xtb := xwi_15 _ (List.mem_of_getElem? (i := 22) rfl)
theorem m_1465 : Cond.code yX12_came cX12_came 4 (some .boolean) ∈ xtb := xwi_15 _ (List.mem_of_getElem? (i := 23) rfl)
theorem m_1466 : Cond.methodLink RX12 176 yX12_isOf ∈ xtb := xwi_15 _ (List.mem_of_getElem? (i := 24) rfl)
theorem m_1468 : Cond.instanceMethod yX12_isOf ∈ xtb := xwi_15 _ (List.mem_of_getElem? (i := 25) rfl)
theorem m_1469 : Cond.code yX12_isOf cX12_isOf 3 (some .boolean) ∈ xtb := xwi_15 _ (List.mem_of_getElem? (i := 26) rfl)
theorem m_1470 : Cond.methodLink RX12 158 yX12_isMeeting ∈ xtb := xwi_15 _ (List.mem_of_getElem? (i := 27) rfl)
theorem m_1472 : Cond.instanceMethod yX12_isMeeting ∈ xtb := xwi_15 _ (List.mem_of_getElem? (i := 28) rfl)
theorem m_1473 : Cond.code yX12_isMeeting cX12_isMeeting 2 (some .boolean) ∈ xtb := xwi_15 _ (List.mem_of_getElem? (i := 29) rfl)
theorem m_1477 : Cond.code yX12_begins cX12_begins 2 (some .int) ∈ xtb := xwi_15 _ (List.mem_of_getElem? (i := 30) rfl)
theorem m_1478 : Cond.methodLink RX12 180 yX12_allCame ∈ xtb := xwi_15 _ (List.mem_of_getElem? (i := 31) rfl)
theorem m_1480 : Cond.instanceMethod yX12_allCame ∈ xtb := xwi_15 _ (List.mem_of_getElem? (i := 32) rfl)
theorem m_1481 : Cond.code yX12_allCame cX12_allCame 3 (some .boolean) ∈ xtb := xwi_15 _ (List.mem_of_getElem? (i := 33) rfl)
theorem m_1482 : Cond.methodLink RX12 183 yX12_beginsAt ∈ xtb := xwi_15 _ (List.mem_of_getElem? (i := 34) rfl)
theorem m_1484 : Cond.instanceMethod yX12_beginsAt ∈ xtb := xwi_15 _ (List.mem_of_getElem? (i := 35) rfl)
theorem m_1485 : Cond.code yX12_beginsAt cX12_beginsAt 4 (some .int) ∈ xtb := xwi_15 _ (List.mem_of_getElem? (i := 36) rfl)
theorem m_1489 : Cond.code yX12_keeps cX12_keeps 4 (some .int) ∈ xtb := xwi_15 _ (List.mem_of_getElem? (i := 37) rfl)
theorem m_1490 : Cond.methodLink RX12 186 yX12_keepsAt ∈ xtb := xwi_15 _ (List.mem_of_getElem? (i := 38) rfl)
theorem m_1492 : Cond.instanceMethod yX12_keepsAt ∈ xtb := xwi_15 _ (List.mem_of_getElem? (i := 39) rfl)
theorem m_1493 : Cond.code yX12_keepsAt cX12_keepsAt 5 (some .int) ∈ xtb := xwi_15 _ (List.mem_of_getElem? (i := 40) rfl)
theorem m_1497 : Cond.code yX12_kept cX12_kept 5 (some .int) ∈ xtb := xwi_15 _ (List.mem_of_getElem? (i := 41) rfl)
theorem m_1498 : Cond.methodLink RX12 200 yX12_keptBy ∈ xtb := xwi_15 _ (List.mem_of_getElem? (i := 42) rfl)
theorem m_1500 : Cond.instanceMethod yX12_keptBy ∈ xtb := xwi_15 _ (List.mem_of_getElem? (i := 43) rfl)
theorem m_1501 : Cond.code yX12_keptBy cX12_keptBy 5 (some .int) ∈ xtb := xwi_15 _ (List.mem_of_getElem? (i := 44) rfl)
theorem m_1502 : Cond.methodLink RX12 193 yX12_lateAt ∈ xtb := xwi_15 _ (List.mem_of_getElem? (i := 45) rfl)
theorem m_1504 : Cond.instanceMethod yX12_lateAt ∈ xtb := xwi_15 _ (List.mem_of_getElem? (i := 46) rfl)
theorem m_1505 : Cond.code yX12_lateAt cX12_lateAt 3 (some .int) ∈ xtb := xwi_15 _ (List.mem_of_getElem? (i := 47) rfl)
theorem m_1506 : Cond.methodLink RX12 197 yX12_isKeeping ∈ xtb := xwi_15 _ (List.mem_of_getElem? (i := 48) rfl)
theorem m_1508 : Cond.instanceMethod yX12_isKeeping ∈ xtb := xwi_15 _ (List.mem_of_getElem? (i := 49) rfl)
theorem m_1509 : Cond.code yX12_isKeeping cX12_isKeeping 5 (some .boolean) ∈ xtb := xwi_15 _ (List.mem_of_getElem? (i := 50) rfl)
theorem m_1510 : Cond.methodLink RX12 190 yX12_keeperOf ∈ xtb := xwi_15 _ (List.mem_of_getElem? (i := 51) rfl)
theorem m_1512 : Cond.instanceMethod yX12_keeperOf ∈ xtb := xwi_15 _ (List.mem_of_getElem? (i := 52) rfl)
theorem m_1513 : Cond.code yX12_keeperOf cX12_keeperOf 4 (some .int) ∈ xtb := xwi_15 _ (List.mem_of_getElem? (i := 53) rfl)
theorem m_1517 : Cond.code yX12_feed cX12_feed 6 (some .int) ∈ xtb := xwi_15 _ (List.mem_of_getElem? (i := 54) rfl)
theorem m_1518 : Cond.methodLink RX12 206 yX12_types ∈ xtb := xwi_15 _ (List.mem_of_getElem? (i := 55) rfl)
theorem m_1520 : Cond.instanceMethod yX12_types ∈ xtb := xwi_15 _ (List.mem_of_getElem? (i := 56) rfl)
theorem m_1521 : Cond.code yX12_types cX12_types 3 none ∈ xtb := xwi_15 _ (List.mem_of_getElem? (i := 57) rfl)
theorem m_1525 : Cond.code yX12_law cX12_law 4 (some .int) ∈ xtb := xwi_15 _ (List.mem_of_getElem? (i := 58) rfl)
theorem m_1526 : Cond.methodLink RX12 293 yX12_readsClause ∈ xtb := xwi_15 _ (List.mem_of_getElem? (i := 59) rfl)
def xwl_16 : List Cond := [Cond.instanceMethod yX12_readsClause, Cond.code yX12_readsClause cX12_readsClause 2 (some .boolean), Cond.methodLink RX12 216 yX12_here, Cond.instanceMethod yX12_here, Cond.code yX12_here cX12_here 1 (some .int), Cond.methodLink RX12 223 yX12_wrongAt, Cond.instanceMethod yX12_wrongAt, Cond.code yX12_wrongAt cX12_wrongAt 3 (some .boolean), Cond.methodLink RX12 272 yX12_readsSum, Cond.instanceMethod yX12_readsSum, Cond.code yX12_readsSum cX12_readsSum 3 (some .boolean), Cond.methodLink RX12 259 yX12_readsFactor, Cond.instanceMethod yX12_readsFactor, Cond.code yX12_readsFactor cX12_readsFactor 2 (some .boolean), Cond.methodLink RX12 250 yX12_opens, Cond.instanceMethod yX12_opens, Cond.code yX12_opens cX12_opens 2 (some .boolean), Cond.constant RX12 236 (1048576), Cond.methodLink RX12 229 yX12_isDigit, Cond.instanceMethod yX12_isDigit, Cond.code yX12_isDigit cX12_isDigit 1 (some .boolean), Cond.methodLink RX12 253 yX12_readsNumber, Cond.instanceMethod yX12_readsNumber, Cond.code yX12_readsNumber cX12_readsNumber 2 (some .boolean), Cond.methodLink RX12 246 yX12_notes, Cond.instanceMethod yX12_notes, Cond.code yX12_notes cX12_notes 3 none, Cond.methodLink RX12 256 yX12_factOf, Cond.static yX12_factOf, Cond.code yX12_factOf cX12_factOf 1 (some .int), Cond.methodLink RX12 262 yX12_sumSign, Cond.static yX12_sumSign, Cond.code yX12_sumSign cX12_sumSign 1 (some .int), Cond.methodLink RX12 265 yX12_closesSums, Cond.instanceMethod yX12_closesSums, Cond.code yX12_closesSums cX12_closesSums 2 none, Cond.methodLink RX12 243 yX12_top, Cond.instanceMethod yX12_top, Cond.code yX12_top cX12_top 1 (some .int), Cond.methodLink RX12 269 yX12_hasOpenSum, Cond.instanceMethod yX12_hasOpenSum, Cond.code yX12_hasOpenSum cX12_hasOpenSum 3 (some .boolean), Cond.methodLink RX12 290 yX12_readsCondition, Cond.instanceMethod yX12_readsCondition, Cond.code yX12_readsCondition cX12_readsCondition 1 (some .boolean), Cond.methodLink RX12 278 yX12_readsCompared, Cond.instanceMethod yX12_readsCompared, Cond.code yX12_readsCompared cX12_readsCompared 2 (some .boolean), Cond.methodLink RX12 275 yX12_endsPiece, Cond.instanceMethod yX12_endsPiece, Cond.code yX12_endsPiece cX12_endsPiece 1 none, Cond.methodLink RX12 281 yX12_lands, Cond.instanceMethod yX12_lands, Cond.code yX12_lands cX12_lands 3 none, Cond.methodLink RX12 284 yX12_jumps, Cond.instanceMethod yX12_jumps, Cond.code yX12_jumps cX12_jumps 2 none, Cond.methodLink RX12 296 yX12_takes, Cond.instanceMethod yX12_takes, Cond.code yX12_takes cX12_takes 2 (some .boolean)]
set_option maxRecDepth 100000 in
theorem xwh_16 : xwl_16.all (fun w => decide (w ∈ lw_tbl) && goodWord w) = true := by decide +kernel
theorem xwi_16 : ∀ w ∈ xwl_16, w ∈ xtb := fun w h => xwi xwh_16 w h
theorem m_1528 : Cond.instanceMethod yX12_readsClause ∈ xtb := xwi_16 _ (List.mem_of_getElem? (i := 0) rfl)
theorem m_1529 : Cond.code yX12_readsClause cX12_readsClause 2 (some .boolean) ∈ xtb := xwi_16 _ (List.mem_of_getElem? (i := 1) rfl)
theorem m_1530 : Cond.methodLink RX12 216 yX12_here ∈ xtb := xwi_16 _ (List.mem_of_getElem? (i := 2) rfl)
theorem m_1532 : Cond.instanceMethod yX12_here ∈ xtb := xwi_16 _ (List.mem_of_getElem? (i := 3) rfl)
theorem m_1533 : Cond.code yX12_here cX12_here 1 (some .int) ∈ xtb := xwi_16 _ (List.mem_of_getElem? (i := 4) rfl)
theorem m_1534 : Cond.methodLink RX12 223 yX12_wrongAt ∈ xtb := xwi_16 _ (List.mem_of_getElem? (i := 5) rfl)
theorem m_1536 : Cond.instanceMethod yX12_wrongAt ∈ xtb := xwi_16 _ (List.mem_of_getElem? (i := 6) rfl)
theorem m_1537 : Cond.code yX12_wrongAt cX12_wrongAt 3 (some .boolean) ∈ xtb := xwi_16 _ (List.mem_of_getElem? (i := 7) rfl)
theorem m_1538 : Cond.methodLink RX12 272 yX12_readsSum ∈ xtb := xwi_16 _ (List.mem_of_getElem? (i := 8) rfl)
theorem m_1540 : Cond.instanceMethod yX12_readsSum ∈ xtb := xwi_16 _ (List.mem_of_getElem? (i := 9) rfl)
theorem m_1541 : Cond.code yX12_readsSum cX12_readsSum 3 (some .boolean) ∈ xtb := xwi_16 _ (List.mem_of_getElem? (i := 10) rfl)
theorem m_1542 : Cond.methodLink RX12 259 yX12_readsFactor ∈ xtb := xwi_16 _ (List.mem_of_getElem? (i := 11) rfl)
theorem m_1544 : Cond.instanceMethod yX12_readsFactor ∈ xtb := xwi_16 _ (List.mem_of_getElem? (i := 12) rfl)
theorem m_1545 : Cond.code yX12_readsFactor cX12_readsFactor 2 (some .boolean) ∈ xtb := xwi_16 _ (List.mem_of_getElem? (i := 13) rfl)
theorem m_1546 : Cond.methodLink RX12 250 yX12_opens ∈ xtb := xwi_16 _ (List.mem_of_getElem? (i := 14) rfl)
theorem m_1548 : Cond.instanceMethod yX12_opens ∈ xtb := xwi_16 _ (List.mem_of_getElem? (i := 15) rfl)
theorem m_1549 : Cond.code yX12_opens cX12_opens 2 (some .boolean) ∈ xtb := xwi_16 _ (List.mem_of_getElem? (i := 16) rfl)
theorem m_1550 : Cond.constant RX12 236 (1048576) ∈ xtb := xwi_16 _ (List.mem_of_getElem? (i := 17) rfl)
theorem m_1551 : Cond.methodLink RX12 229 yX12_isDigit ∈ xtb := xwi_16 _ (List.mem_of_getElem? (i := 18) rfl)
theorem m_1553 : Cond.instanceMethod yX12_isDigit ∈ xtb := xwi_16 _ (List.mem_of_getElem? (i := 19) rfl)
theorem m_1554 : Cond.code yX12_isDigit cX12_isDigit 1 (some .boolean) ∈ xtb := xwi_16 _ (List.mem_of_getElem? (i := 20) rfl)
theorem m_1555 : Cond.methodLink RX12 253 yX12_readsNumber ∈ xtb := xwi_16 _ (List.mem_of_getElem? (i := 21) rfl)
theorem m_1557 : Cond.instanceMethod yX12_readsNumber ∈ xtb := xwi_16 _ (List.mem_of_getElem? (i := 22) rfl)
theorem m_1558 : Cond.code yX12_readsNumber cX12_readsNumber 2 (some .boolean) ∈ xtb := xwi_16 _ (List.mem_of_getElem? (i := 23) rfl)
theorem m_1559 : Cond.methodLink RX12 246 yX12_notes ∈ xtb := xwi_16 _ (List.mem_of_getElem? (i := 24) rfl)
theorem m_1561 : Cond.instanceMethod yX12_notes ∈ xtb := xwi_16 _ (List.mem_of_getElem? (i := 25) rfl)
theorem m_1562 : Cond.code yX12_notes cX12_notes 3 none ∈ xtb := xwi_16 _ (List.mem_of_getElem? (i := 26) rfl)
theorem m_1563 : Cond.methodLink RX12 256 yX12_factOf ∈ xtb := xwi_16 _ (List.mem_of_getElem? (i := 27) rfl)
theorem m_1564 : Cond.static yX12_factOf ∈ xtb := xwi_16 _ (List.mem_of_getElem? (i := 28) rfl)
theorem m_1565 : Cond.code yX12_factOf cX12_factOf 1 (some .int) ∈ xtb := xwi_16 _ (List.mem_of_getElem? (i := 29) rfl)
theorem m_1566 : Cond.methodLink RX12 262 yX12_sumSign ∈ xtb := xwi_16 _ (List.mem_of_getElem? (i := 30) rfl)
theorem m_1567 : Cond.static yX12_sumSign ∈ xtb := xwi_16 _ (List.mem_of_getElem? (i := 31) rfl)
theorem m_1568 : Cond.code yX12_sumSign cX12_sumSign 1 (some .int) ∈ xtb := xwi_16 _ (List.mem_of_getElem? (i := 32) rfl)
theorem m_1569 : Cond.methodLink RX12 265 yX12_closesSums ∈ xtb := xwi_16 _ (List.mem_of_getElem? (i := 33) rfl)
theorem m_1571 : Cond.instanceMethod yX12_closesSums ∈ xtb := xwi_16 _ (List.mem_of_getElem? (i := 34) rfl)
theorem m_1572 : Cond.code yX12_closesSums cX12_closesSums 2 none ∈ xtb := xwi_16 _ (List.mem_of_getElem? (i := 35) rfl)
theorem m_1573 : Cond.methodLink RX12 243 yX12_top ∈ xtb := xwi_16 _ (List.mem_of_getElem? (i := 36) rfl)
theorem m_1575 : Cond.instanceMethod yX12_top ∈ xtb := xwi_16 _ (List.mem_of_getElem? (i := 37) rfl)
theorem m_1576 : Cond.code yX12_top cX12_top 1 (some .int) ∈ xtb := xwi_16 _ (List.mem_of_getElem? (i := 38) rfl)
theorem m_1577 : Cond.methodLink RX12 269 yX12_hasOpenSum ∈ xtb := xwi_16 _ (List.mem_of_getElem? (i := 39) rfl)
theorem m_1579 : Cond.instanceMethod yX12_hasOpenSum ∈ xtb := xwi_16 _ (List.mem_of_getElem? (i := 40) rfl)
theorem m_1580 : Cond.code yX12_hasOpenSum cX12_hasOpenSum 3 (some .boolean) ∈ xtb := xwi_16 _ (List.mem_of_getElem? (i := 41) rfl)
theorem m_1581 : Cond.methodLink RX12 290 yX12_readsCondition ∈ xtb := xwi_16 _ (List.mem_of_getElem? (i := 42) rfl)
theorem m_1583 : Cond.instanceMethod yX12_readsCondition ∈ xtb := xwi_16 _ (List.mem_of_getElem? (i := 43) rfl)
theorem m_1584 : Cond.code yX12_readsCondition cX12_readsCondition 1 (some .boolean) ∈ xtb := xwi_16 _ (List.mem_of_getElem? (i := 44) rfl)
theorem m_1585 : Cond.methodLink RX12 278 yX12_readsCompared ∈ xtb := xwi_16 _ (List.mem_of_getElem? (i := 45) rfl)
theorem m_1587 : Cond.instanceMethod yX12_readsCompared ∈ xtb := xwi_16 _ (List.mem_of_getElem? (i := 46) rfl)
theorem m_1588 : Cond.code yX12_readsCompared cX12_readsCompared 2 (some .boolean) ∈ xtb := xwi_16 _ (List.mem_of_getElem? (i := 47) rfl)
theorem m_1589 : Cond.methodLink RX12 275 yX12_endsPiece ∈ xtb := xwi_16 _ (List.mem_of_getElem? (i := 48) rfl)
theorem m_1591 : Cond.instanceMethod yX12_endsPiece ∈ xtb := xwi_16 _ (List.mem_of_getElem? (i := 49) rfl)
theorem m_1592 : Cond.code yX12_endsPiece cX12_endsPiece 1 none ∈ xtb := xwi_16 _ (List.mem_of_getElem? (i := 50) rfl)
theorem m_1593 : Cond.methodLink RX12 281 yX12_lands ∈ xtb := xwi_16 _ (List.mem_of_getElem? (i := 51) rfl)
theorem m_1595 : Cond.instanceMethod yX12_lands ∈ xtb := xwi_16 _ (List.mem_of_getElem? (i := 52) rfl)
theorem m_1596 : Cond.code yX12_lands cX12_lands 3 none ∈ xtb := xwi_16 _ (List.mem_of_getElem? (i := 53) rfl)
theorem m_1597 : Cond.methodLink RX12 284 yX12_jumps ∈ xtb := xwi_16 _ (List.mem_of_getElem? (i := 54) rfl)
theorem m_1599 : Cond.instanceMethod yX12_jumps ∈ xtb := xwi_16 _ (List.mem_of_getElem? (i := 55) rfl)
theorem m_1600 : Cond.code yX12_jumps cX12_jumps 2 none ∈ xtb := xwi_16 _ (List.mem_of_getElem? (i := 56) rfl)
theorem m_1601 : Cond.methodLink RX12 296 yX12_takes ∈ xtb := xwi_16 _ (List.mem_of_getElem? (i := 57) rfl)
theorem m_1603 : Cond.instanceMethod yX12_takes ∈ xtb := xwi_16 _ (List.mem_of_getElem? (i := 58) rfl)
theorem m_1604 : Cond.code yX12_takes cX12_takes 2 (some .boolean) ∈ xtb := xwi_16 _ (List.mem_of_getElem? (i := 59) rfl)
def xwl_17 : List Cond := [Cond.code yX12_owes cX12_owes 5 (some .int), Cond.methodLink RX12 315 yX12_areTwo, Cond.instanceMethod yX12_areTwo, Cond.code yX12_areTwo cX12_areTwo 4 (some .boolean), Cond.methodLink RX12 318 yX12_owesBy, Cond.instanceMethod yX12_owesBy, Cond.code yX12_owesBy cX12_owesBy 5 (some .int), Cond.methodLink RX12 308 yX12_feels, Cond.instanceMethod yX12_feels, Cond.code yX12_feels cX12_feels 6 none, Cond.methodLink RX12 312 yX12_byLaw, Cond.instanceMethod yX12_byLaw, Cond.code yX12_byLaw cX12_byLaw 5 (some .int), Cond.methodLink RX12 305 yX12_comesTo, Cond.instanceMethod yX12_comesTo, Cond.code yX12_comesTo cX12_comesTo 8 (some .int), Cond.methodLink RX12 302 yX12_reckon, Cond.static yX12_reckon, Cond.code yX12_reckon cX12_reckon 3 (some .int), Cond.code yX12_chain cX12_chain 5 (some .int), Cond.methodLink RX12 325 yX12_chains, Cond.instanceMethod yX12_chains, Cond.code yX12_chains cX12_chains 10 none, Cond.code yX12_settle cX12_settle 3 (some .int), Cond.methodLink RX12 335 yX12_goesOver, Cond.instanceMethod yX12_goesOver, Cond.code yX12_goesOver cX12_goesOver 8 (some .int), Cond.methodLink RX12 331 yX12_makes, Cond.instanceMethod yX12_makes, Cond.code yX12_makes cX12_makes 6 none, Cond.code yX12_noteIs cX12_noteIs 3 (some .int), Cond.methodLink RX12 342 yX12_isNote, Cond.instanceMethod yX12_isNote, Cond.code yX12_isNote cX12_isNote 2 (some .boolean), Cond.methodLink RX12 348 yX12_isLive, Cond.instanceMethod yX12_isLive, Cond.code yX12_isLive cX12_isLive 2 (some .boolean), Cond.methodLink RX12 345 yX12_isLiveOn, Cond.instanceMethod yX12_isLiveOn, Cond.code yX12_isLiveOn cX12_isLiveOn 3 (some .boolean), Cond.code yX12_hand cX12_hand 3 (some .boolean), Cond.code yX12_cut cX12_cut 3 (some .int), Cond.code yX12_take cX12_take 6 (some .int), Cond.instanceMethod yX12_owed, Cond.selects RX12 yX12_owed yX12_owed, Cond.code yX12_owed cX12_owed 5 (some .int), Cond.code yX12_called cX12_called 9 (some .long), Cond.constantLong RX12 351 (-1), Cond.methodLink RX12 353 yX12_dearest, Cond.instanceMethod yX12_dearest, Cond.code yX12_dearest cX12_dearest 5 (some .int), Cond.code yX12_round cX12_round 3 (some .int), Cond.methodLink RX12 362 yX12_balances, Cond.instanceMethod yX12_balances, Cond.code yX12_balances cX12_balances 3 none, Cond.methodLink RX12 356 yX12_owed, Cond.methodLink RX12 365 yX12_measures, Cond.instanceMethod yX12_measures, Cond.code yX12_measures cX12_measures 5 none, Cond.methodLink RX12 368 yX12_nearestGetter]
set_option maxRecDepth 100000 in
theorem xwh_17 : xwl_17.all (fun w => decide (w ∈ lw_tbl) && goodWord w) = true := by decide +kernel
theorem xwi_17 : ∀ w ∈ xwl_17, w ∈ xtb := fun w h => xwi xwh_17 w h
theorem m_1608 : Cond.code yX12_owes cX12_owes 5 (some .int) ∈ xtb := xwi_17 _ (List.mem_of_getElem? (i := 0) rfl)
theorem m_1609 : Cond.methodLink RX12 315 yX12_areTwo ∈ xtb := xwi_17 _ (List.mem_of_getElem? (i := 1) rfl)
theorem m_1611 : Cond.instanceMethod yX12_areTwo ∈ xtb := xwi_17 _ (List.mem_of_getElem? (i := 2) rfl)
theorem m_1612 : Cond.code yX12_areTwo cX12_areTwo 4 (some .boolean) ∈ xtb := xwi_17 _ (List.mem_of_getElem? (i := 3) rfl)
theorem m_1613 : Cond.methodLink RX12 318 yX12_owesBy ∈ xtb := xwi_17 _ (List.mem_of_getElem? (i := 4) rfl)
theorem m_1615 : Cond.instanceMethod yX12_owesBy ∈ xtb := xwi_17 _ (List.mem_of_getElem? (i := 5) rfl)
theorem m_1616 : Cond.code yX12_owesBy cX12_owesBy 5 (some .int) ∈ xtb := xwi_17 _ (List.mem_of_getElem? (i := 6) rfl)
theorem m_1617 : Cond.methodLink RX12 308 yX12_feels ∈ xtb := xwi_17 _ (List.mem_of_getElem? (i := 7) rfl)
theorem m_1619 : Cond.instanceMethod yX12_feels ∈ xtb := xwi_17 _ (List.mem_of_getElem? (i := 8) rfl)
theorem m_1620 : Cond.code yX12_feels cX12_feels 6 none ∈ xtb := xwi_17 _ (List.mem_of_getElem? (i := 9) rfl)
theorem m_1621 : Cond.methodLink RX12 312 yX12_byLaw ∈ xtb := xwi_17 _ (List.mem_of_getElem? (i := 10) rfl)
theorem m_1623 : Cond.instanceMethod yX12_byLaw ∈ xtb := xwi_17 _ (List.mem_of_getElem? (i := 11) rfl)
theorem m_1624 : Cond.code yX12_byLaw cX12_byLaw 5 (some .int) ∈ xtb := xwi_17 _ (List.mem_of_getElem? (i := 12) rfl)
theorem m_1625 : Cond.methodLink RX12 305 yX12_comesTo ∈ xtb := xwi_17 _ (List.mem_of_getElem? (i := 13) rfl)
theorem m_1627 : Cond.instanceMethod yX12_comesTo ∈ xtb := xwi_17 _ (List.mem_of_getElem? (i := 14) rfl)
theorem m_1628 : Cond.code yX12_comesTo cX12_comesTo 8 (some .int) ∈ xtb := xwi_17 _ (List.mem_of_getElem? (i := 15) rfl)
theorem m_1629 : Cond.methodLink RX12 302 yX12_reckon ∈ xtb := xwi_17 _ (List.mem_of_getElem? (i := 16) rfl)
theorem m_1630 : Cond.static yX12_reckon ∈ xtb := xwi_17 _ (List.mem_of_getElem? (i := 17) rfl)
theorem m_1631 : Cond.code yX12_reckon cX12_reckon 3 (some .int) ∈ xtb := xwi_17 _ (List.mem_of_getElem? (i := 18) rfl)
theorem m_1635 : Cond.code yX12_chain cX12_chain 5 (some .int) ∈ xtb := xwi_17 _ (List.mem_of_getElem? (i := 19) rfl)
theorem m_1636 : Cond.methodLink RX12 325 yX12_chains ∈ xtb := xwi_17 _ (List.mem_of_getElem? (i := 20) rfl)
theorem m_1638 : Cond.instanceMethod yX12_chains ∈ xtb := xwi_17 _ (List.mem_of_getElem? (i := 21) rfl)
theorem m_1639 : Cond.code yX12_chains cX12_chains 10 none ∈ xtb := xwi_17 _ (List.mem_of_getElem? (i := 22) rfl)
theorem m_1643 : Cond.code yX12_settle cX12_settle 3 (some .int) ∈ xtb := xwi_17 _ (List.mem_of_getElem? (i := 23) rfl)
theorem m_1644 : Cond.methodLink RX12 335 yX12_goesOver ∈ xtb := xwi_17 _ (List.mem_of_getElem? (i := 24) rfl)
theorem m_1646 : Cond.instanceMethod yX12_goesOver ∈ xtb := xwi_17 _ (List.mem_of_getElem? (i := 25) rfl)
theorem m_1647 : Cond.code yX12_goesOver cX12_goesOver 8 (some .int) ∈ xtb := xwi_17 _ (List.mem_of_getElem? (i := 26) rfl)
theorem m_1648 : Cond.methodLink RX12 331 yX12_makes ∈ xtb := xwi_17 _ (List.mem_of_getElem? (i := 27) rfl)
theorem m_1650 : Cond.instanceMethod yX12_makes ∈ xtb := xwi_17 _ (List.mem_of_getElem? (i := 28) rfl)
theorem m_1651 : Cond.code yX12_makes cX12_makes 6 none ∈ xtb := xwi_17 _ (List.mem_of_getElem? (i := 29) rfl)
theorem m_1655 : Cond.code yX12_noteIs cX12_noteIs 3 (some .int) ∈ xtb := xwi_17 _ (List.mem_of_getElem? (i := 30) rfl)
theorem m_1656 : Cond.methodLink RX12 342 yX12_isNote ∈ xtb := xwi_17 _ (List.mem_of_getElem? (i := 31) rfl)
theorem m_1658 : Cond.instanceMethod yX12_isNote ∈ xtb := xwi_17 _ (List.mem_of_getElem? (i := 32) rfl)
theorem m_1659 : Cond.code yX12_isNote cX12_isNote 2 (some .boolean) ∈ xtb := xwi_17 _ (List.mem_of_getElem? (i := 33) rfl)
theorem m_1660 : Cond.methodLink RX12 348 yX12_isLive ∈ xtb := xwi_17 _ (List.mem_of_getElem? (i := 34) rfl)
theorem m_1662 : Cond.instanceMethod yX12_isLive ∈ xtb := xwi_17 _ (List.mem_of_getElem? (i := 35) rfl)
theorem m_1663 : Cond.code yX12_isLive cX12_isLive 2 (some .boolean) ∈ xtb := xwi_17 _ (List.mem_of_getElem? (i := 36) rfl)
theorem m_1664 : Cond.methodLink RX12 345 yX12_isLiveOn ∈ xtb := xwi_17 _ (List.mem_of_getElem? (i := 37) rfl)
theorem m_1666 : Cond.instanceMethod yX12_isLiveOn ∈ xtb := xwi_17 _ (List.mem_of_getElem? (i := 38) rfl)
theorem m_1667 : Cond.code yX12_isLiveOn cX12_isLiveOn 3 (some .boolean) ∈ xtb := xwi_17 _ (List.mem_of_getElem? (i := 39) rfl)
theorem m_1671 : Cond.code yX12_hand cX12_hand 3 (some .boolean) ∈ xtb := xwi_17 _ (List.mem_of_getElem? (i := 40) rfl)
theorem m_1675 : Cond.code yX12_cut cX12_cut 3 (some .int) ∈ xtb := xwi_17 _ (List.mem_of_getElem? (i := 41) rfl)
theorem m_1679 : Cond.code yX12_take cX12_take 6 (some .int) ∈ xtb := xwi_17 _ (List.mem_of_getElem? (i := 42) rfl)
theorem m_1681 : Cond.instanceMethod yX12_owed ∈ xtb := xwi_17 _ (List.mem_of_getElem? (i := 43) rfl)
theorem m_1682 : Cond.selects RX12 yX12_owed yX12_owed ∈ xtb := xwi_17 _ (List.mem_of_getElem? (i := 44) rfl)
theorem m_1683 : Cond.code yX12_owed cX12_owed 5 (some .int) ∈ xtb := xwi_17 _ (List.mem_of_getElem? (i := 45) rfl)
theorem m_1687 : Cond.code yX12_called cX12_called 9 (some .long) ∈ xtb := xwi_17 _ (List.mem_of_getElem? (i := 46) rfl)
theorem m_1688 : Cond.constantLong RX12 351 (-1) ∈ xtb := xwi_17 _ (List.mem_of_getElem? (i := 47) rfl)
theorem m_1689 : Cond.methodLink RX12 353 yX12_dearest ∈ xtb := xwi_17 _ (List.mem_of_getElem? (i := 48) rfl)
theorem m_1691 : Cond.instanceMethod yX12_dearest ∈ xtb := xwi_17 _ (List.mem_of_getElem? (i := 49) rfl)
theorem m_1692 : Cond.code yX12_dearest cX12_dearest 5 (some .int) ∈ xtb := xwi_17 _ (List.mem_of_getElem? (i := 50) rfl)
theorem m_1696 : Cond.code yX12_round cX12_round 3 (some .int) ∈ xtb := xwi_17 _ (List.mem_of_getElem? (i := 51) rfl)
theorem m_1697 : Cond.methodLink RX12 362 yX12_balances ∈ xtb := xwi_17 _ (List.mem_of_getElem? (i := 52) rfl)
theorem m_1699 : Cond.instanceMethod yX12_balances ∈ xtb := xwi_17 _ (List.mem_of_getElem? (i := 53) rfl)
theorem m_1700 : Cond.code yX12_balances cX12_balances 3 none ∈ xtb := xwi_17 _ (List.mem_of_getElem? (i := 54) rfl)
theorem m_1701 : Cond.methodLink RX12 356 yX12_owed ∈ xtb := xwi_17 _ (List.mem_of_getElem? (i := 55) rfl)
theorem m_1702 : Cond.methodLink RX12 365 yX12_measures ∈ xtb := xwi_17 _ (List.mem_of_getElem? (i := 56) rfl)
theorem m_1704 : Cond.instanceMethod yX12_measures ∈ xtb := xwi_17 _ (List.mem_of_getElem? (i := 57) rfl)
theorem m_1705 : Cond.code yX12_measures cX12_measures 5 none ∈ xtb := xwi_17 _ (List.mem_of_getElem? (i := 58) rfl)
theorem m_1706 : Cond.methodLink RX12 368 yX12_nearestGetter ∈ xtb := xwi_17 _ (List.mem_of_getElem? (i := 59) rfl)
def xwl_18 : List Cond := [Cond.instanceMethod yX12_nearestGetter, Cond.code yX12_nearestGetter cX12_nearestGetter 3 (some .int), Cond.methodLink RX12 371 yX12_goesTo, Cond.instanceMethod yX12_goesTo, Cond.code yX12_goesTo cX12_goesTo 6 none, Cond.methodLink RX12 359 yX12_stepOn, Cond.instanceMethod yX12_stepOn, Cond.code yX12_stepOn cX12_stepOn 3 (some .int), Cond.code yX12_takings cX12_takings 7 (some .int), Cond.code yX12_end cX12_end 4 (some .int), Cond.code yX12_bridge cX12_bridge 4 (some .boolean), Cond.code yX12_crosses cX12_crosses 3 (some .boolean), Cond.methodLink RX12 383 yX12_isCrossing, Cond.instanceMethod yX12_isCrossing, Cond.code yX12_isCrossing cX12_isCrossing 2 (some .boolean), Cond.code yX12_lateIf cX12_lateIf 7 (some .int), Cond.methodLink RX12 396 yX12_bridgeWeight, Cond.instanceMethod yX12_bridgeWeight, Cond.code yX12_bridgeWeight cX12_bridgeWeight 2 (some .int), Cond.methodLink RX12 400 yX12_lateWeight, Cond.instanceMethod yX12_lateWeight, Cond.code yX12_lateWeight cX12_lateWeight 6 (some .int), Cond.methodLink RX12 386 yX12_endsOf, Cond.instanceMethod yX12_endsOf, Cond.code yX12_endsOf cX12_endsOf 2 (some .int), Cond.methodLink RX12 392 yX12_wayAt, Cond.instanceMethod yX12_wayAt, Cond.code yX12_wayAt cX12_wayAt 4 (some .int), Cond.methodLink RX12 389 yX12_weightAt, Cond.instanceMethod yX12_weightAt, Cond.code yX12_weightAt cX12_weightAt 3 (some .int), Cond.methodLink RX12 403 yX12_weightsOf, Cond.instanceMethod yX12_weightsOf, Cond.code yX12_weightsOf cX12_weightsOf 4 (some .int), Cond.methodLink RX12 406 yX12_gcd, Cond.static yX12_gcd, Cond.code yX12_gcd cX12_gcd 5 (some .int), Cond.code yX12_hang cX12_hang 4 (some .long), Cond.methodLink RX12 409 yX12_hangs, Cond.instanceMethod yX12_hangs, Cond.code yX12_hangs cX12_hangs 9 (some .long), Cond.code yX12_cost cX12_cost 5 (some .long), Cond.methodLink RX12 424 yX12_costOf, Cond.instanceMethod yX12_costOf, Cond.code yX12_costOf cX12_costOf 5 (some .long), Cond.methodLink RX12 420 yX12_costWith, Cond.instanceMethod yX12_costWith, Cond.code yX12_costWith cX12_costWith 9 (some .long), Cond.methodLink RX12 416 yX12_comingCost, Cond.instanceMethod yX12_comingCost, Cond.code yX12_comingCost cX12_comingCost 6 (some .long), Cond.methodLink RX12 413 yX12_worthAt, Cond.instanceMethod yX12_worthAt, Cond.code yX12_worthAt cX12_worthAt 4 (some .int), Cond.code yX12_out cX12_out 10 (some .int), Cond.code yX12_two cX12_two 7 (some .long), Cond.methodLink RX12 431 yX12_areInRow, Cond.instanceMethod yX12_areInRow, Cond.code yX12_areInRow cX12_areInRow 6 (some .boolean), Cond.methodLink RX12 435 yX12_twoOf]
set_option maxRecDepth 100000 in
theorem xwh_18 : xwl_18.all (fun w => decide (w ∈ lw_tbl) && goodWord w) = true := by decide +kernel
theorem xwi_18 : ∀ w ∈ xwl_18, w ∈ xtb := fun w h => xwi xwh_18 w h
theorem m_1708 : Cond.instanceMethod yX12_nearestGetter ∈ xtb := xwi_18 _ (List.mem_of_getElem? (i := 0) rfl)
theorem m_1709 : Cond.code yX12_nearestGetter cX12_nearestGetter 3 (some .int) ∈ xtb := xwi_18 _ (List.mem_of_getElem? (i := 1) rfl)
theorem m_1710 : Cond.methodLink RX12 371 yX12_goesTo ∈ xtb := xwi_18 _ (List.mem_of_getElem? (i := 2) rfl)
theorem m_1712 : Cond.instanceMethod yX12_goesTo ∈ xtb := xwi_18 _ (List.mem_of_getElem? (i := 3) rfl)
theorem m_1713 : Cond.code yX12_goesTo cX12_goesTo 6 none ∈ xtb := xwi_18 _ (List.mem_of_getElem? (i := 4) rfl)
theorem m_1714 : Cond.methodLink RX12 359 yX12_stepOn ∈ xtb := xwi_18 _ (List.mem_of_getElem? (i := 5) rfl)
theorem m_1716 : Cond.instanceMethod yX12_stepOn ∈ xtb := xwi_18 _ (List.mem_of_getElem? (i := 6) rfl)
theorem m_1717 : Cond.code yX12_stepOn cX12_stepOn 3 (some .int) ∈ xtb := xwi_18 _ (List.mem_of_getElem? (i := 7) rfl)
theorem m_1721 : Cond.code yX12_takings cX12_takings 7 (some .int) ∈ xtb := xwi_18 _ (List.mem_of_getElem? (i := 8) rfl)
theorem m_1725 : Cond.code yX12_end cX12_end 4 (some .int) ∈ xtb := xwi_18 _ (List.mem_of_getElem? (i := 9) rfl)
theorem m_1729 : Cond.code yX12_bridge cX12_bridge 4 (some .boolean) ∈ xtb := xwi_18 _ (List.mem_of_getElem? (i := 10) rfl)
theorem m_1733 : Cond.code yX12_crosses cX12_crosses 3 (some .boolean) ∈ xtb := xwi_18 _ (List.mem_of_getElem? (i := 11) rfl)
theorem m_1734 : Cond.methodLink RX12 383 yX12_isCrossing ∈ xtb := xwi_18 _ (List.mem_of_getElem? (i := 12) rfl)
theorem m_1736 : Cond.instanceMethod yX12_isCrossing ∈ xtb := xwi_18 _ (List.mem_of_getElem? (i := 13) rfl)
theorem m_1737 : Cond.code yX12_isCrossing cX12_isCrossing 2 (some .boolean) ∈ xtb := xwi_18 _ (List.mem_of_getElem? (i := 14) rfl)
theorem m_1741 : Cond.code yX12_lateIf cX12_lateIf 7 (some .int) ∈ xtb := xwi_18 _ (List.mem_of_getElem? (i := 15) rfl)
theorem m_1742 : Cond.methodLink RX12 396 yX12_bridgeWeight ∈ xtb := xwi_18 _ (List.mem_of_getElem? (i := 16) rfl)
theorem m_1744 : Cond.instanceMethod yX12_bridgeWeight ∈ xtb := xwi_18 _ (List.mem_of_getElem? (i := 17) rfl)
theorem m_1745 : Cond.code yX12_bridgeWeight cX12_bridgeWeight 2 (some .int) ∈ xtb := xwi_18 _ (List.mem_of_getElem? (i := 18) rfl)
theorem m_1746 : Cond.methodLink RX12 400 yX12_lateWeight ∈ xtb := xwi_18 _ (List.mem_of_getElem? (i := 19) rfl)
theorem m_1748 : Cond.instanceMethod yX12_lateWeight ∈ xtb := xwi_18 _ (List.mem_of_getElem? (i := 20) rfl)
theorem m_1749 : Cond.code yX12_lateWeight cX12_lateWeight 6 (some .int) ∈ xtb := xwi_18 _ (List.mem_of_getElem? (i := 21) rfl)
theorem m_1750 : Cond.methodLink RX12 386 yX12_endsOf ∈ xtb := xwi_18 _ (List.mem_of_getElem? (i := 22) rfl)
theorem m_1752 : Cond.instanceMethod yX12_endsOf ∈ xtb := xwi_18 _ (List.mem_of_getElem? (i := 23) rfl)
theorem m_1753 : Cond.code yX12_endsOf cX12_endsOf 2 (some .int) ∈ xtb := xwi_18 _ (List.mem_of_getElem? (i := 24) rfl)
theorem m_1754 : Cond.methodLink RX12 392 yX12_wayAt ∈ xtb := xwi_18 _ (List.mem_of_getElem? (i := 25) rfl)
theorem m_1756 : Cond.instanceMethod yX12_wayAt ∈ xtb := xwi_18 _ (List.mem_of_getElem? (i := 26) rfl)
theorem m_1757 : Cond.code yX12_wayAt cX12_wayAt 4 (some .int) ∈ xtb := xwi_18 _ (List.mem_of_getElem? (i := 27) rfl)
theorem m_1758 : Cond.methodLink RX12 389 yX12_weightAt ∈ xtb := xwi_18 _ (List.mem_of_getElem? (i := 28) rfl)
theorem m_1760 : Cond.instanceMethod yX12_weightAt ∈ xtb := xwi_18 _ (List.mem_of_getElem? (i := 29) rfl)
theorem m_1761 : Cond.code yX12_weightAt cX12_weightAt 3 (some .int) ∈ xtb := xwi_18 _ (List.mem_of_getElem? (i := 30) rfl)
theorem m_1762 : Cond.methodLink RX12 403 yX12_weightsOf ∈ xtb := xwi_18 _ (List.mem_of_getElem? (i := 31) rfl)
theorem m_1764 : Cond.instanceMethod yX12_weightsOf ∈ xtb := xwi_18 _ (List.mem_of_getElem? (i := 32) rfl)
theorem m_1765 : Cond.code yX12_weightsOf cX12_weightsOf 4 (some .int) ∈ xtb := xwi_18 _ (List.mem_of_getElem? (i := 33) rfl)
theorem m_1766 : Cond.methodLink RX12 406 yX12_gcd ∈ xtb := xwi_18 _ (List.mem_of_getElem? (i := 34) rfl)
theorem m_1767 : Cond.static yX12_gcd ∈ xtb := xwi_18 _ (List.mem_of_getElem? (i := 35) rfl)
theorem m_1768 : Cond.code yX12_gcd cX12_gcd 5 (some .int) ∈ xtb := xwi_18 _ (List.mem_of_getElem? (i := 36) rfl)
theorem m_1772 : Cond.code yX12_hang cX12_hang 4 (some .long) ∈ xtb := xwi_18 _ (List.mem_of_getElem? (i := 37) rfl)
theorem m_1773 : Cond.methodLink RX12 409 yX12_hangs ∈ xtb := xwi_18 _ (List.mem_of_getElem? (i := 38) rfl)
theorem m_1775 : Cond.instanceMethod yX12_hangs ∈ xtb := xwi_18 _ (List.mem_of_getElem? (i := 39) rfl)
theorem m_1776 : Cond.code yX12_hangs cX12_hangs 9 (some .long) ∈ xtb := xwi_18 _ (List.mem_of_getElem? (i := 40) rfl)
theorem m_1780 : Cond.code yX12_cost cX12_cost 5 (some .long) ∈ xtb := xwi_18 _ (List.mem_of_getElem? (i := 41) rfl)
theorem m_1781 : Cond.methodLink RX12 424 yX12_costOf ∈ xtb := xwi_18 _ (List.mem_of_getElem? (i := 42) rfl)
theorem m_1783 : Cond.instanceMethod yX12_costOf ∈ xtb := xwi_18 _ (List.mem_of_getElem? (i := 43) rfl)
theorem m_1784 : Cond.code yX12_costOf cX12_costOf 5 (some .long) ∈ xtb := xwi_18 _ (List.mem_of_getElem? (i := 44) rfl)
theorem m_1785 : Cond.methodLink RX12 420 yX12_costWith ∈ xtb := xwi_18 _ (List.mem_of_getElem? (i := 45) rfl)
theorem m_1787 : Cond.instanceMethod yX12_costWith ∈ xtb := xwi_18 _ (List.mem_of_getElem? (i := 46) rfl)
theorem m_1788 : Cond.code yX12_costWith cX12_costWith 9 (some .long) ∈ xtb := xwi_18 _ (List.mem_of_getElem? (i := 47) rfl)
theorem m_1789 : Cond.methodLink RX12 416 yX12_comingCost ∈ xtb := xwi_18 _ (List.mem_of_getElem? (i := 48) rfl)
theorem m_1791 : Cond.instanceMethod yX12_comingCost ∈ xtb := xwi_18 _ (List.mem_of_getElem? (i := 49) rfl)
theorem m_1792 : Cond.code yX12_comingCost cX12_comingCost 6 (some .long) ∈ xtb := xwi_18 _ (List.mem_of_getElem? (i := 50) rfl)
theorem m_1793 : Cond.methodLink RX12 413 yX12_worthAt ∈ xtb := xwi_18 _ (List.mem_of_getElem? (i := 51) rfl)
theorem m_1795 : Cond.instanceMethod yX12_worthAt ∈ xtb := xwi_18 _ (List.mem_of_getElem? (i := 52) rfl)
theorem m_1796 : Cond.code yX12_worthAt cX12_worthAt 4 (some .int) ∈ xtb := xwi_18 _ (List.mem_of_getElem? (i := 53) rfl)
theorem m_1800 : Cond.code yX12_out cX12_out 10 (some .int) ∈ xtb := xwi_18 _ (List.mem_of_getElem? (i := 54) rfl)
theorem m_1804 : Cond.code yX12_two cX12_two 7 (some .long) ∈ xtb := xwi_18 _ (List.mem_of_getElem? (i := 55) rfl)
theorem m_1805 : Cond.methodLink RX12 431 yX12_areInRow ∈ xtb := xwi_18 _ (List.mem_of_getElem? (i := 56) rfl)
theorem m_1807 : Cond.instanceMethod yX12_areInRow ∈ xtb := xwi_18 _ (List.mem_of_getElem? (i := 57) rfl)
theorem m_1808 : Cond.code yX12_areInRow cX12_areInRow 6 (some .boolean) ∈ xtb := xwi_18 _ (List.mem_of_getElem? (i := 58) rfl)
theorem m_1809 : Cond.methodLink RX12 435 yX12_twoOf ∈ xtb := xwi_18 _ (List.mem_of_getElem? (i := 59) rfl)
def xwl_19 : List Cond := [Cond.instanceMethod yX12_twoOf, Cond.code yX12_twoOf cX12_twoOf 7 (some .long), Cond.methodLink RX12 427 yX12_twoWith, Cond.instanceMethod yX12_twoWith, Cond.code yX12_twoWith cX12_twoWith 16 (some .long), Cond.code yX12_outTwo cX12_outTwo 12 (some .int), Cond.code yX12_rest cX12_rest 7 (some .int), Cond.methodLink RX12 449 yX12_laysGoers, Cond.instanceMethod yX12_laysGoers, Cond.code yX12_laysGoers cX12_laysGoers 3 none, Cond.methodLink RX12 452 yX12_changes, Cond.instanceMethod yX12_changes, Cond.code yX12_changes cX12_changes 11 (some .boolean), Cond.methodLink RX12 446 yX12_allWith, Cond.instanceMethod yX12_allWith, Cond.code yX12_allWith cX12_allWith 14 (some .long), Cond.methodLink RX12 442 yX12_dayCost, Cond.instanceMethod yX12_dayCost, Cond.code yX12_dayCost cX12_dayCost 9 (some .long), Cond.code yX12_lost cX12_lost 5 (some .int), Cond.code yX12_seed cX12_seed 2 (some .boolean), Cond.constant RX12 455 (65535), Cond.code yX12_draw cX12_draw 6 (some .int), Cond.methodLink RX12 457 yX12_draws, Cond.instanceMethod yX12_draws, Cond.code yX12_draws cX12_draws 1 none, Cond.constant RX12 456 (65536), Cond.methodLink RX12 460 yX12_drawnEnd, Cond.instanceMethod yX12_drawnEnd, Cond.code yX12_drawnEnd cX12_drawnEnd 4 (some .int), Cond.code yX12_check cX12_check 5 (some .int), Cond.methodLink RX12 463 yX12_tapeNumber, Cond.instanceMethod yX12_tapeNumber, Cond.code yX12_tapeNumber cX12_tapeNumber 4 (some .int), Cond.methodLink RX12 466 yX12_noteNumber, Cond.instanceMethod yX12_noteNumber, Cond.code yX12_noteNumber cX12_noteNumber 3 (some .int), Cond.code yX12_count cX12_count 2 (some .int)]
set_option maxRecDepth 100000 in
theorem xwh_19 : xwl_19.all (fun w => decide (w ∈ lw_tbl) && goodWord w) = true := by decide +kernel
theorem xwi_19 : ∀ w ∈ xwl_19, w ∈ xtb := fun w h => xwi xwh_19 w h
theorem m_1811 : Cond.instanceMethod yX12_twoOf ∈ xtb := xwi_19 _ (List.mem_of_getElem? (i := 0) rfl)
theorem m_1812 : Cond.code yX12_twoOf cX12_twoOf 7 (some .long) ∈ xtb := xwi_19 _ (List.mem_of_getElem? (i := 1) rfl)
theorem m_1813 : Cond.methodLink RX12 427 yX12_twoWith ∈ xtb := xwi_19 _ (List.mem_of_getElem? (i := 2) rfl)
theorem m_1815 : Cond.instanceMethod yX12_twoWith ∈ xtb := xwi_19 _ (List.mem_of_getElem? (i := 3) rfl)
theorem m_1816 : Cond.code yX12_twoWith cX12_twoWith 16 (some .long) ∈ xtb := xwi_19 _ (List.mem_of_getElem? (i := 4) rfl)
theorem m_1820 : Cond.code yX12_outTwo cX12_outTwo 12 (some .int) ∈ xtb := xwi_19 _ (List.mem_of_getElem? (i := 5) rfl)
theorem m_1824 : Cond.code yX12_rest cX12_rest 7 (some .int) ∈ xtb := xwi_19 _ (List.mem_of_getElem? (i := 6) rfl)
theorem m_1825 : Cond.methodLink RX12 449 yX12_laysGoers ∈ xtb := xwi_19 _ (List.mem_of_getElem? (i := 7) rfl)
theorem m_1827 : Cond.instanceMethod yX12_laysGoers ∈ xtb := xwi_19 _ (List.mem_of_getElem? (i := 8) rfl)
theorem m_1828 : Cond.code yX12_laysGoers cX12_laysGoers 3 none ∈ xtb := xwi_19 _ (List.mem_of_getElem? (i := 9) rfl)
theorem m_1829 : Cond.methodLink RX12 452 yX12_changes ∈ xtb := xwi_19 _ (List.mem_of_getElem? (i := 10) rfl)
theorem m_1831 : Cond.instanceMethod yX12_changes ∈ xtb := xwi_19 _ (List.mem_of_getElem? (i := 11) rfl)
theorem m_1832 : Cond.code yX12_changes cX12_changes 11 (some .boolean) ∈ xtb := xwi_19 _ (List.mem_of_getElem? (i := 12) rfl)
theorem m_1833 : Cond.methodLink RX12 446 yX12_allWith ∈ xtb := xwi_19 _ (List.mem_of_getElem? (i := 13) rfl)
theorem m_1835 : Cond.instanceMethod yX12_allWith ∈ xtb := xwi_19 _ (List.mem_of_getElem? (i := 14) rfl)
theorem m_1836 : Cond.code yX12_allWith cX12_allWith 14 (some .long) ∈ xtb := xwi_19 _ (List.mem_of_getElem? (i := 15) rfl)
theorem m_1837 : Cond.methodLink RX12 442 yX12_dayCost ∈ xtb := xwi_19 _ (List.mem_of_getElem? (i := 16) rfl)
theorem m_1839 : Cond.instanceMethod yX12_dayCost ∈ xtb := xwi_19 _ (List.mem_of_getElem? (i := 17) rfl)
theorem m_1840 : Cond.code yX12_dayCost cX12_dayCost 9 (some .long) ∈ xtb := xwi_19 _ (List.mem_of_getElem? (i := 18) rfl)
theorem m_1844 : Cond.code yX12_lost cX12_lost 5 (some .int) ∈ xtb := xwi_19 _ (List.mem_of_getElem? (i := 19) rfl)
theorem m_1848 : Cond.code yX12_seed cX12_seed 2 (some .boolean) ∈ xtb := xwi_19 _ (List.mem_of_getElem? (i := 20) rfl)
theorem m_1849 : Cond.constant RX12 455 (65535) ∈ xtb := xwi_19 _ (List.mem_of_getElem? (i := 21) rfl)
theorem m_1853 : Cond.code yX12_draw cX12_draw 6 (some .int) ∈ xtb := xwi_19 _ (List.mem_of_getElem? (i := 22) rfl)
theorem m_1854 : Cond.methodLink RX12 457 yX12_draws ∈ xtb := xwi_19 _ (List.mem_of_getElem? (i := 23) rfl)
theorem m_1856 : Cond.instanceMethod yX12_draws ∈ xtb := xwi_19 _ (List.mem_of_getElem? (i := 24) rfl)
theorem m_1857 : Cond.code yX12_draws cX12_draws 1 none ∈ xtb := xwi_19 _ (List.mem_of_getElem? (i := 25) rfl)
theorem m_1858 : Cond.constant RX12 456 (65536) ∈ xtb := xwi_19 _ (List.mem_of_getElem? (i := 26) rfl)
theorem m_1859 : Cond.methodLink RX12 460 yX12_drawnEnd ∈ xtb := xwi_19 _ (List.mem_of_getElem? (i := 27) rfl)
theorem m_1861 : Cond.instanceMethod yX12_drawnEnd ∈ xtb := xwi_19 _ (List.mem_of_getElem? (i := 28) rfl)
theorem m_1862 : Cond.code yX12_drawnEnd cX12_drawnEnd 4 (some .int) ∈ xtb := xwi_19 _ (List.mem_of_getElem? (i := 29) rfl)
theorem m_1866 : Cond.code yX12_check cX12_check 5 (some .int) ∈ xtb := xwi_19 _ (List.mem_of_getElem? (i := 30) rfl)
theorem m_1867 : Cond.methodLink RX12 463 yX12_tapeNumber ∈ xtb := xwi_19 _ (List.mem_of_getElem? (i := 31) rfl)
theorem m_1869 : Cond.instanceMethod yX12_tapeNumber ∈ xtb := xwi_19 _ (List.mem_of_getElem? (i := 32) rfl)
theorem m_1870 : Cond.code yX12_tapeNumber cX12_tapeNumber 4 (some .int) ∈ xtb := xwi_19 _ (List.mem_of_getElem? (i := 33) rfl)
theorem m_1871 : Cond.methodLink RX12 466 yX12_noteNumber ∈ xtb := xwi_19 _ (List.mem_of_getElem? (i := 34) rfl)
theorem m_1873 : Cond.instanceMethod yX12_noteNumber ∈ xtb := xwi_19 _ (List.mem_of_getElem? (i := 35) rfl)
theorem m_1874 : Cond.code yX12_noteNumber cX12_noteNumber 3 (some .int) ∈ xtb := xwi_19 _ (List.mem_of_getElem? (i := 36) rfl)
theorem m_1878 : Cond.code yX12_count cX12_count 2 (some .int) ∈ xtb := xwi_19 _ (List.mem_of_getElem? (i := 37) rfl)
theorem cl_0 : xCl 0 := ⟨by decide +kernel, fun w h => List.mem_filter.mpr (wl_0 w h), tyX0_ok, nmX0⟩
theorem cl_1 : xCl 1 := ⟨by decide +kernel, fun w h => List.mem_filter.mpr (wl_1 w h), tyX1_ok, nmX1⟩
theorem cl_2 : xCl 2 := ⟨by decide +kernel, fun w h => List.mem_filter.mpr (wl_2 w h), tyX2_ok, nmX2⟩
theorem cl_3 : xCl 3 := ⟨by decide +kernel, fun w h => List.mem_filter.mpr (wl_3 w h), tyX3_ok, nmX3⟩
theorem cl_4 : xCl 4 := ⟨by decide +kernel, fun w h => List.mem_filter.mpr (wl_4 w h), tyX4_ok, nmX4⟩
theorem cl_5 : xCl 5 := ⟨by decide +kernel, fun w h => List.mem_filter.mpr (wl_5 w h), tyX5_ok, nmX5⟩
theorem cl_6 : xCl 6 := ⟨by decide +kernel, fun w h => List.mem_filter.mpr (wl_6 w h), tyX6_ok, nmX6⟩
theorem cl_7 : xCl 7 := ⟨by decide +kernel, fun w h => List.mem_filter.mpr (wl_7 w h), tyX7_ok, nmX7⟩
theorem cl_8 : xCl 8 := ⟨by decide +kernel, fun w h => List.mem_filter.mpr (wl_8 w h), tyX8_ok, nmX8⟩
theorem cl_9 : xCl 9 := ⟨by decide +kernel, fun w h => List.mem_filter.mpr (wl_9 w h), tyX9_ok, nmX9⟩
theorem cl_10 : xCl 10 := ⟨by decide +kernel, fun w h => List.mem_filter.mpr (wl_10 w h), tyX10_ok, nmX10⟩
theorem cl_11 : xCl 11 := ⟨by decide +kernel, fun w h => List.mem_filter.mpr (wl_11 w h), tyX11_ok, nmX11⟩
theorem cl_12 : xCl 12 := ⟨by decide +kernel, fun w h => List.mem_filter.mpr (wl_12 w h), tyX12_ok, nmX12⟩
theorem lk_RX0_15 : xLk RX0 15 0 1 := ⟨by decide, m_159⟩
theorem lk_RX0_18 : xLk RX0 18 0 2 := ⟨by decide, m_160⟩
theorem lk_RX0_21 : xLk RX0 21 0 3 := ⟨by decide, m_161⟩
theorem lk_RX0_24 : xLk RX0 24 0 4 := ⟨by decide, m_162⟩
theorem lk_RX0_27 : xLk RX0 27 0 5 := ⟨by decide, m_163⟩
theorem lk_RX0_31 : xLk RX0 31 0 6 := ⟨by decide, m_164⟩
theorem lk_RX0_35 : xLk RX0 35 0 7 := ⟨by decide, m_165⟩
theorem lk_RX0_9 : xLk RX0 9 0 0 := ⟨by decide, m_158⟩
theorem lk_RX10_15 : xLk RX10 15 10 2 := ⟨by decide, m_314⟩
theorem lk_RX10_18 : xLk RX10 18 10 3 := ⟨by decide, m_315⟩
theorem lk_RX10_21 : xLk RX10 21 10 4 := ⟨by decide, m_316⟩
theorem lk_RX10_24 : xLk RX10 24 10 5 := ⟨by decide, m_317⟩
theorem lk_RX10_28 : xLk RX10 28 10 6 := ⟨by decide, m_318⟩
theorem lk_RX10_32 : xLk RX10 32 10 8 := ⟨by decide, m_320⟩
theorem lk_RX10_36 : xLk RX10 36 10 10 := ⟨by decide, m_322⟩
theorem lk_RX10_39 : xLk RX10 39 10 0 := ⟨by decide, m_312⟩
theorem lk_RX10_57 : xLk RX10 57 10 9 := ⟨by decide, m_321⟩
theorem lk_RX10_60 : xLk RX10 60 10 7 := ⟨by decide, m_319⟩
theorem lk_RX10_9 : xLk RX10 9 10 1 := ⟨by decide, m_313⟩
theorem lk_RX11_10 : xLk RX11 10 11 0 := ⟨by decide, m_391⟩
theorem lk_RX11_19 : xLk RX11 19 11 1 := ⟨by decide, m_392⟩
theorem lk_RX11_26 : xLk RX11 26 11 2 := ⟨by decide, m_393⟩
theorem lk_RX11_35 : xLk RX11 35 11 3 := ⟨by decide, m_394⟩
theorem lk_RX11_42 : xLk RX11 42 11 4 := ⟨by decide, m_395⟩
theorem lk_RX11_49 : xLk RX11 49 11 5 := ⟨by decide, m_396⟩
theorem lk_RX11_56 : xLk RX11 56 11 6 := ⟨by decide, m_397⟩
theorem lk_RX11_65 : xLk RX11 65 11 7 := ⟨by decide, m_398⟩
theorem lk_RX11_69 : xLk RX11 69 11 8 := ⟨by decide, m_399⟩
theorem lk_RX12_102 : xLk RX12 102 12 46 := ⟨by decide, m_1288⟩
theorem lk_RX12_105 : xLk RX12 105 12 47 := ⟨by decide, m_1289⟩
theorem lk_RX12_108 : xLk RX12 108 12 48 := ⟨by decide, m_1290⟩
theorem lk_RX12_111 : xLk RX12 111 12 49 := ⟨by decide, m_1291⟩
theorem lk_RX12_114 : xLk RX12 114 12 50 := ⟨by decide, m_1292⟩
theorem lk_RX12_117 : xLk RX12 117 12 51 := ⟨by decide, m_1293⟩
theorem lk_RX12_120 : xLk RX12 120 12 52 := ⟨by decide, m_1294⟩
theorem lk_RX12_123 : xLk RX12 123 12 57 := ⟨by decide, m_1299⟩
theorem lk_RX12_126 : xLk RX12 126 12 58 := ⟨by decide, m_1300⟩
theorem lk_RX12_129 : xLk RX12 129 12 59 := ⟨by decide, m_1301⟩
theorem lk_RX12_13 : xLk RX12 13 12 5 := ⟨by decide, m_1247⟩
theorem lk_RX12_132 : xLk RX12 132 12 60 := ⟨by decide, m_1302⟩
theorem lk_RX12_136 : xLk RX12 136 12 62 := ⟨by decide, m_1304⟩
theorem lk_RX12_139 : xLk RX12 139 12 63 := ⟨by decide, m_1305⟩
theorem lk_RX12_145 : xLk RX12 145 12 65 := ⟨by decide, m_1307⟩
theorem lk_RX12_148 : xLk RX12 148 12 54 := ⟨by decide, m_1296⟩
theorem lk_RX12_152 : xLk RX12 152 12 2 := ⟨by decide, m_1244⟩
theorem lk_RX12_155 : xLk RX12 155 12 1 := ⟨by decide, m_1243⟩
theorem lk_RX12_16 : xLk RX12 16 12 6 := ⟨by decide, m_1248⟩
theorem lk_RX12_165 : xLk RX12 165 12 0 := ⟨by decide, m_1242⟩
theorem lk_RX12_19 : xLk RX12 19 12 7 := ⟨by decide, m_1249⟩
theorem lk_RX12_203 : xLk RX12 203 12 11 := ⟨by decide, m_1253⟩
theorem lk_RX12_210 : xLk RX12 210 12 12 := ⟨by decide, m_1254⟩
theorem lk_RX12_213 : xLk RX12 213 12 13 := ⟨by decide, m_1255⟩
theorem lk_RX12_22 : xLk RX12 22 12 8 := ⟨by decide, m_1250⟩
theorem lk_RX12_220 : xLk RX12 220 12 14 := ⟨by decide, m_1256⟩
theorem lk_RX12_226 : xLk RX12 226 12 19 := ⟨by decide, m_1261⟩
theorem lk_RX12_233 : xLk RX12 233 12 16 := ⟨by decide, m_1258⟩
theorem lk_RX12_237 : xLk RX12 237 12 15 := ⟨by decide, m_1257⟩
theorem lk_RX12_240 : xLk RX12 240 12 17 := ⟨by decide, m_1259⟩
theorem lk_RX12_25 : xLk RX12 25 12 9 := ⟨by decide, m_1251⟩
theorem lk_RX12_287 : xLk RX12 287 12 18 := ⟨by decide, m_1260⟩
theorem lk_RX12_29 : xLk RX12 29 12 10 := ⟨by decide, m_1252⟩
theorem lk_RX12_299 : xLk RX12 299 12 20 := ⟨by decide, m_1262⟩
theorem lk_RX12_322 : xLk RX12 322 12 34 := ⟨by decide, m_1276⟩
theorem lk_RX12_328 : xLk RX12 328 12 37 := ⟨by decide, m_1279⟩
theorem lk_RX12_33 : xLk RX12 33 12 21 := ⟨by decide, m_1263⟩
theorem lk_RX12_339 : xLk RX12 339 12 3 := ⟨by decide, m_1245⟩
theorem lk_RX12_36 : xLk RX12 36 12 22 := ⟨by decide, m_1264⟩
theorem lk_RX12_374 : xLk RX12 374 12 53 := ⟨by decide, m_1295⟩
theorem lk_RX12_377 : xLk RX12 377 12 55 := ⟨by decide, m_1297⟩
theorem lk_RX12_380 : xLk RX12 380 12 56 := ⟨by decide, m_1298⟩
theorem lk_RX12_39 : xLk RX12 39 12 23 := ⟨by decide, m_1265⟩
theorem lk_RX12_42 : xLk RX12 42 12 24 := ⟨by decide, m_1266⟩
theorem lk_RX12_439 : xLk RX12 439 12 61 := ⟨by decide, m_1303⟩
theorem lk_RX12_45 : xLk RX12 45 12 25 := ⟨by decide, m_1267⟩
theorem lk_RX12_48 : xLk RX12 48 12 26 := ⟨by decide, m_1268⟩
theorem lk_RX12_51 : xLk RX12 51 12 27 := ⟨by decide, m_1269⟩
theorem lk_RX12_54 : xLk RX12 54 12 28 := ⟨by decide, m_1270⟩
theorem lk_RX12_57 : xLk RX12 57 12 29 := ⟨by decide, m_1271⟩
theorem lk_RX12_60 : xLk RX12 60 12 30 := ⟨by decide, m_1272⟩
theorem lk_RX12_63 : xLk RX12 63 12 31 := ⟨by decide, m_1273⟩
theorem lk_RX12_66 : xLk RX12 66 12 32 := ⟨by decide, m_1274⟩
theorem lk_RX12_69 : xLk RX12 69 12 33 := ⟨by decide, m_1275⟩
theorem lk_RX12_7 : xLk RX12 7 12 4 := ⟨by decide, m_1246⟩
theorem lk_RX12_72 : xLk RX12 72 12 35 := ⟨by decide, m_1277⟩
theorem lk_RX12_75 : xLk RX12 75 12 36 := ⟨by decide, m_1278⟩
theorem lk_RX12_78 : xLk RX12 78 12 38 := ⟨by decide, m_1280⟩
theorem lk_RX12_81 : xLk RX12 81 12 39 := ⟨by decide, m_1281⟩
theorem lk_RX12_84 : xLk RX12 84 12 40 := ⟨by decide, m_1282⟩
theorem lk_RX12_87 : xLk RX12 87 12 41 := ⟨by decide, m_1283⟩
theorem lk_RX12_90 : xLk RX12 90 12 42 := ⟨by decide, m_1284⟩
theorem lk_RX12_93 : xLk RX12 93 12 43 := ⟨by decide, m_1285⟩
theorem lk_RX12_96 : xLk RX12 96 12 44 := ⟨by decide, m_1286⟩
theorem lk_RX12_99 : xLk RX12 99 12 45 := ⟨by decide, m_1287⟩
theorem lk_RX1_18 : xLk RX1 18 1 1 := ⟨by decide, m_186⟩
theorem lk_RX1_22 : xLk RX1 22 1 2 := ⟨by decide, m_187⟩
theorem lk_RX1_33 : xLk RX1 33 1 3 := ⟨by decide, m_188⟩
theorem lk_RX1_42 : xLk RX1 42 1 4 := ⟨by decide, m_189⟩
theorem lk_RX1_45 : xLk RX1 45 1 5 := ⟨by decide, m_190⟩
theorem lk_RX1_9 : xLk RX1 9 1 0 := ⟨by decide, m_185⟩
theorem lk_RX2_19 : xLk RX2 19 2 1 := ⟨by decide, m_467⟩
theorem lk_RX2_22 : xLk RX2 22 2 2 := ⟨by decide, m_472⟩
theorem lk_RX2_37 : xLk RX2 37 2 4 := ⟨by decide, m_474⟩
theorem lk_RX2_9 : xLk RX2 9 2 3 := ⟨by decide, m_473⟩
theorem lk_RX3_102 : xLk RX3 102 3 6 := ⟨by decide, m_237⟩
theorem lk_RX3_11 : xLk RX3 11 3 1 := ⟨by decide, m_232⟩
theorem lk_RX3_17 : xLk RX3 17 3 2 := ⟨by decide, m_233⟩
theorem lk_RX3_21 : xLk RX3 21 3 3 := ⟨by decide, m_234⟩
theorem lk_RX3_24 : xLk RX3 24 3 4 := ⟨by decide, m_235⟩
theorem lk_RX3_27 : xLk RX3 27 3 0 := ⟨by decide, m_231⟩
theorem lk_RX3_31 : xLk RX3 31 3 5 := ⟨by decide, m_236⟩
theorem lk_RX4_15 : xLk RX4 15 4 1 := ⟨by decide, m_260⟩
theorem lk_RX4_18 : xLk RX4 18 4 2 := ⟨by decide, m_261⟩
theorem lk_RX4_21 : xLk RX4 21 4 3 := ⟨by decide, m_262⟩
theorem lk_RX4_24 : xLk RX4 24 4 4 := ⟨by decide, m_263⟩
theorem lk_RX4_27 : xLk RX4 27 4 5 := ⟨by decide, m_264⟩
theorem lk_RX4_30 : xLk RX4 30 4 6 := ⟨by decide, m_265⟩
theorem lk_RX4_9 : xLk RX4 9 4 0 := ⟨by decide, m_259⟩
theorem lk_RX5_15 : xLk RX5 15 5 1 := ⟨by decide, m_214⟩
theorem lk_RX5_18 : xLk RX5 18 5 2 := ⟨by decide, m_215⟩
theorem lk_RX5_9 : xLk RX5 9 5 0 := ⟨by decide, m_213⟩
theorem lk_RX6_15 : xLk RX6 15 6 3 := ⟨by decide, m_372⟩
theorem lk_RX6_22 : xLk RX6 22 6 4 := ⟨by decide, m_373⟩
theorem lk_RX6_26 : xLk RX6 26 6 5 := ⟨by decide, m_374⟩
theorem lk_RX6_29 : xLk RX6 29 6 6 := ⟨by decide, m_375⟩
theorem lk_RX6_32 : xLk RX6 32 6 0 := ⟨by decide, m_369⟩
theorem lk_RX6_36 : xLk RX6 36 6 1 := ⟨by decide, m_370⟩
theorem lk_RX6_9 : xLk RX6 9 6 2 := ⟨by decide, m_371⟩
theorem lk_RX7_11 : xLk RX7 11 7 0 := ⟨by decide, m_287⟩
theorem lk_RX7_15 : xLk RX7 15 7 1 := ⟨by decide, m_288⟩
theorem lk_RX7_18 : xLk RX7 18 7 2 := ⟨by decide, m_289⟩
theorem lk_RX7_21 : xLk RX7 21 7 3 := ⟨by decide, m_290⟩
theorem lk_RX7_24 : xLk RX7 24 7 4 := ⟨by decide, m_291⟩
theorem lk_RX7_27 : xLk RX7 27 7 5 := ⟨by decide, m_292⟩
theorem lk_RX8_11 : xLk RX8 11 8 0 := ⟨by decide, m_359⟩
theorem lk_RX8_15 : xLk RX8 15 8 1 := ⟨by decide, m_360⟩
theorem lk_RX8_19 : xLk RX8 19 8 2 := ⟨by decide, m_361⟩
theorem lk_RX9_15 : xLk RX9 15 9 1 := ⟨by decide, m_139⟩
theorem lk_RX9_9 : xLk RX9 9 9 0 := ⟨by decide, m_138⟩
theorem ln_RX10_93 : xLn RX10 93 2 1 := ⟨by decide, _, List.mem_of_getElem? (i := 4) rfl⟩
theorem ln_RX11_175 : xLn RX11 175 2 0 := ⟨by decide, _, List.mem_of_getElem? (i := 1) rfl⟩
theorem ln_RX11_329 : xLn RX11 329 2 1 := ⟨by decide, _, List.mem_of_getElem? (i := 5) rfl⟩
theorem ln_RX3_57 : xLn RX3 57 2 1 := ⟨by decide, _, List.mem_of_getElem? (i := 3) rfl⟩
theorem ln_RX3_64 : xLn RX3 64 2 0 := ⟨by decide, _, List.mem_of_getElem? (i := 0) rfl⟩
theorem ln_RX6_69 : xLn RX6 69 2 1 := ⟨by decide, _, List.mem_of_getElem? (i := 2) rfl⟩
theorem xnm_0 : (RX11, 9, yX9_init, RX11) ∈ xnm := List.mem_of_getElem? (i := 0) rfl
theorem xnm_1 : (RX11, 18, yX1_init, RX11) ∈ xnm := List.mem_of_getElem? (i := 1) rfl
theorem xnm_2 : (RX1, 17, yX0_init, RX11) ∈ xnm := List.mem_of_getElem? (i := 2) rfl
theorem xnm_3 : (RX11, 41, yX4_init, RX11) ∈ xnm := List.mem_of_getElem? (i := 3) rfl
theorem xnm_4 : (RX11, 48, yX7_init, RX11) ∈ xnm := List.mem_of_getElem? (i := 4) rfl
theorem xnm_5 : (RX6, 21, yX8_init, RX11) ∈ xnm := List.mem_of_getElem? (i := 5) rfl
theorem xnm_6 : (RX1, 29, yX11_held, RX11) ∈ xnm := List.mem_of_getElem? (i := 6) rfl
theorem xnm_7 : (RX0, 44, yX11_held, RX11) ∈ xnm := List.mem_of_getElem? (i := 7) rfl
theorem xnm_8 : (RX4, 34, yX11_held, RX11) ∈ xnm := List.mem_of_getElem? (i := 8) rfl
theorem xnm_9 : (RX7, 53, yX11_isPerson, RX11) ∈ xnm := List.mem_of_getElem? (i := 9) rfl
theorem xnm_10 : (RX10, 43, yX11_isPerson, RX11) ∈ xnm := List.mem_of_getElem? (i := 10) rfl
theorem xnm_11 : (RX10, 53, yX11_within, RX11) ∈ xnm := List.mem_of_getElem? (i := 11) rfl
theorem xnm_12 : (RX10, 102, yX11_held, RX11) ∈ xnm := List.mem_of_getElem? (i := 12) rfl
theorem xnm_13 : (RX10, 129, yX11_leftOver, RX11) ∈ xnm := List.mem_of_getElem? (i := 13) rfl
abbrev Y_X0_init : xY := (yX0_init, cX0_init, 1, none)
abbrev Y_X0_empty : xY := (yX0_empty, cX0_empty, 1, none)
abbrev Y_X0_length : xY := (yX0_length, cX0_length, 1, (some .int))
abbrev Y_X0_emit : xY := (yX0_emit, cX0_emit, 2, none)
abbrev Y_X0_openClause : xY := (yX0_openClause, cX0_openClause, 2, none)
abbrev Y_X0_openCondition : xY := (yX0_openCondition, cX0_openCondition, 1, none)
abbrev Y_X0_closeClause : xY := (yX0_closeClause, cX0_closeClause, 1, none)
abbrev Y_X0_amount : xY := (yX0_amount, cX0_amount, 7, (some .int))
abbrev Y_X0_reckon : xY := (yX0_reckon, cX0_reckon, 8, (some .long))
abbrev Y_X0_valueOf : xY := (yX0_valueOf, cX0_valueOf, 3, (some .int))
abbrev Y_X0_not : xY := (yX0_not, cX0_not, 2, (some .long))
abbrev Y_X0_join : xY := (yX0_join, cX0_join, 7, (some .long))
abbrev Y_X0_isFact : xY := (yX0_isFact, cX0_isFact, 1, (some .boolean))
abbrev Y_X1_init : xY := (yX1_init, cX1_init, 1, none)
abbrev Y_X1_current : xY := (yX1_current, cX1_current, 1, (some (.object "LateMinutes$Law")))
abbrev Y_X1_clauses : xY := (yX1_clauses, cX1_clauses, 1, (some .int))
abbrev Y_X1_read : xY := (yX1_read, cX1_read, 4, (some .int))
abbrev Y_X1_readClause : xY := (yX1_readClause, cX1_readClause, 2, none)
abbrev Y_X1_readChoice : xY := (yX1_readChoice, cX1_readChoice, 5, none)
abbrev Y_X1_readPiece : xY := (yX1_readPiece, cX1_readPiece, 4, none)
abbrev Y_X1_readSum : xY := (yX1_readSum, cX1_readSum, 6, none)
abbrev Y_X1_readFactor : xY := (yX1_readFactor, cX1_readFactor, 5, none)
abbrev Y_X1_opens : xY := (yX1_opens, cX1_opens, 2, (some .boolean))
abbrev Y_X1_pass : xY := (yX1_pass, cX1_pass, 2, none)
abbrev Y_X1_sign : xY := (yX1_sign, cX1_sign, 1, (some .int))
abbrev Y_X1_stop : xY := (yX1_stop, cX1_stop, 2, none)
abbrev Y_X1_isOperator : xY := (yX1_isOperator, cX1_isOperator, 1, (some .boolean))
abbrev Y_X1_isDigit : xY := (yX1_isDigit, cX1_isDigit, 1, (some .boolean))
abbrev Y_X2_init : xY := (yX2_init, cX2_init, 4, none)
abbrev Y_X2_includes : xY := (yX2_includes, cX2_includes, 2, (some .boolean))
abbrev Y_X2_many : xY := (yX2_many, cX2_many, 1, (some .int))
abbrev Y_X2_hour : xY := (yX2_hour, cX2_hour, 1, (some .int))
abbrev Y_X2_isSettled : xY := (yX2_isSettled, cX2_isSettled, 1, (some .boolean))
abbrev Y_X2_close : xY := (yX2_close, cX2_close, 1, none)
abbrev Y_X2_tell : xY := (yX2_tell, cX2_tell, 3, none)
abbrev Y_X2_comingOf : xY := (yX2_comingOf, cX2_comingOf, 2, (some .int))
abbrev Y_X2_start : xY := (yX2_start, cX2_start, 3, (some .int))
abbrev Y_X2_keeper : xY := (yX2_keeper, cX2_keeper, 4, (some .int))
abbrev Y_X2_lateness : xY := (yX2_lateness, cX2_lateness, 2, (some .int))
abbrev Y_X2_waitFor : xY := (yX2_waitFor, cX2_waitFor, 3, (some .int))
abbrev Y_X2_laterThan : xY := (yX2_laterThan, cX2_laterThan, 5, (some .int))
abbrev Y_X2_waitedByAll : xY := (yX2_waitedByAll, cX2_waitedByAll, 4, (some .int))
abbrev Y_X3_init : xY := (yX3_init, cX3_init, 2, none)
abbrev Y_X3_length : xY := (yX3_length, cX3_length, 1, (some .int))
abbrev Y_X3_find : xY := (yX3_find, cX3_find, 2, (some (.object "LateMinutes$Meeting")))
abbrev Y_X3_add : xY := (yX3_add, cX3_add, 4, (some .int))
abbrev Y_X3_settledOnes : xY := (yX3_settledOnes, cX3_settledOnes, 4, (some .int))
abbrev Y_X3_waitedAtSettled : xY := (yX3_waitedAtSettled, cX3_waitedAtSettled, 4, (some .int))
abbrev Y_X3_keeperAt : xY := (yX3_keeperAt, cX3_keeperAt, 3, (some .int))
abbrev Y_X3_keptBy : xY := (yX3_keptBy, cX3_keptBy, 8, (some .int))
abbrev Y_X3_didKeep : xY := (yX3_didKeep, cX3_didKeep, 5, (some .boolean))
abbrev Y_X3_gather : xY := (yX3_gather, cX3_gather, 5, (some (.array .int)))
abbrev Y_X3_putFact : xY := (yX3_putFact, cX3_putFact, 4, none)
abbrev Y_X3_follow : xY := (yX3_follow, cX3_follow, 11, none)
abbrev Y_X3_payers : xY := (yX3_payers, cX3_payers, 1, (some .int))
abbrev Y_X3_payerAt : xY := (yX3_payerAt, cX3_payerAt, 2, (some .int))
abbrev Y_X3_paidAt : xY := (yX3_paidAt, cX3_paidAt, 2, (some .int))
abbrev Y_X4_init : xY := (yX4_init, cX4_init, 1, none)
abbrev Y_X4_length : xY := (yX4_length, cX4_length, 1, (some .int))
abbrev Y_X4_holds : xY := (yX4_holds, cX4_holds, 2, (some .boolean))
abbrev Y_X4_add : xY := (yX4_add, cX4_add, 6, (some .int))
abbrev Y_X4_dropFrom : xY := (yX4_dropFrom, cX4_dropFrom, 2, none)
abbrev Y_X4_owerOf : xY := (yX4_owerOf, cX4_owerOf, 2, (some .int))
abbrev Y_X4_holderOf : xY := (yX4_holderOf, cX4_holderOf, 2, (some .int))
abbrev Y_X4_minutesOf : xY := (yX4_minutesOf, cX4_minutesOf, 2, (some .int))
abbrev Y_X4_madeOn : xY := (yX4_madeOn, cX4_madeOn, 2, (some .int))
abbrev Y_X4_lapsesOn : xY := (yX4_lapsesOn, cX4_lapsesOn, 2, (some .int))
abbrev Y_X4_isLive : xY := (yX4_isLive, cX4_isLive, 3, (some .boolean))
abbrev Y_X4_handTo : xY := (yX4_handTo, cX4_handTo, 3, none)
abbrev Y_X4_split : xY := (yX4_split, cX4_split, 4, (some .int))
abbrev Y_X4_lessen : xY := (yX4_lessen, cX4_lessen, 3, none)
abbrev Y_X4_sumOf : xY := (yX4_sumOf, cX4_sumOf, 6, (some .int))
abbrev Y_X4_callIn : xY := (yX4_callIn, cX4_callIn, 11, (some .long))
abbrev Y_X4_useOn : xY := (yX4_useOn, cX4_useOn, 5, (some .int))
abbrev Y_X4_firstWrong : xY := (yX4_firstWrong, cX4_firstWrong, 6, (some .int))
abbrev Y_X5_init : xY := (yX5_init, cX5_init, 1, none)
abbrev Y_X5_slot : xY := (yX5_slot, cX5_slot, 2, (some .int))
abbrev Y_X5_add : xY := (yX5_add, cX5_add, 3, none)
abbrev Y_X5_setWorth : xY := (yX5_setWorth, cX5_setWorth, 5, none)
abbrev Y_X5_worthAt : xY := (yX5_worthAt, cX5_worthAt, 4, (some .int))
abbrev Y_X5_givenIn : xY := (yX5_givenIn, cX5_givenIn, 4, (some .int))
abbrev Y_X5_takenIn : xY := (yX5_takenIn, cX5_takenIn, 4, (some .int))
abbrev Y_X5_countTaking : xY := (yX5_countTaking, cX5_countTaking, 5, none)
abbrev Y_X5_emptyHours : xY := (yX5_emptyHours, cX5_emptyHours, 1, none)
abbrev Y_X6_init : xY := (yX6_init, cX6_init, 3, none)
abbrev Y_X6_aheadOf : xY := (yX6_aheadOf, cX6_aheadOf, 2, (some .int))
abbrev Y_X6_comeToRest : xY := (yX6_comeToRest, cX6_comeToRest, 7, (some .int))
abbrev Y_X6_cheapest : xY := (yX6_cheapest, cX6_cheapest, 7, (some .int))
abbrev Y_X6_gatherOthers : xY := (yX6_gatherOthers, cX6_gatherOthers, 9, none)
abbrev Y_X6_spreadLasts : xY := (yX6_spreadLasts, cX6_spreadLasts, 4, none)
abbrev Y_X6_weightsWithout : xY := (yX6_weightsWithout, cX6_weightsWithout, 7, (some .long))
abbrev Y_X6_costOf : xY := (yX6_costOf, cX6_costOf, 11, (some .long))
abbrev Y_X7_init : xY := (yX7_init, cX7_init, 1, none)
abbrev Y_X7_load : xY := (yX7_load, cX7_load, 6, none)
abbrev Y_X7_leastLeft : xY := (yX7_leastLeft, cX7_leastLeft, 4, (some .int))
abbrev Y_X7_measure : xY := (yX7_measure, cX7_measure, 4, none)
abbrev Y_X7_widen : xY := (yX7_widen, cX7_widen, 4, (some .boolean))
abbrev Y_X7_length : xY := (yX7_length, cX7_length, 3, (some .int))
abbrev Y_X7_room : xY := (yX7_room, cX7_room, 4, (some .int))
abbrev Y_X7_leftFrom : xY := (yX7_leftFrom, cX7_leftFrom, 3, (some .int))
abbrev Y_X7_dueFrom : xY := (yX7_dueFrom, cX7_dueFrom, 3, (some .int))
abbrev Y_X7_nearestTaker : xY := (yX7_nearestTaker, cX7_nearestTaker, 4, (some .int))
abbrev Y_X7_send : xY := (yX7_send, cX7_send, 6, (some .int))
abbrev Y_X7_moveAlong : xY := (yX7_moveAlong, cX7_moveAlong, 6, none)
abbrev Y_X7_fewestPayments : xY := (yX7_fewestPayments, cX7_fewestPayments, 6, (some .int))
abbrev Y_X8_init : xY := (yX8_init, cX8_init, 1, none)
abbrev Y_X8_empty : xY := (yX8_empty, cX8_empty, 1, none)
abbrev Y_X8_length : xY := (yX8_length, cX8_length, 1, (some .int))
abbrev Y_X8_minuteAt : xY := (yX8_minuteAt, cX8_minuteAt, 2, (some .int))
abbrev Y_X8_weightAt : xY := (yX8_weightAt, cX8_weightAt, 2, (some .long))
abbrev Y_X8_add : xY := (yX8_add, cX8_add, 5, none)
abbrev Y_X8_above : xY := (yX8_above, cX8_above, 5, (some .long))
abbrev Y_X8_below : xY := (yX8_below, cX8_below, 5, (some .long))
abbrev Y_X9_init : xY := (yX9_init, cX9_init, 1, none)
abbrev Y_X9_length : xY := (yX9_length, cX9_length, 1, (some .int))
abbrev Y_X9_put : xY := (yX9_put, cX9_put, 3, none)
abbrev Y_X9_empty : xY := (yX9_empty, cX9_empty, 1, none)
abbrev Y_X9_byteAt : xY := (yX9_byteAt, cX9_byteAt, 2, (some .int))
abbrev Y_X9_wordAt : xY := (yX9_wordAt, cX9_wordAt, 4, (some .int))
abbrev Y_X10_init : xY := (yX10_init, cX10_init, 3, none)
abbrev Y_X10_tell : xY := (yX10_tell, cX10_tell, 4, (some .int))
abbrev Y_X10_toldBy : xY := (yX10_toldBy, cX10_toldBy, 2, (some .int))
abbrev Y_X10_endsOf : xY := (yX10_endsOf, cX10_endsOf, 2, (some .int))
abbrev Y_X10_weightOf : xY := (yX10_weightOf, cX10_weightOf, 3, (some .int))
abbrev Y_X10_weightsOf : xY := (yX10_weightsOf, cX10_weightsOf, 2, (some .int))
abbrev Y_X10_takes : xY := (yX10_takes, cX10_takes, 4, (some .int))
abbrev Y_X10_setBridge : xY := (yX10_setBridge, cX10_setBridge, 4, none)
abbrev Y_X10_allOfBridge : xY := (yX10_allOfBridge, cX10_allOfBridge, 1, (some .int))
abbrev Y_X10_bridgeWeight : xY := (yX10_bridgeWeight, cX10_bridgeWeight, 2, (some .int))
abbrev Y_X10_isCrossing : xY := (yX10_isCrossing, cX10_isCrossing, 2, (some .boolean))
abbrev Y_X10_setCrossing : xY := (yX10_setCrossing, cX10_setCrossing, 3, none)
abbrev Y_X10_lateWeights : xY := (yX10_lateWeights, cX10_lateWeights, 5, (some .int))
abbrev Y_X10_lateEnds : xY := (yX10_lateEnds, cX10_lateEnds, 6, (some .int))
abbrev Y_X10_lateTogether : xY := (yX10_lateTogether, cX10_lateTogether, 7, (some .long))
abbrev Y_X10_countLate : xY := (yX10_countLate, cX10_countLate, 10, none)
abbrev Y_X10_costOfComing : xY := (yX10_costOfComing, cX10_costOfComing, 6, (some .long))
abbrev Y_X10_costOfWay : xY := (yX10_costOfWay, cX10_costOfWay, 9, (some .long))
abbrev Y_X10_costOfOne : xY := (yX10_costOfOne, cX10_costOfOne, 9, (some .long))
abbrev Y_X10_costOfRow : xY := (yX10_costOfRow, cX10_costOfRow, 11, (some .long))
abbrev Y_X10_costOfBoth : xY := (yX10_costOfBoth, cX10_costOfBoth, 16, (some .long))
abbrev Y_X10_drawn : xY := (yX10_drawn, cX10_drawn, 1, (some .int))
abbrev Y_X10_setDrawn : xY := (yX10_setDrawn, cX10_setDrawn, 2, none)
abbrev Y_X10_drawNext : xY := (yX10_drawNext, cX10_drawNext, 1, (some .int))
abbrev Y_X10_drawComings : xY := (yX10_drawComings, cX10_drawComings, 6, (some .int))
abbrev Y_X10_drawEnd : xY := (yX10_drawEnd, cX10_drawEnd, 5, (some .int))
abbrev Y_X11_init : xY := (yX11_init, cX11_init, 1, none)
abbrev Y_X11_now : xY := (yX11_now, cX11_now, 2, (some .boolean))
abbrev Y_X11_worth : xY := (yX11_worth, cX11_worth, 4, (some .boolean))
abbrev Y_X11_meeting : xY := (yX11_meeting, cX11_meeting, 4, (some .int))
abbrev Y_X11_came : xY := (yX11_came, cX11_came, 5, (some .boolean))
abbrev Y_X11_feed : xY := (yX11_feed, cX11_feed, 6, (some .int))
abbrev Y_X11_law : xY := (yX11_law, cX11_law, 3, (some .int))
abbrev Y_X11_begins : xY := (yX11_begins, cX11_begins, 3, (some .int))
abbrev Y_X11_keeps : xY := (yX11_keeps, cX11_keeps, 5, (some .int))
abbrev Y_X11_kept : xY := (yX11_kept, cX11_kept, 6, (some .int))
abbrev Y_X11_owes : xY := (yX11_owes, cX11_owes, 6, (some .int))
abbrev Y_X11_chain : xY := (yX11_chain, cX11_chain, 5, (some .int))
abbrev Y_X11_settle : xY := (yX11_settle, cX11_settle, 6, (some .int))
abbrev Y_X11_noteIs : xY := (yX11_noteIs, cX11_noteIs, 3, (some .int))
abbrev Y_X11_hand : xY := (yX11_hand, cX11_hand, 3, (some .boolean))
abbrev Y_X11_cut : xY := (yX11_cut, cX11_cut, 3, (some .int))
abbrev Y_X11_take : xY := (yX11_take, cX11_take, 6, (some .int))
abbrev Y_X11_owed : xY := (yX11_owed, cX11_owed, 3, (some .int))
abbrev Y_X11_called : xY := (yX11_called, cX11_called, 3, (some .long))
abbrev Y_X11_round : xY := (yX11_round, cX11_round, 1, (some .int))
abbrev Y_X11_takings : xY := (yX11_takings, cX11_takings, 1, (some .int))
abbrev Y_X11_end : xY := (yX11_end, cX11_end, 4, (some .int))
abbrev Y_X11_bridge : xY := (yX11_bridge, cX11_bridge, 4, (some .boolean))
abbrev Y_X11_crosses : xY := (yX11_crosses, cX11_crosses, 3, (some .boolean))
abbrev Y_X11_lateIf : xY := (yX11_lateIf, cX11_lateIf, 6, (some .int))
abbrev Y_X11_hang : xY := (yX11_hang, cX11_hang, 4, (some .long))
abbrev Y_X11_cost : xY := (yX11_cost, cX11_cost, 6, (some .long))
abbrev Y_X11_out : xY := (yX11_out, cX11_out, 11, (some .int))
abbrev Y_X11_two : xY := (yX11_two, cX11_two, 9, (some .long))
abbrev Y_X11_outTwo : xY := (yX11_outTwo, cX11_outTwo, 14, (some .int))
abbrev Y_X11_rest : xY := (yX11_rest, cX11_rest, 6, (some .int))
abbrev Y_X11_lost : xY := (yX11_lost, cX11_lost, 1, (some .int))
abbrev Y_X11_seed : xY := (yX11_seed, cX11_seed, 2, (some .boolean))
abbrev Y_X11_draw : xY := (yX11_draw, cX11_draw, 4, (some .int))
abbrev Y_X11_check : xY := (yX11_check, cX11_check, 3, (some .int))
abbrev Y_X11_count : xY := (yX11_count, cX11_count, 3, (some .int))
abbrev Y_X11_isCase : xY := (yX11_isCase, cX11_isCase, 5, (some .boolean))
abbrev Y_X11_inRow : xY := (yX11_inRow, cX11_inRow, 3, (some .boolean))
abbrev Y_X11_minutesOwed : xY := (yX11_minutesOwed, cX11_minutesOwed, 2, (some .int))
abbrev Y_X11_hundredths : xY := (yX11_hundredths, cX11_hundredths, 2, (some .int))
abbrev Y_X11_daysToLapse : xY := (yX11_daysToLapse, cX11_daysToLapse, 2, (some .int))
abbrev Y_X11_followChain : xY := (yX11_followChain, cX11_followChain, 5, (some (.array .int)))
abbrev Y_X11_noteChain : xY := (yX11_noteChain, cX11_noteChain, 8, (some .boolean))
abbrev Y_X11_within : xY := (yX11_within, cX11_within, 3, (some .boolean))
abbrev Y_X11_isPerson : xY := (yX11_isPerson, cX11_isPerson, 1, (some .boolean))
abbrev Y_X11_held : xY := (yX11_held, cX11_held, 3, (some .int))
abbrev Y_X11_whole : xY := (yX11_whole, cX11_whole, 2, (some .int))
abbrev Y_X11_leftOver : xY := (yX11_leftOver, cX11_leftOver, 2, (some .int))
abbrev Y_X11_commonDivisor : xY := (yX11_commonDivisor, cX11_commonDivisor, 6, (some .int))
abbrev Y_X12_init : xY := (yX12_init, cX12_init, 2, none)
abbrev Y_X12_in : xY := (yX12_in, cX12_in, 3, (some .boolean))
abbrev Y_X12_isPerson : xY := (yX12_isPerson, cX12_isPerson, 1, (some .boolean))
abbrev Y_X12_isMeeting : xY := (yX12_isMeeting, cX12_isMeeting, 2, (some .boolean))
abbrev Y_X12_isOf : xY := (yX12_isOf, cX12_isOf, 3, (some .boolean))
abbrev Y_X12_now : xY := (yX12_now, cX12_now, 3, (some .boolean))
abbrev Y_X12_worth : xY := (yX12_worth, cX12_worth, 4, (some .boolean))
abbrev Y_X12_bits : xY := (yX12_bits, cX12_bits, 3, (some .int))
abbrev Y_X12_meeting : xY := (yX12_meeting, cX12_meeting, 5, (some .int))
abbrev Y_X12_came : xY := (yX12_came, cX12_came, 4, (some .boolean))
abbrev Y_X12_allCame : xY := (yX12_allCame, cX12_allCame, 3, (some .boolean))
abbrev Y_X12_beginsAt : xY := (yX12_beginsAt, cX12_beginsAt, 4, (some .int))
abbrev Y_X12_begins : xY := (yX12_begins, cX12_begins, 2, (some .int))
abbrev Y_X12_lateAt : xY := (yX12_lateAt, cX12_lateAt, 3, (some .int))
abbrev Y_X12_keepsAt : xY := (yX12_keepsAt, cX12_keepsAt, 5, (some .int))
abbrev Y_X12_keeps : xY := (yX12_keeps, cX12_keeps, 4, (some .int))
abbrev Y_X12_keeperOf : xY := (yX12_keeperOf, cX12_keeperOf, 4, (some .int))
abbrev Y_X12_isKeeping : xY := (yX12_isKeeping, cX12_isKeeping, 5, (some .boolean))
abbrev Y_X12_keptBy : xY := (yX12_keptBy, cX12_keptBy, 5, (some .int))
abbrev Y_X12_kept : xY := (yX12_kept, cX12_kept, 5, (some .int))
abbrev Y_X12_types : xY := (yX12_types, cX12_types, 3, none)
abbrev Y_X12_feed : xY := (yX12_feed, cX12_feed, 6, (some .int))
abbrev Y_X12_here : xY := (yX12_here, cX12_here, 1, (some .int))
abbrev Y_X12_isDigit : xY := (yX12_isDigit, cX12_isDigit, 1, (some .boolean))
abbrev Y_X12_wrongAt : xY := (yX12_wrongAt, cX12_wrongAt, 3, (some .boolean))
abbrev Y_X12_takes : xY := (yX12_takes, cX12_takes, 2, (some .boolean))
abbrev Y_X12_readsNumber : xY := (yX12_readsNumber, cX12_readsNumber, 2, (some .boolean))
abbrev Y_X12_notes : xY := (yX12_notes, cX12_notes, 3, none)
abbrev Y_X12_opens : xY := (yX12_opens, cX12_opens, 2, (some .boolean))
abbrev Y_X12_top : xY := (yX12_top, cX12_top, 1, (some .int))
abbrev Y_X12_factOf : xY := (yX12_factOf, cX12_factOf, 1, (some .int))
abbrev Y_X12_sumSign : xY := (yX12_sumSign, cX12_sumSign, 1, (some .int))
abbrev Y_X12_closesSums : xY := (yX12_closesSums, cX12_closesSums, 2, none)
abbrev Y_X12_readsFactor : xY := (yX12_readsFactor, cX12_readsFactor, 2, (some .boolean))
abbrev Y_X12_hasOpenSum : xY := (yX12_hasOpenSum, cX12_hasOpenSum, 3, (some .boolean))
abbrev Y_X12_readsSum : xY := (yX12_readsSum, cX12_readsSum, 3, (some .boolean))
abbrev Y_X12_endsPiece : xY := (yX12_endsPiece, cX12_endsPiece, 1, none)
abbrev Y_X12_lands : xY := (yX12_lands, cX12_lands, 3, none)
abbrev Y_X12_jumps : xY := (yX12_jumps, cX12_jumps, 2, none)
abbrev Y_X12_readsCompared : xY := (yX12_readsCompared, cX12_readsCompared, 2, (some .boolean))
abbrev Y_X12_readsCondition : xY := (yX12_readsCondition, cX12_readsCondition, 1, (some .boolean))
abbrev Y_X12_readsClause : xY := (yX12_readsClause, cX12_readsClause, 2, (some .boolean))
abbrev Y_X12_law : xY := (yX12_law, cX12_law, 4, (some .int))
abbrev Y_X12_reckon : xY := (yX12_reckon, cX12_reckon, 3, (some .int))
abbrev Y_X12_comesTo : xY := (yX12_comesTo, cX12_comesTo, 8, (some .int))
abbrev Y_X12_byLaw : xY := (yX12_byLaw, cX12_byLaw, 5, (some .int))
abbrev Y_X12_feels : xY := (yX12_feels, cX12_feels, 6, none)
abbrev Y_X12_owesBy : xY := (yX12_owesBy, cX12_owesBy, 5, (some .int))
abbrev Y_X12_areTwo : xY := (yX12_areTwo, cX12_areTwo, 4, (some .boolean))
abbrev Y_X12_owes : xY := (yX12_owes, cX12_owes, 5, (some .int))
abbrev Y_X12_chains : xY := (yX12_chains, cX12_chains, 10, none)
abbrev Y_X12_chain : xY := (yX12_chain, cX12_chain, 5, (some .int))
abbrev Y_X12_makes : xY := (yX12_makes, cX12_makes, 6, none)
abbrev Y_X12_goesOver : xY := (yX12_goesOver, cX12_goesOver, 8, (some .int))
abbrev Y_X12_settle : xY := (yX12_settle, cX12_settle, 3, (some .int))
abbrev Y_X12_isNote : xY := (yX12_isNote, cX12_isNote, 2, (some .boolean))
abbrev Y_X12_isLiveOn : xY := (yX12_isLiveOn, cX12_isLiveOn, 3, (some .boolean))
abbrev Y_X12_isLive : xY := (yX12_isLive, cX12_isLive, 2, (some .boolean))
abbrev Y_X12_noteIs : xY := (yX12_noteIs, cX12_noteIs, 3, (some .int))
abbrev Y_X12_hand : xY := (yX12_hand, cX12_hand, 3, (some .boolean))
abbrev Y_X12_cut : xY := (yX12_cut, cX12_cut, 3, (some .int))
abbrev Y_X12_take : xY := (yX12_take, cX12_take, 6, (some .int))
abbrev Y_X12_owed : xY := (yX12_owed, cX12_owed, 5, (some .int))
abbrev Y_X12_dearest : xY := (yX12_dearest, cX12_dearest, 5, (some .int))
abbrev Y_X12_called : xY := (yX12_called, cX12_called, 9, (some .long))
abbrev Y_X12_balances : xY := (yX12_balances, cX12_balances, 3, none)
abbrev Y_X12_measures : xY := (yX12_measures, cX12_measures, 5, none)
abbrev Y_X12_stepOn : xY := (yX12_stepOn, cX12_stepOn, 3, (some .int))
abbrev Y_X12_goesTo : xY := (yX12_goesTo, cX12_goesTo, 6, none)
abbrev Y_X12_nearestGetter : xY := (yX12_nearestGetter, cX12_nearestGetter, 3, (some .int))
abbrev Y_X12_round : xY := (yX12_round, cX12_round, 3, (some .int))
abbrev Y_X12_takings : xY := (yX12_takings, cX12_takings, 7, (some .int))
abbrev Y_X12_end : xY := (yX12_end, cX12_end, 4, (some .int))
abbrev Y_X12_bridge : xY := (yX12_bridge, cX12_bridge, 4, (some .boolean))
abbrev Y_X12_isCrossing : xY := (yX12_isCrossing, cX12_isCrossing, 2, (some .boolean))
abbrev Y_X12_crosses : xY := (yX12_crosses, cX12_crosses, 3, (some .boolean))
abbrev Y_X12_endsOf : xY := (yX12_endsOf, cX12_endsOf, 2, (some .int))
abbrev Y_X12_weightAt : xY := (yX12_weightAt, cX12_weightAt, 3, (some .int))
abbrev Y_X12_wayAt : xY := (yX12_wayAt, cX12_wayAt, 4, (some .int))
abbrev Y_X12_weightsOf : xY := (yX12_weightsOf, cX12_weightsOf, 4, (some .int))
abbrev Y_X12_bridgeWeight : xY := (yX12_bridgeWeight, cX12_bridgeWeight, 2, (some .int))
abbrev Y_X12_lateWeight : xY := (yX12_lateWeight, cX12_lateWeight, 6, (some .int))
abbrev Y_X12_gcd : xY := (yX12_gcd, cX12_gcd, 5, (some .int))
abbrev Y_X12_lateIf : xY := (yX12_lateIf, cX12_lateIf, 7, (some .int))
abbrev Y_X12_hangs : xY := (yX12_hangs, cX12_hangs, 9, (some .long))
abbrev Y_X12_hang : xY := (yX12_hang, cX12_hang, 4, (some .long))
abbrev Y_X12_worthAt : xY := (yX12_worthAt, cX12_worthAt, 4, (some .int))
abbrev Y_X12_comingCost : xY := (yX12_comingCost, cX12_comingCost, 6, (some .long))
abbrev Y_X12_costWith : xY := (yX12_costWith, cX12_costWith, 9, (some .long))
abbrev Y_X12_costOf : xY := (yX12_costOf, cX12_costOf, 5, (some .long))
abbrev Y_X12_cost : xY := (yX12_cost, cX12_cost, 5, (some .long))
abbrev Y_X12_out : xY := (yX12_out, cX12_out, 10, (some .int))
abbrev Y_X12_twoWith : xY := (yX12_twoWith, cX12_twoWith, 16, (some .long))
abbrev Y_X12_areInRow : xY := (yX12_areInRow, cX12_areInRow, 6, (some .boolean))
abbrev Y_X12_twoOf : xY := (yX12_twoOf, cX12_twoOf, 7, (some .long))
abbrev Y_X12_two : xY := (yX12_two, cX12_two, 7, (some .long))
abbrev Y_X12_outTwo : xY := (yX12_outTwo, cX12_outTwo, 12, (some .int))
abbrev Y_X12_laysGoers : xY := (yX12_laysGoers, cX12_laysGoers, 3, none)
abbrev Y_X12_dayCost : xY := (yX12_dayCost, cX12_dayCost, 9, (some .long))
abbrev Y_X12_allWith : xY := (yX12_allWith, cX12_allWith, 14, (some .long))
abbrev Y_X12_changes : xY := (yX12_changes, cX12_changes, 11, (some .boolean))
abbrev Y_X12_rest : xY := (yX12_rest, cX12_rest, 7, (some .int))
abbrev Y_X12_lost : xY := (yX12_lost, cX12_lost, 5, (some .int))
abbrev Y_X12_seed : xY := (yX12_seed, cX12_seed, 2, (some .boolean))
abbrev Y_X12_draws : xY := (yX12_draws, cX12_draws, 1, none)
abbrev Y_X12_drawnEnd : xY := (yX12_drawnEnd, cX12_drawnEnd, 4, (some .int))
abbrev Y_X12_draw : xY := (yX12_draw, cX12_draw, 6, (some .int))
abbrev Y_X12_tapeNumber : xY := (yX12_tapeNumber, cX12_tapeNumber, 4, (some .int))
abbrev Y_X12_noteNumber : xY := (yX12_noteNumber, cX12_noteNumber, 3, (some .int))
abbrev Y_X12_check : xY := (yX12_check, cX12_check, 5, (some .int))
abbrev Y_X12_count : xY := (yX12_count, cX12_count, 2, (some .int))
abbrev Y_J6_bitCount_0f7a4 : xY := (yJ6_bitCount_0f7a4, cJ6_bitCount_0f7a4, 1, (some .int))
abbrev Y_J9_max_7cf53 : xY := (yJ9_max_7cf53, cJ9_max_7cf53, 2, (some .int))
abbrev Y_J9_min_7cf53 : xY := (yJ9_min_7cf53, cJ9_min_7cf53, 2, (some .int))
abbrev Y_J7_fill_d0a16 : xY := (yJ7_fill_d0a16, cJ7_fill_d0a16, 5, none)
abbrev Y_J7_fill_53178 : xY := (yJ7_fill_53178, cJ7_fill_53178, 4, none)
def xml : List (MethodName × Nat) := [(yX0_init, 0), (yX0_empty, 0), (yX0_length, 0), (yX0_emit, 1), (yX0_openClause, 1), (yX0_openCondition, 0), (yX0_closeClause, 0), (yX0_amount, 3), (yX0_reckon, 3), (yX0_valueOf, 2), (yX0_not, 1), (yX0_join, 3), (yX0_isFact, 1), (yX1_init, 0), (yX1_current, 0), (yX1_clauses, 0), (yX1_read, 2), (yX1_readClause, 0), (yX1_readChoice, 1), (yX1_readPiece, 1), (yX1_readSum, 1), (yX1_readFactor, 1), (yX1_opens, 1), (yX1_pass, 1), (yX1_sign, 0), (yX1_stop, 1), (yX1_isOperator, 1), (yX1_isDigit, 1), (yX2_init, 3), (yX2_includes, 1), (yX2_many, 0), (yX2_hour, 0), (yX2_isSettled, 0), (yX2_close, 0), (yX2_tell, 2), (yX2_comingOf, 1), (yX2_start, 0), (yX2_keeper, 0), (yX2_lateness, 1), (yX2_waitFor, 2), (yX2_laterThan, 1), (yX2_waitedByAll, 0), (yX3_init, 1), (yX3_length, 0), (yX3_find, 1), (yX3_add, 3), (yX3_settledOnes, 0), (yX3_waitedAtSettled, 0), (yX3_keeperAt, 1), (yX3_keptBy, 2), (yX3_didKeep, 3), (yX3_gather, 3), (yX3_putFact, 2), (yX3_follow, 4), (yX3_payers, 0), (yX3_payerAt, 1), (yX3_paidAt, 1), (yX4_init, 0), (yX4_length, 0), (yX4_holds, 1), (yX4_add, 5), (yX4_dropFrom, 1), (yX4_owerOf, 1), (yX4_holderOf, 1), (yX4_minutesOf, 1), (yX4_madeOn, 1), (yX4_lapsesOn, 1), (yX4_isLive, 2), (yX4_handTo, 2), (yX4_split, 2), (yX4_lessen, 2), (yX4_sumOf, 3), (yX4_callIn, 4), (yX4_useOn, 2), (yX4_firstWrong, 3), (yX5_init, 0), (yX5_slot, 2), (yX5_add, 3), (yX5_setWorth, 3), (yX5_worthAt, 2), (yX5_givenIn, 2), (yX5_takenIn, 2), (yX5_countTaking, 4), (yX5_emptyHours, 0), (yX6_init, 2), (yX6_aheadOf, 1), (yX6_comeToRest, 2), (yX6_cheapest, 3), (yX6_gatherOthers, 3), (yX6_spreadLasts, 2), (yX6_weightsWithout, 3), (yX6_costOf, 5), (yX7_init, 0), (yX7_load, 2), (yX7_leastLeft, 0), (yX7_measure, 0), (yX7_widen, 1), (yX7_length, 2), (yX7_room, 2), (yX7_leftFrom, 2), (yX7_dueFrom, 2), (yX7_nearestTaker, 0), (yX7_send, 1), (yX7_moveAlong, 2), (yX7_fewestPayments, 0), (yX8_init, 0), (yX8_empty, 0), (yX8_length, 0), (yX8_minuteAt, 1), (yX8_weightAt, 1), (yX8_add, 2), (yX8_above, 1), (yX8_below, 1), (yX9_init, 0), (yX9_length, 0), (yX9_put, 1), (yX9_empty, 0), (yX9_byteAt, 1), (yX9_wordAt, 1), (yX10_init, 1), (yX10_tell, 3), (yX10_toldBy, 1), (yX10_endsOf, 1), (yX10_weightOf, 2), (yX10_weightsOf, 1), (yX10_takes, 3), (yX10_setBridge, 3), (yX10_allOfBridge, 0), (yX10_bridgeWeight, 1), (yX10_isCrossing, 1), (yX10_setCrossing, 2), (yX10_lateWeights, 2), (yX10_lateEnds, 3), (yX10_lateTogether, 3), (yX10_countLate, 3), (yX10_costOfComing, 4), (yX10_costOfWay, 5), (yX10_costOfOne, 4), (yX10_costOfRow, 6), (yX10_costOfBoth, 7), (yX10_drawn, 0), (yX10_setDrawn, 1), (yX10_drawNext, 0), (yX10_drawComings, 2), (yX10_drawEnd, 1), (yX11_init, 0), (yX11_now, 1), (yX11_worth, 3), (yX11_meeting, 3), (yX11_came, 3), (yX11_feed, 5), (yX11_law, 1), (yX11_begins, 1), (yX11_keeps, 3), (yX11_kept, 3), (yX11_owes, 4), (yX11_chain, 4), (yX11_settle, 1), (yX11_noteIs, 2), (yX11_hand, 2), (yX11_cut, 2), (yX11_take, 3), (yX11_owed, 2), (yX11_called, 2), (yX11_round, 0), (yX11_takings, 0), (yX11_end, 3), (yX11_bridge, 3), (yX11_crosses, 2), (yX11_lateIf, 3), (yX11_hang, 3), (yX11_cost, 4), (yX11_out, 3), (yX11_two, 6), (yX11_outTwo, 5), (yX11_rest, 3), (yX11_lost, 0), (yX11_seed, 1), (yX11_draw, 2), (yX11_check, 1), (yX11_count, 1), (yX11_isCase, 3), (yX11_inRow, 3), (yX11_minutesOwed, 1), (yX11_hundredths, 1), (yX11_daysToLapse, 1), (yX11_followChain, 3), (yX11_noteChain, 2), (yX11_within, 3), (yX11_isPerson, 1), (yX11_held, 3), (yX11_whole, 2), (yX11_leftOver, 2), (yX11_commonDivisor, 2), (yX12_init, 0), (yX12_in, 3), (yX12_isPerson, 1), (yX12_isMeeting, 1), (yX12_isOf, 2), (yX12_now, 1), (yX12_worth, 3), (yX12_bits, 1), (yX12_meeting, 3), (yX12_came, 3), (yX12_allCame, 1), (yX12_beginsAt, 1), (yX12_begins, 1), (yX12_lateAt, 2), (yX12_keepsAt, 3), (yX12_keeps, 3), (yX12_keeperOf, 1), (yX12_isKeeping, 3), (yX12_keptBy, 2), (yX12_kept, 3), (yX12_types, 1), (yX12_feed, 5), (yX12_here, 0), (yX12_isDigit, 0), (yX12_wrongAt, 2), (yX12_takes, 1), (yX12_readsNumber, 0), (yX12_notes, 2), (yX12_opens, 1), (yX12_top, 0), (yX12_factOf, 1), (yX12_sumSign, 1), (yX12_closesSums, 1), (yX12_readsFactor, 0), (yX12_hasOpenSum, 1), (yX12_readsSum, 0), (yX12_endsPiece, 0), (yX12_lands, 1), (yX12_jumps, 1), (yX12_readsCompared, 0), (yX12_readsCondition, 0), (yX12_readsClause, 0), (yX12_law, 1), (yX12_reckon, 3), (yX12_comesTo, 2), (yX12_byLaw, 2), (yX12_feels, 3), (yX12_owesBy, 4), (yX12_areTwo, 3), (yX12_owes, 4), (yX12_chains, 3), (yX12_chain, 4), (yX12_makes, 5), (yX12_goesOver, 2), (yX12_settle, 1), (yX12_isNote, 1), (yX12_isLiveOn, 2), (yX12_isLive, 1), (yX12_noteIs, 2), (yX12_hand, 2), (yX12_cut, 2), (yX12_take, 3), (yX12_owed, 2), (yX12_dearest, 2), (yX12_called, 2), (yX12_balances, 0), (yX12_measures, 0), (yX12_stepOn, 2), (yX12_goesTo, 1), (yX12_nearestGetter, 0), (yX12_round, 0), (yX12_takings, 0), (yX12_end, 3), (yX12_bridge, 3), (yX12_isCrossing, 1), (yX12_crosses, 2), (yX12_endsOf, 1), (yX12_weightAt, 2), (yX12_wayAt, 3), (yX12_weightsOf, 1), (yX12_bridgeWeight, 1), (yX12_lateWeight, 3), (yX12_gcd, 2), (yX12_lateIf, 3), (yX12_hangs, 4), (yX12_hang, 3), (yX12_worthAt, 2), (yX12_comingCost, 4), (yX12_costWith, 5), (yX12_costOf, 4), (yX12_cost, 4), (yX12_out, 3), (yX12_twoWith, 7), (yX12_areInRow, 5), (yX12_twoOf, 6), (yX12_two, 6), (yX12_outTwo, 5), (yX12_laysGoers, 1), (yX12_dayCost, 3), (yX12_allWith, 4), (yX12_changes, 3), (yX12_rest, 3), (yX12_lost, 0), (yX12_seed, 1), (yX12_draws, 0), (yX12_drawnEnd, 1), (yX12_draw, 2), (yX12_tapeNumber, 1), (yX12_noteNumber, 2), (yX12_check, 1), (yX12_count, 1), (yJ6_bitCount_0f7a4, 1), (yJ9_max_7cf53, 2), (yJ9_min_7cf53, 2), (yJ7_fill_d0a16, 2), (yJ7_fill_53178, 2)]
set_option maxRecDepth 100000 in
theorem xmh : xml.all (fun q => decide (q.1.cls ≠ "java/lang/invoke/MethodHandle" ∧ q.1.cls ≠ "java/lang/invoke/VarHandle") && decide ((parseMethodDescriptor q.1.desc).map (fun d => d.parameters.length) = some q.2)) = true := by decide +kernel
theorem xmi (q : MethodName × Nat) (h : q ∈ xml) : (q.1.cls ≠ "java/lang/invoke/MethodHandle" ∧ q.1.cls ≠ "java/lang/invoke/VarHandle") ∧ (parseMethodDescriptor q.1.desc).map (fun d => d.parameters.length) = some q.2 := by
  have h1 := List.all_eq_true.mp xmh q h
  rw [Bool.and_eq_true] at h1
  exact ⟨of_decide_eq_true h1.1, of_decide_eq_true h1.2⟩
theorem pn_RJ6 : plainName RJ6 = true := by decide +kernel
theorem pn_RJ7 : plainName RJ7 = true := by decide +kernel
theorem pn_RJ9 : plainName RJ9 = true := by decide +kernel
theorem pn_RX0 : plainName RX0 = true := by decide +kernel
theorem pn_RX1 : plainName RX1 = true := by decide +kernel
theorem pn_RX10 : plainName RX10 = true := by decide +kernel
theorem pn_RX11 : plainName RX11 = true := by decide +kernel
theorem pn_RX12 : plainName RX12 = true := by decide +kernel
theorem pn_RX2 : plainName RX2 = true := by decide +kernel
theorem pn_RX3 : plainName RX3 = true := by decide +kernel
theorem pn_RX4 : plainName RX4 = true := by decide +kernel
theorem pn_RX5 : plainName RX5 = true := by decide +kernel
theorem pn_RX6 : plainName RX6 = true := by decide +kernel
theorem pn_RX7 : plainName RX7 = true := by decide +kernel
theorem pn_RX8 : plainName RX8 = true := by decide +kernel
theorem pn_RX9 : plainName RX9 = true := by decide +kernel
theorem my_X0_init : xMy Y_X0_init 0 := ⟨m_156, m_111, (xmi (yX0_init, 0) (List.mem_of_getElem? (i := 0) rfl)).1, (xmi (yX0_init, 0) (List.mem_of_getElem? (i := 0) rfl)).2⟩
theorem my_X0_empty : xMy Y_X0_empty 0 := ⟨m_542, m_111, (xmi (yX0_empty, 0) (List.mem_of_getElem? (i := 1) rfl)).1, (xmi (yX0_empty, 0) (List.mem_of_getElem? (i := 1) rfl)).2⟩
theorem my_X0_length : xMy Y_X0_length 0 := ⟨m_558, m_111, (xmi (yX0_length, 0) (List.mem_of_getElem? (i := 2) rfl)).1, (xmi (yX0_length, 0) (List.mem_of_getElem? (i := 2) rfl)).2⟩
theorem my_X0_emit : xMy Y_X0_emit 1 := ⟨m_585, m_111, (xmi (yX0_emit, 1) (List.mem_of_getElem? (i := 3) rfl)).1, (xmi (yX0_emit, 1) (List.mem_of_getElem? (i := 3) rfl)).2⟩
theorem my_X0_openClause : xMy Y_X0_openClause 1 := ⟨m_562, m_111, (xmi (yX0_openClause, 1) (List.mem_of_getElem? (i := 4) rfl)).1, (xmi (yX0_openClause, 1) (List.mem_of_getElem? (i := 4) rfl)).2⟩
theorem my_X0_openCondition : xMy Y_X0_openCondition 0 := ⟨m_595, m_111, (xmi (yX0_openCondition, 0) (List.mem_of_getElem? (i := 5) rfl)).1, (xmi (yX0_openCondition, 0) (List.mem_of_getElem? (i := 5) rfl)).2⟩
theorem my_X0_closeClause : xMy Y_X0_closeClause 0 := ⟨m_607, m_111, (xmi (yX0_closeClause, 0) (List.mem_of_getElem? (i := 6) rfl)).1, (xmi (yX0_closeClause, 0) (List.mem_of_getElem? (i := 6) rfl)).2⟩
theorem my_X0_amount : xMy Y_X0_amount 3 := ⟨m_708, m_111, (xmi (yX0_amount, 3) (List.mem_of_getElem? (i := 7) rfl)).1, (xmi (yX0_amount, 3) (List.mem_of_getElem? (i := 7) rfl)).2⟩
theorem my_X0_reckon : xMy Y_X0_reckon 3 := ⟨m_712, m_111, (xmi (yX0_reckon, 3) (List.mem_of_getElem? (i := 8) rfl)).1, (xmi (yX0_reckon, 3) (List.mem_of_getElem? (i := 8) rfl)).2⟩
theorem my_X0_valueOf : xMy Y_X0_valueOf 2 := ⟨m_717, m_111, (xmi (yX0_valueOf, 2) (List.mem_of_getElem? (i := 9) rfl)).1, (xmi (yX0_valueOf, 2) (List.mem_of_getElem? (i := 9) rfl)).2⟩
theorem my_X0_not : xMy Y_X0_not 1 := ⟨m_720, m_111, (xmi (yX0_not, 1) (List.mem_of_getElem? (i := 10) rfl)).1, (xmi (yX0_not, 1) (List.mem_of_getElem? (i := 10) rfl)).2⟩
theorem my_X0_join : xMy Y_X0_join 3 := ⟨m_724, m_111, (xmi (yX0_join, 3) (List.mem_of_getElem? (i := 11) rfl)).1, (xmi (yX0_join, 3) (List.mem_of_getElem? (i := 11) rfl)).2⟩
theorem my_X0_isFact : xMy Y_X0_isFact 1 := ⟨m_588, m_111, (xmi (yX0_isFact, 1) (List.mem_of_getElem? (i := 12) rfl)).1, (xmi (yX0_isFact, 1) (List.mem_of_getElem? (i := 12) rfl)).2⟩
theorem my_X1_init : xMy Y_X1_init 0 := ⟨m_150, m_110, (xmi (yX1_init, 0) (List.mem_of_getElem? (i := 13) rfl)).1, (xmi (yX1_init, 0) (List.mem_of_getElem? (i := 13) rfl)).2⟩
theorem my_X1_current : xMy Y_X1_current 0 := ⟨m_704, m_110, (xmi (yX1_current, 0) (List.mem_of_getElem? (i := 14) rfl)).1, (xmi (yX1_current, 0) (List.mem_of_getElem? (i := 14) rfl)).2⟩
theorem my_X1_clauses : xMy Y_X1_clauses 0 := ⟨m_1223, m_110, (xmi (yX1_clauses, 0) (List.mem_of_getElem? (i := 15) rfl)).1, (xmi (yX1_clauses, 0) (List.mem_of_getElem? (i := 15) rfl)).2⟩
theorem my_X1_read : xMy Y_X1_read 2 := ⟨m_525, m_110, (xmi (yX1_read, 2) (List.mem_of_getElem? (i := 16) rfl)).1, (xmi (yX1_read, 2) (List.mem_of_getElem? (i := 16) rfl)).2⟩
theorem my_X1_readClause : xMy Y_X1_readClause 0 := ⟨m_546, m_110, (xmi (yX1_readClause, 0) (List.mem_of_getElem? (i := 17) rfl)).1, (xmi (yX1_readClause, 0) (List.mem_of_getElem? (i := 17) rfl)).2⟩
theorem my_X1_readChoice : xMy Y_X1_readChoice 1 := ⟨m_599, m_110, (xmi (yX1_readChoice, 1) (List.mem_of_getElem? (i := 18) rfl)).1, (xmi (yX1_readChoice, 1) (List.mem_of_getElem? (i := 18) rfl)).2⟩
theorem my_X1_readPiece : xMy Y_X1_readPiece 1 := ⟨m_603, m_110, (xmi (yX1_readPiece, 1) (List.mem_of_getElem? (i := 19) rfl)).1, (xmi (yX1_readPiece, 1) (List.mem_of_getElem? (i := 19) rfl)).2⟩
theorem my_X1_readSum : xMy Y_X1_readSum 1 := ⟨m_566, m_110, (xmi (yX1_readSum, 1) (List.mem_of_getElem? (i := 20) rfl)).1, (xmi (yX1_readSum, 1) (List.mem_of_getElem? (i := 20) rfl)).2⟩
theorem my_X1_readFactor : xMy Y_X1_readFactor 1 := ⟨m_570, m_110, (xmi (yX1_readFactor, 1) (List.mem_of_getElem? (i := 21) rfl)).1, (xmi (yX1_readFactor, 1) (List.mem_of_getElem? (i := 21) rfl)).2⟩
theorem my_X1_opens : xMy Y_X1_opens 1 := ⟨m_574, m_110, (xmi (yX1_opens, 1) (List.mem_of_getElem? (i := 22) rfl)).1, (xmi (yX1_opens, 1) (List.mem_of_getElem? (i := 22) rfl)).2⟩
theorem my_X1_pass : xMy Y_X1_pass 1 := ⟨m_578, m_110, (xmi (yX1_pass, 1) (List.mem_of_getElem? (i := 23) rfl)).1, (xmi (yX1_pass, 1) (List.mem_of_getElem? (i := 23) rfl)).2⟩
theorem my_X1_sign : xMy Y_X1_sign 0 := ⟨m_550, m_110, (xmi (yX1_sign, 0) (List.mem_of_getElem? (i := 24) rfl)).1, (xmi (yX1_sign, 0) (List.mem_of_getElem? (i := 24) rfl)).2⟩
theorem my_X1_stop : xMy Y_X1_stop 1 := ⟨m_554, m_110, (xmi (yX1_stop, 1) (List.mem_of_getElem? (i := 25) rfl)).1, (xmi (yX1_stop, 1) (List.mem_of_getElem? (i := 25) rfl)).2⟩
theorem my_X1_isOperator : xMy Y_X1_isOperator 1 := ⟨m_591, m_110, (xmi (yX1_isOperator, 1) (List.mem_of_getElem? (i := 26) rfl)).1, (xmi (yX1_isOperator, 1) (List.mem_of_getElem? (i := 26) rfl)).2⟩
theorem my_X1_isDigit : xMy Y_X1_isDigit 1 := ⟨m_581, m_110, (xmi (yX1_isDigit, 1) (List.mem_of_getElem? (i := 27) rfl)).1, (xmi (yX1_isDigit, 1) (List.mem_of_getElem? (i := 27) rfl)).2⟩
theorem my_X2_init : xMy Y_X2_init 3 := ⟨m_461, m_122, (xmi (yX2_init, 3) (List.mem_of_getElem? (i := 28) rfl)).1, (xmi (yX2_init, 3) (List.mem_of_getElem? (i := 28) rfl)).2⟩
theorem my_X2_includes : xMy Y_X2_includes 1 := ⟨m_501, m_122, (xmi (yX2_includes, 1) (List.mem_of_getElem? (i := 29) rfl)).1, (xmi (yX2_includes, 1) (List.mem_of_getElem? (i := 29) rfl)).2⟩
theorem my_X2_many : xMy Y_X2_many 0 := ⟨m_682, m_122, (xmi (yX2_many, 0) (List.mem_of_getElem? (i := 30) rfl)).1, (xmi (yX2_many, 0) (List.mem_of_getElem? (i := 30) rfl)).2⟩
theorem my_X2_hour : xMy Y_X2_hour 0 := ⟨m_692, m_122, (xmi (yX2_hour, 0) (List.mem_of_getElem? (i := 31) rfl)).1, (xmi (yX2_hour, 0) (List.mem_of_getElem? (i := 31) rfl)).2⟩
theorem my_X2_isSettled : xMy Y_X2_isSettled 0 := ⟨m_497, m_122, (xmi (yX2_isSettled, 0) (List.mem_of_getElem? (i := 32) rfl)).1, (xmi (yX2_isSettled, 0) (List.mem_of_getElem? (i := 32) rfl)).2⟩
theorem my_X2_close : xMy Y_X2_close 0 := ⟨m_783, m_122, (xmi (yX2_close, 0) (List.mem_of_getElem? (i := 33) rfl)).1, (xmi (yX2_close, 0) (List.mem_of_getElem? (i := 33) rfl)).2⟩
theorem my_X2_tell : xMy Y_X2_tell 2 := ⟨m_505, m_122, (xmi (yX2_tell, 2) (List.mem_of_getElem? (i := 34) rfl)).1, (xmi (yX2_tell, 2) (List.mem_of_getElem? (i := 34) rfl)).2⟩
theorem my_X2_comingOf : xMy Y_X2_comingOf 1 := ⟨m_629, m_122, (xmi (yX2_comingOf, 1) (List.mem_of_getElem? (i := 35) rfl)).1, (xmi (yX2_comingOf, 1) (List.mem_of_getElem? (i := 35) rfl)).2⟩
theorem my_X2_start : xMy Y_X2_start 0 := ⟨m_619, m_122, (xmi (yX2_start, 0) (List.mem_of_getElem? (i := 36) rfl)).1, (xmi (yX2_start, 0) (List.mem_of_getElem? (i := 36) rfl)).2⟩
theorem my_X2_keeper : xMy Y_X2_keeper 0 := ⟨m_656, m_122, (xmi (yX2_keeper, 0) (List.mem_of_getElem? (i := 37) rfl)).1, (xmi (yX2_keeper, 0) (List.mem_of_getElem? (i := 37) rfl)).2⟩
theorem my_X2_lateness : xMy Y_X2_lateness 1 := ⟨m_647, m_122, (xmi (yX2_lateness, 1) (List.mem_of_getElem? (i := 38) rfl)).1, (xmi (yX2_lateness, 1) (List.mem_of_getElem? (i := 38) rfl)).2⟩
theorem my_X2_waitFor : xMy Y_X2_waitFor 2 := ⟨m_633, m_122, (xmi (yX2_waitFor, 2) (List.mem_of_getElem? (i := 39) rfl)).1, (xmi (yX2_waitFor, 2) (List.mem_of_getElem? (i := 39) rfl)).2⟩
theorem my_X2_laterThan : xMy Y_X2_laterThan 1 := ⟨m_688, m_122, (xmi (yX2_laterThan, 1) (List.mem_of_getElem? (i := 40) rfl)).1, (xmi (yX2_laterThan, 1) (List.mem_of_getElem? (i := 40) rfl)).2⟩
theorem my_X2_waitedByAll : xMy Y_X2_waitedByAll 0 := ⟨m_1168, m_122, (xmi (yX2_waitedByAll, 0) (List.mem_of_getElem? (i := 41) rfl)).1, (xmi (yX2_waitedByAll, 0) (List.mem_of_getElem? (i := 41) rfl)).2⟩
theorem my_X3_init : xMy Y_X3_init 1 := ⟨m_227, m_114, (xmi (yX3_init, 1) (List.mem_of_getElem? (i := 42) rfl)).1, (xmi (yX3_init, 1) (List.mem_of_getElem? (i := 42) rfl)).2⟩
theorem my_X3_length : xMy Y_X3_length 0 := ⟨m_1219, m_114, (xmi (yX3_length, 0) (List.mem_of_getElem? (i := 43) rfl)).1, (xmi (yX3_length, 0) (List.mem_of_getElem? (i := 43) rfl)).2⟩
theorem my_X3_find : xMy Y_X3_find 1 := ⟨m_493, m_114, (xmi (yX3_find, 1) (List.mem_of_getElem? (i := 44) rfl)).1, (xmi (yX3_find, 1) (List.mem_of_getElem? (i := 44) rfl)).2⟩
theorem my_X3_add : xMy Y_X3_add 3 := ⟨m_457, m_114, (xmi (yX3_add, 3) (List.mem_of_getElem? (i := 45) rfl)).1, (xmi (yX3_add, 3) (List.mem_of_getElem? (i := 45) rfl)).2⟩
theorem my_X3_settledOnes : xMy Y_X3_settledOnes 0 := ⟨m_1231, m_114, (xmi (yX3_settledOnes, 0) (List.mem_of_getElem? (i := 46) rfl)).1, (xmi (yX3_settledOnes, 0) (List.mem_of_getElem? (i := 46) rfl)).2⟩
theorem my_X3_waitedAtSettled : xMy Y_X3_waitedAtSettled 0 := ⟨m_1163, m_114, (xmi (yX3_waitedAtSettled, 0) (List.mem_of_getElem? (i := 47) rfl)).1, (xmi (yX3_waitedAtSettled, 0) (List.mem_of_getElem? (i := 47) rfl)).2⟩
theorem my_X3_keeperAt : xMy Y_X3_keeperAt 1 := ⟨m_661, m_114, (xmi (yX3_keeperAt, 1) (List.mem_of_getElem? (i := 48) rfl)).1, (xmi (yX3_keeperAt, 1) (List.mem_of_getElem? (i := 48) rfl)).2⟩
theorem my_X3_keptBy : xMy Y_X3_keptBy 2 := ⟨m_642, m_114, (xmi (yX3_keptBy, 2) (List.mem_of_getElem? (i := 49) rfl)).1, (xmi (yX3_keptBy, 2) (List.mem_of_getElem? (i := 49) rfl)).2⟩
theorem my_X3_didKeep : xMy Y_X3_didKeep 3 := ⟨m_650, m_114, (xmi (yX3_didKeep, 3) (List.mem_of_getElem? (i := 50) rfl)).1, (xmi (yX3_didKeep, 3) (List.mem_of_getElem? (i := 50) rfl)).2⟩
theorem my_X3_gather : xMy Y_X3_gather 3 := ⟨m_673, m_114, (xmi (yX3_gather, 3) (List.mem_of_getElem? (i := 51) rfl)).1, (xmi (yX3_gather, 3) (List.mem_of_getElem? (i := 51) rfl)).2⟩
theorem my_X3_putFact : xMy Y_X3_putFact 2 := ⟨m_678, m_114, (xmi (yX3_putFact, 2) (List.mem_of_getElem? (i := 52) rfl)).1, (xmi (yX3_putFact, 2) (List.mem_of_getElem? (i := 52) rfl)).2⟩
theorem my_X3_follow : xMy Y_X3_follow 4 := ⟨m_745, m_114, (xmi (yX3_follow, 4) (List.mem_of_getElem? (i := 53) rfl)).1, (xmi (yX3_follow, 4) (List.mem_of_getElem? (i := 53) rfl)).2⟩
theorem my_X3_payers : xMy Y_X3_payers 0 := ⟨m_750, m_114, (xmi (yX3_payers, 0) (List.mem_of_getElem? (i := 54) rfl)).1, (xmi (yX3_payers, 0) (List.mem_of_getElem? (i := 54) rfl)).2⟩
theorem my_X3_payerAt : xMy Y_X3_payerAt 1 := ⟨m_754, m_114, (xmi (yX3_payerAt, 1) (List.mem_of_getElem? (i := 55) rfl)).1, (xmi (yX3_payerAt, 1) (List.mem_of_getElem? (i := 55) rfl)).2⟩
theorem my_X3_paidAt : xMy Y_X3_paidAt 1 := ⟨m_758, m_114, (xmi (yX3_paidAt, 1) (List.mem_of_getElem? (i := 56) rfl)).1, (xmi (yX3_paidAt, 1) (List.mem_of_getElem? (i := 56) rfl)).2⟩
theorem my_X4_init : xMy Y_X4_init 0 := ⟨m_257, m_115, (xmi (yX4_init, 0) (List.mem_of_getElem? (i := 57) rfl)).1, (xmi (yX4_init, 0) (List.mem_of_getElem? (i := 57) rfl)).2⟩
theorem my_X4_length : xMy Y_X4_length 0 := ⟨m_766, m_115, (xmi (yX4_length, 0) (List.mem_of_getElem? (i := 58) rfl)).1, (xmi (yX4_length, 0) (List.mem_of_getElem? (i := 58) rfl)).2⟩
theorem my_X4_holds : xMy Y_X4_holds 1 := ⟨m_791, m_115, (xmi (yX4_holds, 1) (List.mem_of_getElem? (i := 59) rfl)).1, (xmi (yX4_holds, 1) (List.mem_of_getElem? (i := 59) rfl)).2⟩
theorem my_X4_add : xMy Y_X4_add 5 := ⟨m_774, m_115, (xmi (yX4_add, 5) (List.mem_of_getElem? (i := 60) rfl)).1, (xmi (yX4_add, 5) (List.mem_of_getElem? (i := 60) rfl)).2⟩
theorem my_X4_dropFrom : xMy Y_X4_dropFrom 1 := ⟨m_778, m_115, (xmi (yX4_dropFrom, 1) (List.mem_of_getElem? (i := 61) rfl)).1, (xmi (yX4_dropFrom, 1) (List.mem_of_getElem? (i := 61) rfl)).2⟩
theorem my_X4_owerOf : xMy Y_X4_owerOf 1 := ⟨m_795, m_115, (xmi (yX4_owerOf, 1) (List.mem_of_getElem? (i := 62) rfl)).1, (xmi (yX4_owerOf, 1) (List.mem_of_getElem? (i := 62) rfl)).2⟩
theorem my_X4_holderOf : xMy Y_X4_holderOf 1 := ⟨m_800, m_115, (xmi (yX4_holderOf, 1) (List.mem_of_getElem? (i := 63) rfl)).1, (xmi (yX4_holderOf, 1) (List.mem_of_getElem? (i := 63) rfl)).2⟩
theorem my_X4_minutesOf : xMy Y_X4_minutesOf 1 := ⟨m_804, m_115, (xmi (yX4_minutesOf, 1) (List.mem_of_getElem? (i := 64) rfl)).1, (xmi (yX4_minutesOf, 1) (List.mem_of_getElem? (i := 64) rfl)).2⟩
theorem my_X4_madeOn : xMy Y_X4_madeOn 1 := ⟨m_808, m_115, (xmi (yX4_madeOn, 1) (List.mem_of_getElem? (i := 65) rfl)).1, (xmi (yX4_madeOn, 1) (List.mem_of_getElem? (i := 65) rfl)).2⟩
theorem my_X4_lapsesOn : xMy Y_X4_lapsesOn 1 := ⟨m_812, m_115, (xmi (yX4_lapsesOn, 1) (List.mem_of_getElem? (i := 66) rfl)).1, (xmi (yX4_lapsesOn, 1) (List.mem_of_getElem? (i := 66) rfl)).2⟩
theorem my_X4_isLive : xMy Y_X4_isLive 2 := ⟨m_816, m_115, (xmi (yX4_isLive, 2) (List.mem_of_getElem? (i := 67) rfl)).1, (xmi (yX4_isLive, 2) (List.mem_of_getElem? (i := 67) rfl)).2⟩
theorem my_X4_handTo : xMy Y_X4_handTo 2 := ⟨m_824, m_115, (xmi (yX4_handTo, 2) (List.mem_of_getElem? (i := 68) rfl)).1, (xmi (yX4_handTo, 2) (List.mem_of_getElem? (i := 68) rfl)).2⟩
theorem my_X4_split : xMy Y_X4_split 2 := ⟨m_832, m_115, (xmi (yX4_split, 2) (List.mem_of_getElem? (i := 69) rfl)).1, (xmi (yX4_split, 2) (List.mem_of_getElem? (i := 69) rfl)).2⟩
theorem my_X4_lessen : xMy Y_X4_lessen 2 := ⟨m_856, m_115, (xmi (yX4_lessen, 2) (List.mem_of_getElem? (i := 70) rfl)).1, (xmi (yX4_lessen, 2) (List.mem_of_getElem? (i := 70) rfl)).2⟩
theorem my_X4_sumOf : xMy Y_X4_sumOf 3 := ⟨m_864, m_115, (xmi (yX4_sumOf, 3) (List.mem_of_getElem? (i := 71) rfl)).1, (xmi (yX4_sumOf, 3) (List.mem_of_getElem? (i := 71) rfl)).2⟩
theorem my_X4_callIn : xMy Y_X4_callIn 4 := ⟨m_874, m_115, (xmi (yX4_callIn, 4) (List.mem_of_getElem? (i := 72) rfl)).1, (xmi (yX4_callIn, 4) (List.mem_of_getElem? (i := 72) rfl)).2⟩
theorem my_X4_useOn : xMy Y_X4_useOn 2 := ⟨m_881, m_115, (xmi (yX4_useOn, 2) (List.mem_of_getElem? (i := 73) rfl)).1, (xmi (yX4_useOn, 2) (List.mem_of_getElem? (i := 73) rfl)).2⟩
theorem my_X4_firstWrong : xMy Y_X4_firstWrong 3 := ⟨m_1206, m_115, (xmi (yX4_firstWrong, 3) (List.mem_of_getElem? (i := 74) rfl)).1, (xmi (yX4_firstWrong, 3) (List.mem_of_getElem? (i := 74) rfl)).2⟩
theorem my_X5_init : xMy Y_X5_init 0 := ⟨m_208, m_112, (xmi (yX5_init, 0) (List.mem_of_getElem? (i := 75) rfl)).1, (xmi (yX5_init, 0) (List.mem_of_getElem? (i := 75) rfl)).2⟩
theorem my_X5_slot : xMy Y_X5_slot 2 := ⟨m_443, m_112, (xmi (yX5_slot, 2) (List.mem_of_getElem? (i := 76) rfl)).1, (xmi (yX5_slot, 2) (List.mem_of_getElem? (i := 76) rfl)).2⟩
theorem my_X5_add : xMy Y_X5_add 3 := ⟨m_852, m_112, (xmi (yX5_add, 3) (List.mem_of_getElem? (i := 77) rfl)).1, (xmi (yX5_add, 3) (List.mem_of_getElem? (i := 77) rfl)).2⟩
theorem my_X5_setWorth : xMy Y_X5_setWorth 3 := ⟨m_440, m_112, (xmi (yX5_setWorth, 3) (List.mem_of_getElem? (i := 78) rfl)).1, (xmi (yX5_setWorth, 3) (List.mem_of_getElem? (i := 78) rfl)).2⟩
theorem my_X5_worthAt : xMy Y_X5_worthAt 2 := ⟨m_696, m_112, (xmi (yX5_worthAt, 2) (List.mem_of_getElem? (i := 79) rfl)).1, (xmi (yX5_worthAt, 2) (List.mem_of_getElem? (i := 79) rfl)).2⟩
theorem my_X5_givenIn : xMy Y_X5_givenIn 2 := ⟨m_841, m_112, (xmi (yX5_givenIn, 2) (List.mem_of_getElem? (i := 80) rfl)).1, (xmi (yX5_givenIn, 2) (List.mem_of_getElem? (i := 80) rfl)).2⟩
theorem my_X5_takenIn : xMy Y_X5_takenIn 2 := ⟨m_845, m_112, (xmi (yX5_takenIn, 2) (List.mem_of_getElem? (i := 81) rfl)).1, (xmi (yX5_takenIn, 2) (List.mem_of_getElem? (i := 81) rfl)).2⟩
theorem my_X5_countTaking : xMy Y_X5_countTaking 4 := ⟨m_849, m_112, (xmi (yX5_countTaking, 4) (List.mem_of_getElem? (i := 82) rfl)).1, (xmi (yX5_countTaking, 4) (List.mem_of_getElem? (i := 82) rfl)).2⟩
theorem my_X5_emptyHours : xMy Y_X5_emptyHours 0 := ⟨m_429, m_112, (xmi (yX5_emptyHours, 0) (List.mem_of_getElem? (i := 83) rfl)).1, (xmi (yX5_emptyHours, 0) (List.mem_of_getElem? (i := 83) rfl)).2⟩
theorem my_X6_init : xMy Y_X6_init 2 := ⟨m_351, m_118, (xmi (yX6_init, 2) (List.mem_of_getElem? (i := 84) rfl)).1, (xmi (yX6_init, 2) (List.mem_of_getElem? (i := 84) rfl)).2⟩
theorem my_X6_aheadOf : xMy Y_X6_aheadOf 1 := ⟨m_1155, m_118, (xmi (yX6_aheadOf, 1) (List.mem_of_getElem? (i := 85) rfl)).1, (xmi (yX6_aheadOf, 1) (List.mem_of_getElem? (i := 85) rfl)).2⟩
theorem my_X6_comeToRest : xMy Y_X6_comeToRest 2 := ⟨m_1092, m_118, (xmi (yX6_comeToRest, 2) (List.mem_of_getElem? (i := 86) rfl)).1, (xmi (yX6_comeToRest, 2) (List.mem_of_getElem? (i := 86) rfl)).2⟩
theorem my_X6_cheapest : xMy Y_X6_cheapest 3 := ⟨m_1098, m_118, (xmi (yX6_cheapest, 3) (List.mem_of_getElem? (i := 87) rfl)).1, (xmi (yX6_cheapest, 3) (List.mem_of_getElem? (i := 87) rfl)).2⟩
theorem my_X6_gatherOthers : xMy Y_X6_gatherOthers 3 := ⟨m_1104, m_118, (xmi (yX6_gatherOthers, 3) (List.mem_of_getElem? (i := 88) rfl)).1, (xmi (yX6_gatherOthers, 3) (List.mem_of_getElem? (i := 88) rfl)).2⟩
theorem my_X6_spreadLasts : xMy Y_X6_spreadLasts 2 := ⟨m_1125, m_118, (xmi (yX6_spreadLasts, 2) (List.mem_of_getElem? (i := 89) rfl)).1, (xmi (yX6_spreadLasts, 2) (List.mem_of_getElem? (i := 89) rfl)).2⟩
theorem my_X6_weightsWithout : xMy Y_X6_weightsWithout 3 := ⟨m_1116, m_118, (xmi (yX6_weightsWithout, 3) (List.mem_of_getElem? (i := 90) rfl)).1, (xmi (yX6_weightsWithout, 3) (List.mem_of_getElem? (i := 90) rfl)).2⟩
theorem my_X6_costOf : xMy Y_X6_costOf 5 := ⟨m_1141, m_118, (xmi (yX6_costOf, 5) (List.mem_of_getElem? (i := 91) rfl)).1, (xmi (yX6_costOf, 5) (List.mem_of_getElem? (i := 91) rfl)).2⟩
theorem my_X7_init : xMy Y_X7_init 0 := ⟨m_285, m_116, (xmi (yX7_init, 0) (List.mem_of_getElem? (i := 92) rfl)).1, (xmi (yX7_init, 0) (List.mem_of_getElem? (i := 92) rfl)).2⟩
theorem my_X7_load : xMy Y_X7_load 2 := ⟨m_890, m_116, (xmi (yX7_load, 2) (List.mem_of_getElem? (i := 93) rfl)).1, (xmi (yX7_load, 2) (List.mem_of_getElem? (i := 93) rfl)).2⟩
theorem my_X7_leastLeft : xMy Y_X7_leastLeft 0 := ⟨m_901, m_116, (xmi (yX7_leastLeft, 0) (List.mem_of_getElem? (i := 94) rfl)).1, (xmi (yX7_leastLeft, 0) (List.mem_of_getElem? (i := 94) rfl)).2⟩
theorem my_X7_measure : xMy Y_X7_measure 0 := ⟨m_906, m_116, (xmi (yX7_measure, 0) (List.mem_of_getElem? (i := 95) rfl)).1, (xmi (yX7_measure, 0) (List.mem_of_getElem? (i := 95) rfl)).2⟩
theorem my_X7_widen : xMy Y_X7_widen 1 := ⟨m_910, m_116, (xmi (yX7_widen, 1) (List.mem_of_getElem? (i := 96) rfl)).1, (xmi (yX7_widen, 1) (List.mem_of_getElem? (i := 96) rfl)).2⟩
theorem my_X7_length : xMy Y_X7_length 2 := ⟨m_926, m_116, (xmi (yX7_length, 2) (List.mem_of_getElem? (i := 97) rfl)).1, (xmi (yX7_length, 2) (List.mem_of_getElem? (i := 97) rfl)).2⟩
theorem my_X7_room : xMy Y_X7_room 2 := ⟨m_914, m_116, (xmi (yX7_room, 2) (List.mem_of_getElem? (i := 98) rfl)).1, (xmi (yX7_room, 2) (List.mem_of_getElem? (i := 98) rfl)).2⟩
theorem my_X7_leftFrom : xMy Y_X7_leftFrom 2 := ⟨m_918, m_116, (xmi (yX7_leftFrom, 2) (List.mem_of_getElem? (i := 99) rfl)).1, (xmi (yX7_leftFrom, 2) (List.mem_of_getElem? (i := 99) rfl)).2⟩
theorem my_X7_dueFrom : xMy Y_X7_dueFrom 2 := ⟨m_922, m_116, (xmi (yX7_dueFrom, 2) (List.mem_of_getElem? (i := 100) rfl)).1, (xmi (yX7_dueFrom, 2) (List.mem_of_getElem? (i := 100) rfl)).2⟩
theorem my_X7_nearestTaker : xMy Y_X7_nearestTaker 0 := ⟨m_930, m_116, (xmi (yX7_nearestTaker, 0) (List.mem_of_getElem? (i := 101) rfl)).1, (xmi (yX7_nearestTaker, 0) (List.mem_of_getElem? (i := 101) rfl)).2⟩
theorem my_X7_send : xMy Y_X7_send 1 := ⟨m_934, m_116, (xmi (yX7_send, 1) (List.mem_of_getElem? (i := 102) rfl)).1, (xmi (yX7_send, 1) (List.mem_of_getElem? (i := 102) rfl)).2⟩
theorem my_X7_moveAlong : xMy Y_X7_moveAlong 2 := ⟨m_939, m_116, (xmi (yX7_moveAlong, 2) (List.mem_of_getElem? (i := 103) rfl)).1, (xmi (yX7_moveAlong, 2) (List.mem_of_getElem? (i := 103) rfl)).2⟩
theorem my_X7_fewestPayments : xMy Y_X7_fewestPayments 0 := ⟨m_947, m_116, (xmi (yX7_fewestPayments, 0) (List.mem_of_getElem? (i := 104) rfl)).1, (xmi (yX7_fewestPayments, 0) (List.mem_of_getElem? (i := 104) rfl)).2⟩
theorem my_X8_init : xMy Y_X8_init 0 := ⟨m_357, m_119, (xmi (yX8_init, 0) (List.mem_of_getElem? (i := 105) rfl)).1, (xmi (yX8_init, 0) (List.mem_of_getElem? (i := 105) rfl)).2⟩
theorem my_X8_empty : xMy Y_X8_empty 0 := ⟨m_1108, m_119, (xmi (yX8_empty, 0) (List.mem_of_getElem? (i := 106) rfl)).1, (xmi (yX8_empty, 0) (List.mem_of_getElem? (i := 106) rfl)).2⟩
theorem my_X8_length : xMy Y_X8_length 0 := ⟨m_1129, m_119, (xmi (yX8_length, 0) (List.mem_of_getElem? (i := 107) rfl)).1, (xmi (yX8_length, 0) (List.mem_of_getElem? (i := 107) rfl)).2⟩
theorem my_X8_minuteAt : xMy Y_X8_minuteAt 1 := ⟨m_1133, m_119, (xmi (yX8_minuteAt, 1) (List.mem_of_getElem? (i := 108) rfl)).1, (xmi (yX8_minuteAt, 1) (List.mem_of_getElem? (i := 108) rfl)).2⟩
theorem my_X8_weightAt : xMy Y_X8_weightAt 1 := ⟨m_1137, m_119, (xmi (yX8_weightAt, 1) (List.mem_of_getElem? (i := 109) rfl)).1, (xmi (yX8_weightAt, 1) (List.mem_of_getElem? (i := 109) rfl)).2⟩
theorem my_X8_add : xMy Y_X8_add 2 := ⟨m_1112, m_119, (xmi (yX8_add, 2) (List.mem_of_getElem? (i := 110) rfl)).1, (xmi (yX8_add, 2) (List.mem_of_getElem? (i := 110) rfl)).2⟩
theorem my_X8_above : xMy Y_X8_above 1 := ⟨m_1147, m_119, (xmi (yX8_above, 1) (List.mem_of_getElem? (i := 111) rfl)).1, (xmi (yX8_above, 1) (List.mem_of_getElem? (i := 111) rfl)).2⟩
theorem my_X8_below : xMy Y_X8_below 1 := ⟨m_1151, m_119, (xmi (yX8_below, 1) (List.mem_of_getElem? (i := 112) rfl)).1, (xmi (yX8_below, 1) (List.mem_of_getElem? (i := 112) rfl)).2⟩
theorem my_X9_init : xMy Y_X9_init 0 := ⟨m_136, m_109, (xmi (yX9_init, 0) (List.mem_of_getElem? (i := 113) rfl)).1, (xmi (yX9_init, 0) (List.mem_of_getElem? (i := 113) rfl)).2⟩
theorem my_X9_length : xMy Y_X9_length 0 := ⟨m_513, m_109, (xmi (yX9_length, 0) (List.mem_of_getElem? (i := 114) rfl)).1, (xmi (yX9_length, 0) (List.mem_of_getElem? (i := 114) rfl)).2⟩
theorem my_X9_put : xMy Y_X9_put 1 := ⟨m_517, m_109, (xmi (yX9_put, 1) (List.mem_of_getElem? (i := 115) rfl)).1, (xmi (yX9_put, 1) (List.mem_of_getElem? (i := 115) rfl)).2⟩
theorem my_X9_empty : xMy Y_X9_empty 0 := ⟨m_611, m_109, (xmi (yX9_empty, 0) (List.mem_of_getElem? (i := 116) rfl)).1, (xmi (yX9_empty, 0) (List.mem_of_getElem? (i := 116) rfl)).2⟩
theorem my_X9_byteAt : xMy Y_X9_byteAt 1 := ⟨m_538, m_109, (xmi (yX9_byteAt, 1) (List.mem_of_getElem? (i := 117) rfl)).1, (xmi (yX9_byteAt, 1) (List.mem_of_getElem? (i := 117) rfl)).2⟩
theorem my_X9_wordAt : xMy Y_X9_wordAt 1 := ⟨m_1210, m_109, (xmi (yX9_wordAt, 1) (List.mem_of_getElem? (i := 118) rfl)).1, (xmi (yX9_wordAt, 1) (List.mem_of_getElem? (i := 118) rfl)).2⟩
theorem my_X10_init : xMy Y_X10_init 1 := ⟨m_310, m_117, (xmi (yX10_init, 1) (List.mem_of_getElem? (i := 119) rfl)).1, (xmi (yX10_init, 1) (List.mem_of_getElem? (i := 119) rfl)).2⟩
theorem my_X10_tell : xMy Y_X10_tell 3 := ⟨m_956, m_117, (xmi (yX10_tell, 3) (List.mem_of_getElem? (i := 120) rfl)).1, (xmi (yX10_tell, 3) (List.mem_of_getElem? (i := 120) rfl)).2⟩
theorem my_X10_toldBy : xMy Y_X10_toldBy 1 := ⟨m_1235, m_117, (xmi (yX10_toldBy, 1) (List.mem_of_getElem? (i := 121) rfl)).1, (xmi (yX10_toldBy, 1) (List.mem_of_getElem? (i := 121) rfl)).2⟩
theorem my_X10_endsOf : xMy Y_X10_endsOf 1 := ⟨m_997, m_117, (xmi (yX10_endsOf, 1) (List.mem_of_getElem? (i := 122) rfl)).1, (xmi (yX10_endsOf, 1) (List.mem_of_getElem? (i := 122) rfl)).2⟩
theorem my_X10_weightOf : xMy Y_X10_weightOf 2 := ⟨m_1007, m_117, (xmi (yX10_weightOf, 2) (List.mem_of_getElem? (i := 123) rfl)).1, (xmi (yX10_weightOf, 2) (List.mem_of_getElem? (i := 123) rfl)).2⟩
theorem my_X10_weightsOf : xMy Y_X10_weightsOf 1 := ⟨m_1015, m_117, (xmi (yX10_weightsOf, 1) (List.mem_of_getElem? (i := 124) rfl)).1, (xmi (yX10_weightsOf, 1) (List.mem_of_getElem? (i := 124) rfl)).2⟩
theorem my_X10_takes : xMy Y_X10_takes 3 := ⟨m_1002, m_117, (xmi (yX10_takes, 3) (List.mem_of_getElem? (i := 125) rfl)).1, (xmi (yX10_takes, 3) (List.mem_of_getElem? (i := 125) rfl)).2⟩
theorem my_X10_setBridge : xMy Y_X10_setBridge 3 := ⟨m_965, m_117, (xmi (yX10_setBridge, 3) (List.mem_of_getElem? (i := 126) rfl)).1, (xmi (yX10_setBridge, 3) (List.mem_of_getElem? (i := 126) rfl)).2⟩
theorem my_X10_allOfBridge : xMy Y_X10_allOfBridge 0 := ⟨m_1011, m_117, (xmi (yX10_allOfBridge, 0) (List.mem_of_getElem? (i := 127) rfl)).1, (xmi (yX10_allOfBridge, 0) (List.mem_of_getElem? (i := 127) rfl)).2⟩
theorem my_X10_bridgeWeight : xMy Y_X10_bridgeWeight 1 := ⟨m_989, m_117, (xmi (yX10_bridgeWeight, 1) (List.mem_of_getElem? (i := 128) rfl)).1, (xmi (yX10_bridgeWeight, 1) (List.mem_of_getElem? (i := 128) rfl)).2⟩
theorem my_X10_isCrossing : xMy Y_X10_isCrossing 1 := ⟨m_973, m_117, (xmi (yX10_isCrossing, 1) (List.mem_of_getElem? (i := 129) rfl)).1, (xmi (yX10_isCrossing, 1) (List.mem_of_getElem? (i := 129) rfl)).2⟩
theorem my_X10_setCrossing : xMy Y_X10_setCrossing 2 := ⟨m_977, m_117, (xmi (yX10_setCrossing, 2) (List.mem_of_getElem? (i := 130) rfl)).1, (xmi (yX10_setCrossing, 2) (List.mem_of_getElem? (i := 130) rfl)).2⟩
theorem my_X10_lateWeights : xMy Y_X10_lateWeights 2 := ⟨m_985, m_117, (xmi (yX10_lateWeights, 2) (List.mem_of_getElem? (i := 131) rfl)).1, (xmi (yX10_lateWeights, 2) (List.mem_of_getElem? (i := 131) rfl)).2⟩
theorem my_X10_lateEnds : xMy Y_X10_lateEnds 3 := ⟨m_993, m_117, (xmi (yX10_lateEnds, 3) (List.mem_of_getElem? (i := 132) rfl)).1, (xmi (yX10_lateEnds, 3) (List.mem_of_getElem? (i := 132) rfl)).2⟩
theorem my_X10_lateTogether : xMy Y_X10_lateTogether 3 := ⟨m_1032, m_117, (xmi (yX10_lateTogether, 3) (List.mem_of_getElem? (i := 133) rfl)).1, (xmi (yX10_lateTogether, 3) (List.mem_of_getElem? (i := 133) rfl)).2⟩
theorem my_X10_countLate : xMy Y_X10_countLate 3 := ⟨m_1036, m_117, (xmi (yX10_countLate, 3) (List.mem_of_getElem? (i := 134) rfl)).1, (xmi (yX10_countLate, 3) (List.mem_of_getElem? (i := 134) rfl)).2⟩
theorem my_X10_costOfComing : xMy Y_X10_costOfComing 4 := ⟨m_1056, m_117, (xmi (yX10_costOfComing, 4) (List.mem_of_getElem? (i := 135) rfl)).1, (xmi (yX10_costOfComing, 4) (List.mem_of_getElem? (i := 135) rfl)).2⟩
theorem my_X10_costOfWay : xMy Y_X10_costOfWay 5 := ⟨m_1052, m_117, (xmi (yX10_costOfWay, 5) (List.mem_of_getElem? (i := 136) rfl)).1, (xmi (yX10_costOfWay, 5) (List.mem_of_getElem? (i := 136) rfl)).2⟩
theorem my_X10_costOfOne : xMy Y_X10_costOfOne 4 := ⟨m_1048, m_117, (xmi (yX10_costOfOne, 4) (List.mem_of_getElem? (i := 137) rfl)).1, (xmi (yX10_costOfOne, 4) (List.mem_of_getElem? (i := 137) rfl)).2⟩
theorem my_X10_costOfRow : xMy Y_X10_costOfRow 6 := ⟨m_1074, m_117, (xmi (yX10_costOfRow, 6) (List.mem_of_getElem? (i := 138) rfl)).1, (xmi (yX10_costOfRow, 6) (List.mem_of_getElem? (i := 138) rfl)).2⟩
theorem my_X10_costOfBoth : xMy Y_X10_costOfBoth 7 := ⟨m_1078, m_117, (xmi (yX10_costOfBoth, 7) (List.mem_of_getElem? (i := 139) rfl)).1, (xmi (yX10_costOfBoth, 7) (List.mem_of_getElem? (i := 139) rfl)).2⟩
theorem my_X10_drawn : xMy Y_X10_drawn 0 := ⟨m_1227, m_117, (xmi (yX10_drawn, 0) (List.mem_of_getElem? (i := 140) rfl)).1, (xmi (yX10_drawn, 0) (List.mem_of_getElem? (i := 140) rfl)).2⟩
theorem my_X10_setDrawn : xMy Y_X10_setDrawn 1 := ⟨m_1178, m_117, (xmi (yX10_setDrawn, 1) (List.mem_of_getElem? (i := 141) rfl)).1, (xmi (yX10_setDrawn, 1) (List.mem_of_getElem? (i := 141) rfl)).2⟩
theorem my_X10_drawNext : xMy Y_X10_drawNext 0 := ⟨m_1190, m_117, (xmi (yX10_drawNext, 0) (List.mem_of_getElem? (i := 142) rfl)).1, (xmi (yX10_drawNext, 0) (List.mem_of_getElem? (i := 142) rfl)).2⟩
theorem my_X10_drawComings : xMy Y_X10_drawComings 2 := ⟨m_1186, m_117, (xmi (yX10_drawComings, 2) (List.mem_of_getElem? (i := 143) rfl)).1, (xmi (yX10_drawComings, 2) (List.mem_of_getElem? (i := 143) rfl)).2⟩
theorem my_X10_drawEnd : xMy Y_X10_drawEnd 1 := ⟨m_1197, m_117, (xmi (yX10_drawEnd, 1) (List.mem_of_getElem? (i := 144) rfl)).1, (xmi (yX10_drawEnd, 1) (List.mem_of_getElem? (i := 144) rfl)).2⟩
theorem my_X11_init : xMy Y_X11_init 0 := ⟨m_128, m_108, (xmi (yX11_init, 0) (List.mem_of_getElem? (i := 145) rfl)).1, (xmi (yX11_init, 0) (List.mem_of_getElem? (i := 145) rfl)).2⟩
theorem my_X11_now : xMy Y_X11_now 1 := ⟨m_422, m_108, (xmi (yX11_now, 1) (List.mem_of_getElem? (i := 146) rfl)).1, (xmi (yX11_now, 1) (List.mem_of_getElem? (i := 146) rfl)).2⟩
theorem my_X11_worth : xMy Y_X11_worth 3 := ⟨m_433, m_108, (xmi (yX11_worth, 3) (List.mem_of_getElem? (i := 147) rfl)).1, (xmi (yX11_worth, 3) (List.mem_of_getElem? (i := 147) rfl)).2⟩
theorem my_X11_meeting : xMy Y_X11_meeting 3 := ⟨m_447, m_108, (xmi (yX11_meeting, 3) (List.mem_of_getElem? (i := 148) rfl)).1, (xmi (yX11_meeting, 3) (List.mem_of_getElem? (i := 148) rfl)).2⟩
theorem my_X11_came : xMy Y_X11_came 3 := ⟨m_489, m_108, (xmi (yX11_came, 3) (List.mem_of_getElem? (i := 149) rfl)).1, (xmi (yX11_came, 3) (List.mem_of_getElem? (i := 149) rfl)).2⟩
theorem my_X11_feed : xMy Y_X11_feed 5 := ⟨m_509, m_108, (xmi (yX11_feed, 5) (List.mem_of_getElem? (i := 150) rfl)).1, (xmi (yX11_feed, 5) (List.mem_of_getElem? (i := 150) rfl)).2⟩
theorem my_X11_law : xMy Y_X11_law 1 := ⟨m_521, m_108, (xmi (yX11_law, 1) (List.mem_of_getElem? (i := 151) rfl)).1, (xmi (yX11_law, 1) (List.mem_of_getElem? (i := 151) rfl)).2⟩
theorem my_X11_begins : xMy Y_X11_begins 1 := ⟨m_615, m_108, (xmi (yX11_begins, 1) (List.mem_of_getElem? (i := 152) rfl)).1, (xmi (yX11_begins, 1) (List.mem_of_getElem? (i := 152) rfl)).2⟩
theorem my_X11_keeps : xMy Y_X11_keeps 3 := ⟨m_625, m_108, (xmi (yX11_keeps, 3) (List.mem_of_getElem? (i := 153) rfl)).1, (xmi (yX11_keeps, 3) (List.mem_of_getElem? (i := 153) rfl)).2⟩
theorem my_X11_kept : xMy Y_X11_kept 3 := ⟨m_638, m_108, (xmi (yX11_kept, 3) (List.mem_of_getElem? (i := 154) rfl)).1, (xmi (yX11_kept, 3) (List.mem_of_getElem? (i := 154) rfl)).2⟩
theorem my_X11_owes : xMy Y_X11_owes 4 := ⟨m_665, m_108, (xmi (yX11_owes, 4) (List.mem_of_getElem? (i := 155) rfl)).1, (xmi (yX11_owes, 4) (List.mem_of_getElem? (i := 155) rfl)).2⟩
theorem my_X11_chain : xMy Y_X11_chain 4 := ⟨m_737, m_108, (xmi (yX11_chain, 4) (List.mem_of_getElem? (i := 156) rfl)).1, (xmi (yX11_chain, 4) (List.mem_of_getElem? (i := 156) rfl)).2⟩
theorem my_X11_settle : xMy Y_X11_settle 1 := ⟨m_762, m_108, (xmi (yX11_settle, 1) (List.mem_of_getElem? (i := 157) rfl)).1, (xmi (yX11_settle, 1) (List.mem_of_getElem? (i := 157) rfl)).2⟩
theorem my_X11_noteIs : xMy Y_X11_noteIs 2 := ⟨m_787, m_108, (xmi (yX11_noteIs, 2) (List.mem_of_getElem? (i := 158) rfl)).1, (xmi (yX11_noteIs, 2) (List.mem_of_getElem? (i := 158) rfl)).2⟩
theorem my_X11_hand : xMy Y_X11_hand 2 := ⟨m_820, m_108, (xmi (yX11_hand, 2) (List.mem_of_getElem? (i := 159) rfl)).1, (xmi (yX11_hand, 2) (List.mem_of_getElem? (i := 159) rfl)).2⟩
theorem my_X11_cut : xMy Y_X11_cut 2 := ⟨m_828, m_108, (xmi (yX11_cut, 2) (List.mem_of_getElem? (i := 160) rfl)).1, (xmi (yX11_cut, 2) (List.mem_of_getElem? (i := 160) rfl)).2⟩
theorem my_X11_take : xMy Y_X11_take 3 := ⟨m_837, m_108, (xmi (yX11_take, 3) (List.mem_of_getElem? (i := 161) rfl)).1, (xmi (yX11_take, 3) (List.mem_of_getElem? (i := 161) rfl)).2⟩
theorem my_X11_owed : xMy Y_X11_owed 2 := ⟨m_860, m_108, (xmi (yX11_owed, 2) (List.mem_of_getElem? (i := 162) rfl)).1, (xmi (yX11_owed, 2) (List.mem_of_getElem? (i := 162) rfl)).2⟩
theorem my_X11_called : xMy Y_X11_called 2 := ⟨m_869, m_108, (xmi (yX11_called, 2) (List.mem_of_getElem? (i := 163) rfl)).1, (xmi (yX11_called, 2) (List.mem_of_getElem? (i := 163) rfl)).2⟩
theorem my_X11_round : xMy Y_X11_round 0 := ⟨m_886, m_108, (xmi (yX11_round, 0) (List.mem_of_getElem? (i := 164) rfl)).1, (xmi (yX11_round, 0) (List.mem_of_getElem? (i := 164) rfl)).2⟩
theorem my_X11_takings : xMy Y_X11_takings 0 := ⟨m_943, m_108, (xmi (yX11_takings, 0) (List.mem_of_getElem? (i := 165) rfl)).1, (xmi (yX11_takings, 0) (List.mem_of_getElem? (i := 165) rfl)).2⟩
theorem my_X11_end : xMy Y_X11_end 3 := ⟨m_952, m_108, (xmi (yX11_end, 3) (List.mem_of_getElem? (i := 166) rfl)).1, (xmi (yX11_end, 3) (List.mem_of_getElem? (i := 166) rfl)).2⟩
theorem my_X11_bridge : xMy Y_X11_bridge 3 := ⟨m_961, m_108, (xmi (yX11_bridge, 3) (List.mem_of_getElem? (i := 167) rfl)).1, (xmi (yX11_bridge, 3) (List.mem_of_getElem? (i := 167) rfl)).2⟩
theorem my_X11_crosses : xMy Y_X11_crosses 2 := ⟨m_969, m_108, (xmi (yX11_crosses, 2) (List.mem_of_getElem? (i := 168) rfl)).1, (xmi (yX11_crosses, 2) (List.mem_of_getElem? (i := 168) rfl)).2⟩
theorem my_X11_lateIf : xMy Y_X11_lateIf 3 := ⟨m_981, m_108, (xmi (yX11_lateIf, 3) (List.mem_of_getElem? (i := 169) rfl)).1, (xmi (yX11_lateIf, 3) (List.mem_of_getElem? (i := 169) rfl)).2⟩
theorem my_X11_hang : xMy Y_X11_hang 3 := ⟨m_1028, m_108, (xmi (yX11_hang, 3) (List.mem_of_getElem? (i := 170) rfl)).1, (xmi (yX11_hang, 3) (List.mem_of_getElem? (i := 170) rfl)).2⟩
theorem my_X11_cost : xMy Y_X11_cost 4 := ⟨m_1044, m_108, (xmi (yX11_cost, 4) (List.mem_of_getElem? (i := 171) rfl)).1, (xmi (yX11_cost, 4) (List.mem_of_getElem? (i := 171) rfl)).2⟩
theorem my_X11_out : xMy Y_X11_out 3 := ⟨m_1063, m_108, (xmi (yX11_out, 3) (List.mem_of_getElem? (i := 172) rfl)).1, (xmi (yX11_out, 3) (List.mem_of_getElem? (i := 172) rfl)).2⟩
theorem my_X11_two : xMy Y_X11_two 6 := ⟨m_1067, m_108, (xmi (yX11_two, 6) (List.mem_of_getElem? (i := 173) rfl)).1, (xmi (yX11_two, 6) (List.mem_of_getElem? (i := 173) rfl)).2⟩
theorem my_X11_outTwo : xMy Y_X11_outTwo 5 := ⟨m_1083, m_108, (xmi (yX11_outTwo, 5) (List.mem_of_getElem? (i := 174) rfl)).1, (xmi (yX11_outTwo, 5) (List.mem_of_getElem? (i := 174) rfl)).2⟩
theorem my_X11_rest : xMy Y_X11_rest 3 := ⟨m_1087, m_108, (xmi (yX11_rest, 3) (List.mem_of_getElem? (i := 175) rfl)).1, (xmi (yX11_rest, 3) (List.mem_of_getElem? (i := 175) rfl)).2⟩
theorem my_X11_lost : xMy Y_X11_lost 0 := ⟨m_1159, m_108, (xmi (yX11_lost, 0) (List.mem_of_getElem? (i := 176) rfl)).1, (xmi (yX11_lost, 0) (List.mem_of_getElem? (i := 176) rfl)).2⟩
theorem my_X11_seed : xMy Y_X11_seed 1 := ⟨m_1173, m_108, (xmi (yX11_seed, 1) (List.mem_of_getElem? (i := 177) rfl)).1, (xmi (yX11_seed, 1) (List.mem_of_getElem? (i := 177) rfl)).2⟩
theorem my_X11_draw : xMy Y_X11_draw 2 := ⟨m_1182, m_108, (xmi (yX11_draw, 2) (List.mem_of_getElem? (i := 178) rfl)).1, (xmi (yX11_draw, 2) (List.mem_of_getElem? (i := 178) rfl)).2⟩
theorem my_X11_check : xMy Y_X11_check 1 := ⟨m_1202, m_108, (xmi (yX11_check, 1) (List.mem_of_getElem? (i := 179) rfl)).1, (xmi (yX11_check, 1) (List.mem_of_getElem? (i := 179) rfl)).2⟩
theorem my_X11_count : xMy Y_X11_count 1 := ⟨m_1215, m_108, (xmi (yX11_count, 1) (List.mem_of_getElem? (i := 180) rfl)).1, (xmi (yX11_count, 1) (List.mem_of_getElem? (i := 180) rfl)).2⟩
theorem my_X11_isCase : xMy Y_X11_isCase 3 := ⟨m_669, m_108, (xmi (yX11_isCase, 3) (List.mem_of_getElem? (i := 181) rfl)).1, (xmi (yX11_isCase, 3) (List.mem_of_getElem? (i := 181) rfl)).2⟩
theorem my_X11_inRow : xMy Y_X11_inRow 3 := ⟨m_1070, m_108, (xmi (yX11_inRow, 3) (List.mem_of_getElem? (i := 182) rfl)).1, (xmi (yX11_inRow, 3) (List.mem_of_getElem? (i := 182) rfl)).2⟩
theorem my_X11_minutesOwed : xMy Y_X11_minutesOwed 1 := ⟨m_700, m_108, (xmi (yX11_minutesOwed, 1) (List.mem_of_getElem? (i := 183) rfl)).1, (xmi (yX11_minutesOwed, 1) (List.mem_of_getElem? (i := 183) rfl)).2⟩
theorem my_X11_hundredths : xMy Y_X11_hundredths 1 := ⟨m_729, m_108, (xmi (yX11_hundredths, 1) (List.mem_of_getElem? (i := 184) rfl)).1, (xmi (yX11_hundredths, 1) (List.mem_of_getElem? (i := 184) rfl)).2⟩
theorem my_X11_daysToLapse : xMy Y_X11_daysToLapse 1 := ⟨m_733, m_108, (xmi (yX11_daysToLapse, 1) (List.mem_of_getElem? (i := 185) rfl)).1, (xmi (yX11_daysToLapse, 1) (List.mem_of_getElem? (i := 185) rfl)).2⟩
theorem my_X11_followChain : xMy Y_X11_followChain 3 := ⟨m_741, m_108, (xmi (yX11_followChain, 3) (List.mem_of_getElem? (i := 186) rfl)).1, (xmi (yX11_followChain, 3) (List.mem_of_getElem? (i := 186) rfl)).2⟩
theorem my_X11_noteChain : xMy Y_X11_noteChain 2 := ⟨m_770, m_108, (xmi (yX11_noteChain, 2) (List.mem_of_getElem? (i := 187) rfl)).1, (xmi (yX11_noteChain, 2) (List.mem_of_getElem? (i := 187) rfl)).2⟩
theorem my_X11_within : xMy Y_X11_within 3 := ⟨m_425, m_108, (xmi (yX11_within, 3) (List.mem_of_getElem? (i := 188) rfl)).1, (xmi (yX11_within, 3) (List.mem_of_getElem? (i := 188) rfl)).2⟩
theorem my_X11_isPerson : xMy Y_X11_isPerson 1 := ⟨m_436, m_108, (xmi (yX11_isPerson, 1) (List.mem_of_getElem? (i := 189) rfl)).1, (xmi (yX11_isPerson, 1) (List.mem_of_getElem? (i := 189) rfl)).2⟩
theorem my_X11_held : xMy Y_X11_held 3 := ⟨m_528, m_108, (xmi (yX11_held, 3) (List.mem_of_getElem? (i := 190) rfl)).1, (xmi (yX11_held, 3) (List.mem_of_getElem? (i := 190) rfl)).2⟩
theorem my_X11_whole : xMy Y_X11_whole 2 := ⟨m_1024, m_108, (xmi (yX11_whole, 2) (List.mem_of_getElem? (i := 191) rfl)).1, (xmi (yX11_whole, 2) (List.mem_of_getElem? (i := 191) rfl)).2⟩
theorem my_X11_leftOver : xMy Y_X11_leftOver 2 := ⟨m_1021, m_108, (xmi (yX11_leftOver, 2) (List.mem_of_getElem? (i := 192) rfl)).1, (xmi (yX11_leftOver, 2) (List.mem_of_getElem? (i := 192) rfl)).2⟩
theorem my_X11_commonDivisor : xMy Y_X11_commonDivisor 2 := ⟨m_1018, m_108, (xmi (yX11_commonDivisor, 2) (List.mem_of_getElem? (i := 193) rfl)).1, (xmi (yX11_commonDivisor, 2) (List.mem_of_getElem? (i := 193) rfl)).2⟩
theorem my_X12_init : xMy Y_X12_init 0 := ⟨m_1240, m_120, (xmi (yX12_init, 0) (List.mem_of_getElem? (i := 194) rfl)).1, (xmi (yX12_init, 0) (List.mem_of_getElem? (i := 194) rfl)).2⟩
theorem my_X12_in : xMy Y_X12_in 3 := ⟨m_1447, m_120, (xmi (yX12_in, 3) (List.mem_of_getElem? (i := 195) rfl)).1, (xmi (yX12_in, 3) (List.mem_of_getElem? (i := 195) rfl)).2⟩
theorem my_X12_isPerson : xMy Y_X12_isPerson 1 := ⟨m_1454, m_120, (xmi (yX12_isPerson, 1) (List.mem_of_getElem? (i := 196) rfl)).1, (xmi (yX12_isPerson, 1) (List.mem_of_getElem? (i := 196) rfl)).2⟩
theorem my_X12_isMeeting : xMy Y_X12_isMeeting 1 := ⟨m_1473, m_120, (xmi (yX12_isMeeting, 1) (List.mem_of_getElem? (i := 197) rfl)).1, (xmi (yX12_isMeeting, 1) (List.mem_of_getElem? (i := 197) rfl)).2⟩
theorem my_X12_isOf : xMy Y_X12_isOf 2 := ⟨m_1469, m_120, (xmi (yX12_isOf, 2) (List.mem_of_getElem? (i := 198) rfl)).1, (xmi (yX12_isOf, 2) (List.mem_of_getElem? (i := 198) rfl)).2⟩
theorem my_X12_now : xMy Y_X12_now 1 := ⟨m_1444, m_120, (xmi (yX12_now, 1) (List.mem_of_getElem? (i := 199) rfl)).1, (xmi (yX12_now, 1) (List.mem_of_getElem? (i := 199) rfl)).2⟩
theorem my_X12_worth : xMy Y_X12_worth 3 := ⟨m_1451, m_120, (xmi (yX12_worth, 3) (List.mem_of_getElem? (i := 200) rfl)).1, (xmi (yX12_worth, 3) (List.mem_of_getElem? (i := 200) rfl)).2⟩
theorem my_X12_bits : xMy Y_X12_bits 1 := ⟨m_1461, m_120, (xmi (yX12_bits, 1) (List.mem_of_getElem? (i := 201) rfl)).1, (xmi (yX12_bits, 1) (List.mem_of_getElem? (i := 201) rfl)).2⟩
theorem my_X12_meeting : xMy Y_X12_meeting 3 := ⟨m_1458, m_120, (xmi (yX12_meeting, 3) (List.mem_of_getElem? (i := 202) rfl)).1, (xmi (yX12_meeting, 3) (List.mem_of_getElem? (i := 202) rfl)).2⟩
theorem my_X12_came : xMy Y_X12_came 3 := ⟨m_1465, m_120, (xmi (yX12_came, 3) (List.mem_of_getElem? (i := 203) rfl)).1, (xmi (yX12_came, 3) (List.mem_of_getElem? (i := 203) rfl)).2⟩
theorem my_X12_allCame : xMy Y_X12_allCame 1 := ⟨m_1481, m_120, (xmi (yX12_allCame, 1) (List.mem_of_getElem? (i := 204) rfl)).1, (xmi (yX12_allCame, 1) (List.mem_of_getElem? (i := 204) rfl)).2⟩
theorem my_X12_beginsAt : xMy Y_X12_beginsAt 1 := ⟨m_1485, m_120, (xmi (yX12_beginsAt, 1) (List.mem_of_getElem? (i := 205) rfl)).1, (xmi (yX12_beginsAt, 1) (List.mem_of_getElem? (i := 205) rfl)).2⟩
theorem my_X12_begins : xMy Y_X12_begins 1 := ⟨m_1477, m_120, (xmi (yX12_begins, 1) (List.mem_of_getElem? (i := 206) rfl)).1, (xmi (yX12_begins, 1) (List.mem_of_getElem? (i := 206) rfl)).2⟩
theorem my_X12_lateAt : xMy Y_X12_lateAt 2 := ⟨m_1505, m_120, (xmi (yX12_lateAt, 2) (List.mem_of_getElem? (i := 207) rfl)).1, (xmi (yX12_lateAt, 2) (List.mem_of_getElem? (i := 207) rfl)).2⟩
theorem my_X12_keepsAt : xMy Y_X12_keepsAt 3 := ⟨m_1493, m_120, (xmi (yX12_keepsAt, 3) (List.mem_of_getElem? (i := 208) rfl)).1, (xmi (yX12_keepsAt, 3) (List.mem_of_getElem? (i := 208) rfl)).2⟩
theorem my_X12_keeps : xMy Y_X12_keeps 3 := ⟨m_1489, m_120, (xmi (yX12_keeps, 3) (List.mem_of_getElem? (i := 209) rfl)).1, (xmi (yX12_keeps, 3) (List.mem_of_getElem? (i := 209) rfl)).2⟩
theorem my_X12_keeperOf : xMy Y_X12_keeperOf 1 := ⟨m_1513, m_120, (xmi (yX12_keeperOf, 1) (List.mem_of_getElem? (i := 210) rfl)).1, (xmi (yX12_keeperOf, 1) (List.mem_of_getElem? (i := 210) rfl)).2⟩
theorem my_X12_isKeeping : xMy Y_X12_isKeeping 3 := ⟨m_1509, m_120, (xmi (yX12_isKeeping, 3) (List.mem_of_getElem? (i := 211) rfl)).1, (xmi (yX12_isKeeping, 3) (List.mem_of_getElem? (i := 211) rfl)).2⟩
theorem my_X12_keptBy : xMy Y_X12_keptBy 2 := ⟨m_1501, m_120, (xmi (yX12_keptBy, 2) (List.mem_of_getElem? (i := 212) rfl)).1, (xmi (yX12_keptBy, 2) (List.mem_of_getElem? (i := 212) rfl)).2⟩
theorem my_X12_kept : xMy Y_X12_kept 3 := ⟨m_1497, m_120, (xmi (yX12_kept, 3) (List.mem_of_getElem? (i := 213) rfl)).1, (xmi (yX12_kept, 3) (List.mem_of_getElem? (i := 213) rfl)).2⟩
theorem my_X12_types : xMy Y_X12_types 1 := ⟨m_1521, m_120, (xmi (yX12_types, 1) (List.mem_of_getElem? (i := 214) rfl)).1, (xmi (yX12_types, 1) (List.mem_of_getElem? (i := 214) rfl)).2⟩
theorem my_X12_feed : xMy Y_X12_feed 5 := ⟨m_1517, m_120, (xmi (yX12_feed, 5) (List.mem_of_getElem? (i := 215) rfl)).1, (xmi (yX12_feed, 5) (List.mem_of_getElem? (i := 215) rfl)).2⟩
theorem my_X12_here : xMy Y_X12_here 0 := ⟨m_1533, m_120, (xmi (yX12_here, 0) (List.mem_of_getElem? (i := 216) rfl)).1, (xmi (yX12_here, 0) (List.mem_of_getElem? (i := 216) rfl)).2⟩
theorem my_X12_isDigit : xMy Y_X12_isDigit 0 := ⟨m_1554, m_120, (xmi (yX12_isDigit, 0) (List.mem_of_getElem? (i := 217) rfl)).1, (xmi (yX12_isDigit, 0) (List.mem_of_getElem? (i := 217) rfl)).2⟩
theorem my_X12_wrongAt : xMy Y_X12_wrongAt 2 := ⟨m_1537, m_120, (xmi (yX12_wrongAt, 2) (List.mem_of_getElem? (i := 218) rfl)).1, (xmi (yX12_wrongAt, 2) (List.mem_of_getElem? (i := 218) rfl)).2⟩
theorem my_X12_takes : xMy Y_X12_takes 1 := ⟨m_1604, m_120, (xmi (yX12_takes, 1) (List.mem_of_getElem? (i := 219) rfl)).1, (xmi (yX12_takes, 1) (List.mem_of_getElem? (i := 219) rfl)).2⟩
theorem my_X12_readsNumber : xMy Y_X12_readsNumber 0 := ⟨m_1558, m_120, (xmi (yX12_readsNumber, 0) (List.mem_of_getElem? (i := 220) rfl)).1, (xmi (yX12_readsNumber, 0) (List.mem_of_getElem? (i := 220) rfl)).2⟩
theorem my_X12_notes : xMy Y_X12_notes 2 := ⟨m_1562, m_120, (xmi (yX12_notes, 2) (List.mem_of_getElem? (i := 221) rfl)).1, (xmi (yX12_notes, 2) (List.mem_of_getElem? (i := 221) rfl)).2⟩
theorem my_X12_opens : xMy Y_X12_opens 1 := ⟨m_1549, m_120, (xmi (yX12_opens, 1) (List.mem_of_getElem? (i := 222) rfl)).1, (xmi (yX12_opens, 1) (List.mem_of_getElem? (i := 222) rfl)).2⟩
theorem my_X12_top : xMy Y_X12_top 0 := ⟨m_1576, m_120, (xmi (yX12_top, 0) (List.mem_of_getElem? (i := 223) rfl)).1, (xmi (yX12_top, 0) (List.mem_of_getElem? (i := 223) rfl)).2⟩
theorem my_X12_factOf : xMy Y_X12_factOf 1 := ⟨m_1565, m_120, (xmi (yX12_factOf, 1) (List.mem_of_getElem? (i := 224) rfl)).1, (xmi (yX12_factOf, 1) (List.mem_of_getElem? (i := 224) rfl)).2⟩
theorem my_X12_sumSign : xMy Y_X12_sumSign 1 := ⟨m_1568, m_120, (xmi (yX12_sumSign, 1) (List.mem_of_getElem? (i := 225) rfl)).1, (xmi (yX12_sumSign, 1) (List.mem_of_getElem? (i := 225) rfl)).2⟩
theorem my_X12_closesSums : xMy Y_X12_closesSums 1 := ⟨m_1572, m_120, (xmi (yX12_closesSums, 1) (List.mem_of_getElem? (i := 226) rfl)).1, (xmi (yX12_closesSums, 1) (List.mem_of_getElem? (i := 226) rfl)).2⟩
theorem my_X12_readsFactor : xMy Y_X12_readsFactor 0 := ⟨m_1545, m_120, (xmi (yX12_readsFactor, 0) (List.mem_of_getElem? (i := 227) rfl)).1, (xmi (yX12_readsFactor, 0) (List.mem_of_getElem? (i := 227) rfl)).2⟩
theorem my_X12_hasOpenSum : xMy Y_X12_hasOpenSum 1 := ⟨m_1580, m_120, (xmi (yX12_hasOpenSum, 1) (List.mem_of_getElem? (i := 228) rfl)).1, (xmi (yX12_hasOpenSum, 1) (List.mem_of_getElem? (i := 228) rfl)).2⟩
theorem my_X12_readsSum : xMy Y_X12_readsSum 0 := ⟨m_1541, m_120, (xmi (yX12_readsSum, 0) (List.mem_of_getElem? (i := 229) rfl)).1, (xmi (yX12_readsSum, 0) (List.mem_of_getElem? (i := 229) rfl)).2⟩
theorem my_X12_endsPiece : xMy Y_X12_endsPiece 0 := ⟨m_1592, m_120, (xmi (yX12_endsPiece, 0) (List.mem_of_getElem? (i := 230) rfl)).1, (xmi (yX12_endsPiece, 0) (List.mem_of_getElem? (i := 230) rfl)).2⟩
theorem my_X12_lands : xMy Y_X12_lands 1 := ⟨m_1596, m_120, (xmi (yX12_lands, 1) (List.mem_of_getElem? (i := 231) rfl)).1, (xmi (yX12_lands, 1) (List.mem_of_getElem? (i := 231) rfl)).2⟩
theorem my_X12_jumps : xMy Y_X12_jumps 1 := ⟨m_1600, m_120, (xmi (yX12_jumps, 1) (List.mem_of_getElem? (i := 232) rfl)).1, (xmi (yX12_jumps, 1) (List.mem_of_getElem? (i := 232) rfl)).2⟩
theorem my_X12_readsCompared : xMy Y_X12_readsCompared 0 := ⟨m_1588, m_120, (xmi (yX12_readsCompared, 0) (List.mem_of_getElem? (i := 233) rfl)).1, (xmi (yX12_readsCompared, 0) (List.mem_of_getElem? (i := 233) rfl)).2⟩
theorem my_X12_readsCondition : xMy Y_X12_readsCondition 0 := ⟨m_1584, m_120, (xmi (yX12_readsCondition, 0) (List.mem_of_getElem? (i := 234) rfl)).1, (xmi (yX12_readsCondition, 0) (List.mem_of_getElem? (i := 234) rfl)).2⟩
theorem my_X12_readsClause : xMy Y_X12_readsClause 0 := ⟨m_1529, m_120, (xmi (yX12_readsClause, 0) (List.mem_of_getElem? (i := 235) rfl)).1, (xmi (yX12_readsClause, 0) (List.mem_of_getElem? (i := 235) rfl)).2⟩
theorem my_X12_law : xMy Y_X12_law 1 := ⟨m_1525, m_120, (xmi (yX12_law, 1) (List.mem_of_getElem? (i := 236) rfl)).1, (xmi (yX12_law, 1) (List.mem_of_getElem? (i := 236) rfl)).2⟩
theorem my_X12_reckon : xMy Y_X12_reckon 3 := ⟨m_1631, m_120, (xmi (yX12_reckon, 3) (List.mem_of_getElem? (i := 237) rfl)).1, (xmi (yX12_reckon, 3) (List.mem_of_getElem? (i := 237) rfl)).2⟩
theorem my_X12_comesTo : xMy Y_X12_comesTo 2 := ⟨m_1628, m_120, (xmi (yX12_comesTo, 2) (List.mem_of_getElem? (i := 238) rfl)).1, (xmi (yX12_comesTo, 2) (List.mem_of_getElem? (i := 238) rfl)).2⟩
theorem my_X12_byLaw : xMy Y_X12_byLaw 2 := ⟨m_1624, m_120, (xmi (yX12_byLaw, 2) (List.mem_of_getElem? (i := 239) rfl)).1, (xmi (yX12_byLaw, 2) (List.mem_of_getElem? (i := 239) rfl)).2⟩
theorem my_X12_feels : xMy Y_X12_feels 3 := ⟨m_1620, m_120, (xmi (yX12_feels, 3) (List.mem_of_getElem? (i := 240) rfl)).1, (xmi (yX12_feels, 3) (List.mem_of_getElem? (i := 240) rfl)).2⟩
theorem my_X12_owesBy : xMy Y_X12_owesBy 4 := ⟨m_1616, m_120, (xmi (yX12_owesBy, 4) (List.mem_of_getElem? (i := 241) rfl)).1, (xmi (yX12_owesBy, 4) (List.mem_of_getElem? (i := 241) rfl)).2⟩
theorem my_X12_areTwo : xMy Y_X12_areTwo 3 := ⟨m_1612, m_120, (xmi (yX12_areTwo, 3) (List.mem_of_getElem? (i := 242) rfl)).1, (xmi (yX12_areTwo, 3) (List.mem_of_getElem? (i := 242) rfl)).2⟩
theorem my_X12_owes : xMy Y_X12_owes 4 := ⟨m_1608, m_120, (xmi (yX12_owes, 4) (List.mem_of_getElem? (i := 243) rfl)).1, (xmi (yX12_owes, 4) (List.mem_of_getElem? (i := 243) rfl)).2⟩
theorem my_X12_chains : xMy Y_X12_chains 3 := ⟨m_1639, m_120, (xmi (yX12_chains, 3) (List.mem_of_getElem? (i := 244) rfl)).1, (xmi (yX12_chains, 3) (List.mem_of_getElem? (i := 244) rfl)).2⟩
theorem my_X12_chain : xMy Y_X12_chain 4 := ⟨m_1635, m_120, (xmi (yX12_chain, 4) (List.mem_of_getElem? (i := 245) rfl)).1, (xmi (yX12_chain, 4) (List.mem_of_getElem? (i := 245) rfl)).2⟩
theorem my_X12_makes : xMy Y_X12_makes 5 := ⟨m_1651, m_120, (xmi (yX12_makes, 5) (List.mem_of_getElem? (i := 246) rfl)).1, (xmi (yX12_makes, 5) (List.mem_of_getElem? (i := 246) rfl)).2⟩
theorem my_X12_goesOver : xMy Y_X12_goesOver 2 := ⟨m_1647, m_120, (xmi (yX12_goesOver, 2) (List.mem_of_getElem? (i := 247) rfl)).1, (xmi (yX12_goesOver, 2) (List.mem_of_getElem? (i := 247) rfl)).2⟩
theorem my_X12_settle : xMy Y_X12_settle 1 := ⟨m_1643, m_120, (xmi (yX12_settle, 1) (List.mem_of_getElem? (i := 248) rfl)).1, (xmi (yX12_settle, 1) (List.mem_of_getElem? (i := 248) rfl)).2⟩
theorem my_X12_isNote : xMy Y_X12_isNote 1 := ⟨m_1659, m_120, (xmi (yX12_isNote, 1) (List.mem_of_getElem? (i := 249) rfl)).1, (xmi (yX12_isNote, 1) (List.mem_of_getElem? (i := 249) rfl)).2⟩
theorem my_X12_isLiveOn : xMy Y_X12_isLiveOn 2 := ⟨m_1667, m_120, (xmi (yX12_isLiveOn, 2) (List.mem_of_getElem? (i := 250) rfl)).1, (xmi (yX12_isLiveOn, 2) (List.mem_of_getElem? (i := 250) rfl)).2⟩
theorem my_X12_isLive : xMy Y_X12_isLive 1 := ⟨m_1663, m_120, (xmi (yX12_isLive, 1) (List.mem_of_getElem? (i := 251) rfl)).1, (xmi (yX12_isLive, 1) (List.mem_of_getElem? (i := 251) rfl)).2⟩
theorem my_X12_noteIs : xMy Y_X12_noteIs 2 := ⟨m_1655, m_120, (xmi (yX12_noteIs, 2) (List.mem_of_getElem? (i := 252) rfl)).1, (xmi (yX12_noteIs, 2) (List.mem_of_getElem? (i := 252) rfl)).2⟩
theorem my_X12_hand : xMy Y_X12_hand 2 := ⟨m_1671, m_120, (xmi (yX12_hand, 2) (List.mem_of_getElem? (i := 253) rfl)).1, (xmi (yX12_hand, 2) (List.mem_of_getElem? (i := 253) rfl)).2⟩
theorem my_X12_cut : xMy Y_X12_cut 2 := ⟨m_1675, m_120, (xmi (yX12_cut, 2) (List.mem_of_getElem? (i := 254) rfl)).1, (xmi (yX12_cut, 2) (List.mem_of_getElem? (i := 254) rfl)).2⟩
theorem my_X12_take : xMy Y_X12_take 3 := ⟨m_1679, m_120, (xmi (yX12_take, 3) (List.mem_of_getElem? (i := 255) rfl)).1, (xmi (yX12_take, 3) (List.mem_of_getElem? (i := 255) rfl)).2⟩
theorem my_X12_owed : xMy Y_X12_owed 2 := ⟨m_1683, m_120, (xmi (yX12_owed, 2) (List.mem_of_getElem? (i := 256) rfl)).1, (xmi (yX12_owed, 2) (List.mem_of_getElem? (i := 256) rfl)).2⟩
theorem my_X12_dearest : xMy Y_X12_dearest 2 := ⟨m_1692, m_120, (xmi (yX12_dearest, 2) (List.mem_of_getElem? (i := 257) rfl)).1, (xmi (yX12_dearest, 2) (List.mem_of_getElem? (i := 257) rfl)).2⟩
theorem my_X12_called : xMy Y_X12_called 2 := ⟨m_1687, m_120, (xmi (yX12_called, 2) (List.mem_of_getElem? (i := 258) rfl)).1, (xmi (yX12_called, 2) (List.mem_of_getElem? (i := 258) rfl)).2⟩
theorem my_X12_balances : xMy Y_X12_balances 0 := ⟨m_1700, m_120, (xmi (yX12_balances, 0) (List.mem_of_getElem? (i := 259) rfl)).1, (xmi (yX12_balances, 0) (List.mem_of_getElem? (i := 259) rfl)).2⟩
theorem my_X12_measures : xMy Y_X12_measures 0 := ⟨m_1705, m_120, (xmi (yX12_measures, 0) (List.mem_of_getElem? (i := 260) rfl)).1, (xmi (yX12_measures, 0) (List.mem_of_getElem? (i := 260) rfl)).2⟩
theorem my_X12_stepOn : xMy Y_X12_stepOn 2 := ⟨m_1717, m_120, (xmi (yX12_stepOn, 2) (List.mem_of_getElem? (i := 261) rfl)).1, (xmi (yX12_stepOn, 2) (List.mem_of_getElem? (i := 261) rfl)).2⟩
theorem my_X12_goesTo : xMy Y_X12_goesTo 1 := ⟨m_1713, m_120, (xmi (yX12_goesTo, 1) (List.mem_of_getElem? (i := 262) rfl)).1, (xmi (yX12_goesTo, 1) (List.mem_of_getElem? (i := 262) rfl)).2⟩
theorem my_X12_nearestGetter : xMy Y_X12_nearestGetter 0 := ⟨m_1709, m_120, (xmi (yX12_nearestGetter, 0) (List.mem_of_getElem? (i := 263) rfl)).1, (xmi (yX12_nearestGetter, 0) (List.mem_of_getElem? (i := 263) rfl)).2⟩
theorem my_X12_round : xMy Y_X12_round 0 := ⟨m_1696, m_120, (xmi (yX12_round, 0) (List.mem_of_getElem? (i := 264) rfl)).1, (xmi (yX12_round, 0) (List.mem_of_getElem? (i := 264) rfl)).2⟩
theorem my_X12_takings : xMy Y_X12_takings 0 := ⟨m_1721, m_120, (xmi (yX12_takings, 0) (List.mem_of_getElem? (i := 265) rfl)).1, (xmi (yX12_takings, 0) (List.mem_of_getElem? (i := 265) rfl)).2⟩
theorem my_X12_end : xMy Y_X12_end 3 := ⟨m_1725, m_120, (xmi (yX12_end, 3) (List.mem_of_getElem? (i := 266) rfl)).1, (xmi (yX12_end, 3) (List.mem_of_getElem? (i := 266) rfl)).2⟩
theorem my_X12_bridge : xMy Y_X12_bridge 3 := ⟨m_1729, m_120, (xmi (yX12_bridge, 3) (List.mem_of_getElem? (i := 267) rfl)).1, (xmi (yX12_bridge, 3) (List.mem_of_getElem? (i := 267) rfl)).2⟩
theorem my_X12_isCrossing : xMy Y_X12_isCrossing 1 := ⟨m_1737, m_120, (xmi (yX12_isCrossing, 1) (List.mem_of_getElem? (i := 268) rfl)).1, (xmi (yX12_isCrossing, 1) (List.mem_of_getElem? (i := 268) rfl)).2⟩
theorem my_X12_crosses : xMy Y_X12_crosses 2 := ⟨m_1733, m_120, (xmi (yX12_crosses, 2) (List.mem_of_getElem? (i := 269) rfl)).1, (xmi (yX12_crosses, 2) (List.mem_of_getElem? (i := 269) rfl)).2⟩
theorem my_X12_endsOf : xMy Y_X12_endsOf 1 := ⟨m_1753, m_120, (xmi (yX12_endsOf, 1) (List.mem_of_getElem? (i := 270) rfl)).1, (xmi (yX12_endsOf, 1) (List.mem_of_getElem? (i := 270) rfl)).2⟩
theorem my_X12_weightAt : xMy Y_X12_weightAt 2 := ⟨m_1761, m_120, (xmi (yX12_weightAt, 2) (List.mem_of_getElem? (i := 271) rfl)).1, (xmi (yX12_weightAt, 2) (List.mem_of_getElem? (i := 271) rfl)).2⟩
theorem my_X12_wayAt : xMy Y_X12_wayAt 3 := ⟨m_1757, m_120, (xmi (yX12_wayAt, 3) (List.mem_of_getElem? (i := 272) rfl)).1, (xmi (yX12_wayAt, 3) (List.mem_of_getElem? (i := 272) rfl)).2⟩
theorem my_X12_weightsOf : xMy Y_X12_weightsOf 1 := ⟨m_1765, m_120, (xmi (yX12_weightsOf, 1) (List.mem_of_getElem? (i := 273) rfl)).1, (xmi (yX12_weightsOf, 1) (List.mem_of_getElem? (i := 273) rfl)).2⟩
theorem my_X12_bridgeWeight : xMy Y_X12_bridgeWeight 1 := ⟨m_1745, m_120, (xmi (yX12_bridgeWeight, 1) (List.mem_of_getElem? (i := 274) rfl)).1, (xmi (yX12_bridgeWeight, 1) (List.mem_of_getElem? (i := 274) rfl)).2⟩
theorem my_X12_lateWeight : xMy Y_X12_lateWeight 3 := ⟨m_1749, m_120, (xmi (yX12_lateWeight, 3) (List.mem_of_getElem? (i := 275) rfl)).1, (xmi (yX12_lateWeight, 3) (List.mem_of_getElem? (i := 275) rfl)).2⟩
theorem my_X12_gcd : xMy Y_X12_gcd 2 := ⟨m_1768, m_120, (xmi (yX12_gcd, 2) (List.mem_of_getElem? (i := 276) rfl)).1, (xmi (yX12_gcd, 2) (List.mem_of_getElem? (i := 276) rfl)).2⟩
theorem my_X12_lateIf : xMy Y_X12_lateIf 3 := ⟨m_1741, m_120, (xmi (yX12_lateIf, 3) (List.mem_of_getElem? (i := 277) rfl)).1, (xmi (yX12_lateIf, 3) (List.mem_of_getElem? (i := 277) rfl)).2⟩
theorem my_X12_hangs : xMy Y_X12_hangs 4 := ⟨m_1776, m_120, (xmi (yX12_hangs, 4) (List.mem_of_getElem? (i := 278) rfl)).1, (xmi (yX12_hangs, 4) (List.mem_of_getElem? (i := 278) rfl)).2⟩
theorem my_X12_hang : xMy Y_X12_hang 3 := ⟨m_1772, m_120, (xmi (yX12_hang, 3) (List.mem_of_getElem? (i := 279) rfl)).1, (xmi (yX12_hang, 3) (List.mem_of_getElem? (i := 279) rfl)).2⟩
theorem my_X12_worthAt : xMy Y_X12_worthAt 2 := ⟨m_1796, m_120, (xmi (yX12_worthAt, 2) (List.mem_of_getElem? (i := 280) rfl)).1, (xmi (yX12_worthAt, 2) (List.mem_of_getElem? (i := 280) rfl)).2⟩
theorem my_X12_comingCost : xMy Y_X12_comingCost 4 := ⟨m_1792, m_120, (xmi (yX12_comingCost, 4) (List.mem_of_getElem? (i := 281) rfl)).1, (xmi (yX12_comingCost, 4) (List.mem_of_getElem? (i := 281) rfl)).2⟩
theorem my_X12_costWith : xMy Y_X12_costWith 5 := ⟨m_1788, m_120, (xmi (yX12_costWith, 5) (List.mem_of_getElem? (i := 282) rfl)).1, (xmi (yX12_costWith, 5) (List.mem_of_getElem? (i := 282) rfl)).2⟩
theorem my_X12_costOf : xMy Y_X12_costOf 4 := ⟨m_1784, m_120, (xmi (yX12_costOf, 4) (List.mem_of_getElem? (i := 283) rfl)).1, (xmi (yX12_costOf, 4) (List.mem_of_getElem? (i := 283) rfl)).2⟩
theorem my_X12_cost : xMy Y_X12_cost 4 := ⟨m_1780, m_120, (xmi (yX12_cost, 4) (List.mem_of_getElem? (i := 284) rfl)).1, (xmi (yX12_cost, 4) (List.mem_of_getElem? (i := 284) rfl)).2⟩
theorem my_X12_out : xMy Y_X12_out 3 := ⟨m_1800, m_120, (xmi (yX12_out, 3) (List.mem_of_getElem? (i := 285) rfl)).1, (xmi (yX12_out, 3) (List.mem_of_getElem? (i := 285) rfl)).2⟩
theorem my_X12_twoWith : xMy Y_X12_twoWith 7 := ⟨m_1816, m_120, (xmi (yX12_twoWith, 7) (List.mem_of_getElem? (i := 286) rfl)).1, (xmi (yX12_twoWith, 7) (List.mem_of_getElem? (i := 286) rfl)).2⟩
theorem my_X12_areInRow : xMy Y_X12_areInRow 5 := ⟨m_1808, m_120, (xmi (yX12_areInRow, 5) (List.mem_of_getElem? (i := 287) rfl)).1, (xmi (yX12_areInRow, 5) (List.mem_of_getElem? (i := 287) rfl)).2⟩
theorem my_X12_twoOf : xMy Y_X12_twoOf 6 := ⟨m_1812, m_120, (xmi (yX12_twoOf, 6) (List.mem_of_getElem? (i := 288) rfl)).1, (xmi (yX12_twoOf, 6) (List.mem_of_getElem? (i := 288) rfl)).2⟩
theorem my_X12_two : xMy Y_X12_two 6 := ⟨m_1804, m_120, (xmi (yX12_two, 6) (List.mem_of_getElem? (i := 289) rfl)).1, (xmi (yX12_two, 6) (List.mem_of_getElem? (i := 289) rfl)).2⟩
theorem my_X12_outTwo : xMy Y_X12_outTwo 5 := ⟨m_1820, m_120, (xmi (yX12_outTwo, 5) (List.mem_of_getElem? (i := 290) rfl)).1, (xmi (yX12_outTwo, 5) (List.mem_of_getElem? (i := 290) rfl)).2⟩
theorem my_X12_laysGoers : xMy Y_X12_laysGoers 1 := ⟨m_1828, m_120, (xmi (yX12_laysGoers, 1) (List.mem_of_getElem? (i := 291) rfl)).1, (xmi (yX12_laysGoers, 1) (List.mem_of_getElem? (i := 291) rfl)).2⟩
theorem my_X12_dayCost : xMy Y_X12_dayCost 3 := ⟨m_1840, m_120, (xmi (yX12_dayCost, 3) (List.mem_of_getElem? (i := 292) rfl)).1, (xmi (yX12_dayCost, 3) (List.mem_of_getElem? (i := 292) rfl)).2⟩
theorem my_X12_allWith : xMy Y_X12_allWith 4 := ⟨m_1836, m_120, (xmi (yX12_allWith, 4) (List.mem_of_getElem? (i := 293) rfl)).1, (xmi (yX12_allWith, 4) (List.mem_of_getElem? (i := 293) rfl)).2⟩
theorem my_X12_changes : xMy Y_X12_changes 3 := ⟨m_1832, m_120, (xmi (yX12_changes, 3) (List.mem_of_getElem? (i := 294) rfl)).1, (xmi (yX12_changes, 3) (List.mem_of_getElem? (i := 294) rfl)).2⟩
theorem my_X12_rest : xMy Y_X12_rest 3 := ⟨m_1824, m_120, (xmi (yX12_rest, 3) (List.mem_of_getElem? (i := 295) rfl)).1, (xmi (yX12_rest, 3) (List.mem_of_getElem? (i := 295) rfl)).2⟩
theorem my_X12_lost : xMy Y_X12_lost 0 := ⟨m_1844, m_120, (xmi (yX12_lost, 0) (List.mem_of_getElem? (i := 296) rfl)).1, (xmi (yX12_lost, 0) (List.mem_of_getElem? (i := 296) rfl)).2⟩
theorem my_X12_seed : xMy Y_X12_seed 1 := ⟨m_1848, m_120, (xmi (yX12_seed, 1) (List.mem_of_getElem? (i := 297) rfl)).1, (xmi (yX12_seed, 1) (List.mem_of_getElem? (i := 297) rfl)).2⟩
theorem my_X12_draws : xMy Y_X12_draws 0 := ⟨m_1857, m_120, (xmi (yX12_draws, 0) (List.mem_of_getElem? (i := 298) rfl)).1, (xmi (yX12_draws, 0) (List.mem_of_getElem? (i := 298) rfl)).2⟩
theorem my_X12_drawnEnd : xMy Y_X12_drawnEnd 1 := ⟨m_1862, m_120, (xmi (yX12_drawnEnd, 1) (List.mem_of_getElem? (i := 299) rfl)).1, (xmi (yX12_drawnEnd, 1) (List.mem_of_getElem? (i := 299) rfl)).2⟩
theorem my_X12_draw : xMy Y_X12_draw 2 := ⟨m_1853, m_120, (xmi (yX12_draw, 2) (List.mem_of_getElem? (i := 300) rfl)).1, (xmi (yX12_draw, 2) (List.mem_of_getElem? (i := 300) rfl)).2⟩
theorem my_X12_tapeNumber : xMy Y_X12_tapeNumber 1 := ⟨m_1870, m_120, (xmi (yX12_tapeNumber, 1) (List.mem_of_getElem? (i := 301) rfl)).1, (xmi (yX12_tapeNumber, 1) (List.mem_of_getElem? (i := 301) rfl)).2⟩
theorem my_X12_noteNumber : xMy Y_X12_noteNumber 2 := ⟨m_1874, m_120, (xmi (yX12_noteNumber, 2) (List.mem_of_getElem? (i := 302) rfl)).1, (xmi (yX12_noteNumber, 2) (List.mem_of_getElem? (i := 302) rfl)).2⟩
theorem my_X12_check : xMy Y_X12_check 1 := ⟨m_1866, m_120, (xmi (yX12_check, 1) (List.mem_of_getElem? (i := 303) rfl)).1, (xmi (yX12_check, 1) (List.mem_of_getElem? (i := 303) rfl)).2⟩
theorem my_X12_count : xMy Y_X12_count 1 := ⟨m_1878, m_120, (xmi (yX12_count, 1) (List.mem_of_getElem? (i := 304) rfl)).1, (xmi (yX12_count, 1) (List.mem_of_getElem? (i := 304) rfl)).2⟩
theorem my_J6_bitCount_0f7a4 : xMy Y_J6_bitCount_0f7a4 1 := ⟨m_450, m_121, (xmi (yJ6_bitCount_0f7a4, 1) (List.mem_of_getElem? (i := 305) rfl)).1, (xmi (yJ6_bitCount_0f7a4, 1) (List.mem_of_getElem? (i := 305) rfl)).2⟩
theorem my_J9_max_7cf53 : xMy Y_J9_max_7cf53 2 := ⟨m_534, m_123, (xmi (yJ9_max_7cf53, 2) (List.mem_of_getElem? (i := 306) rfl)).1, (xmi (yJ9_max_7cf53, 2) (List.mem_of_getElem? (i := 306) rfl)).2⟩
theorem my_J9_min_7cf53 : xMy Y_J9_min_7cf53 2 := ⟨m_531, m_123, (xmi (yJ9_min_7cf53, 2) (List.mem_of_getElem? (i := 307) rfl)).1, (xmi (yJ9_min_7cf53, 2) (List.mem_of_getElem? (i := 307) rfl)).2⟩
theorem my_J7_fill_d0a16 : xMy Y_J7_fill_d0a16 2 := ⟨m_1039, m_113, (xmi (yJ7_fill_d0a16, 2) (List.mem_of_getElem? (i := 308) rfl)).1, (xmi (yJ7_fill_d0a16, 2) (List.mem_of_getElem? (i := 308) rfl)).2⟩
theorem my_J7_fill_53178 : xMy Y_J7_fill_53178 2 := ⟨m_212, m_113, (xmi (yJ7_fill_53178, 2) (List.mem_of_getElem? (i := 309) rfl)).1, (xmi (yJ7_fill_53178, 2) (List.mem_of_getElem? (i := 309) rfl)).2⟩
