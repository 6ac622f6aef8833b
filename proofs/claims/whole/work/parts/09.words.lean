/-! Method descriptors and the words that they need, by program (wip/whole/gen_tab.py). -/
theorem jnX0 : ∀ w ∈ u_ws RX0 TX0 5, w ∈ j_ws := fun w h => j_in (inX0 w h) (List.all_eq_true.mp (by decide +kernel : (u_ws RX0 TX0 5).all goodWord = true) w h)
theorem jnX1 : ∀ w ∈ u_ws RX1 TX1 12, w ∈ j_ws := fun w h => j_in (inX1 w h) (List.all_eq_true.mp (by decide +kernel : (u_ws RX1 TX1 12).all goodWord = true) w h)
theorem jnX2 : ∀ w ∈ u_ws RX2 TX2 2, w ∈ j_ws := fun w h => j_in (inX2 w h) (List.all_eq_true.mp (by decide +kernel : (u_ws RX2 TX2 2).all goodWord = true) w h)
theorem jnX3 : ∀ w ∈ u_ws RX3 TX3 8, w ∈ j_ws := fun w h => j_in (inX3 w h) (List.all_eq_true.mp (by decide +kernel : (u_ws RX3 TX3 8).all goodWord = true) w h)
theorem jnX4 : ∀ w ∈ u_ws RX4 TX4 10, w ∈ j_ws := fun w h => j_in (inX4 w h) (List.all_eq_true.mp (by decide +kernel : (u_ws RX4 TX4 10).all goodWord = true) w h)
def MX0_init : j_M := (RX0, yX0_init, cX0_init, 1, none, 1, 21, [], none, true)
def MX0_copyMill : j_M := (RX0, yX0_copyMill, cX0_copyMill, 2, none, 1, 40, [], none, false)
def MX0_addLot : j_M := (RX0, yX0_addLot, cX0_addLot, 3, none, 1, 21, [], none, false)
def MX0_sacksWaiting : j_M := (RX0, yX0_sacksWaiting, cX0_sacksWaiting, 3, (some .int), 1, 21, [], none, false)
def MX0_sacksWaitingOf : j_M := (RX0, yX0_sacksWaitingOf, cX0_sacksWaitingOf, 4, (some .int), 1, 21, [], none, false)
def MX0_flourOf : j_M := (RX0, yX0_flourOf, cX0_flourOf, 7, (some .int), 1, 21, [], none, false)
def MX0_grind : j_M := (RX0, yX0_grind, cX0_grind, 7, (some .int), 2, 43, [], none, false)
def MX0_dropFirst : j_M := (RX0, yX0_dropFirst, cX0_dropFirst, 3, none, 1, 21, [], none, false)
def MX1_init : j_M := (RX1, yX1_init, cX1_init, 2, none, 2, 41, [], none, true)
def MX1_copyFrom : j_M := (RX1, yX1_copyFrom, cX1_copyFrom, 3, none, 2, 61, [], none, false)
def MX1_vaneAgrees : j_M := (RX1, yX1_vaneAgrees, cX1_vaneAgrees, 6, (some .boolean), 1, 21, [], none, false)
def MX1_committee : j_M := (RX1, yX1_committee, cX1_committee, 3, (some .int), 1, 21, [], none, false)
def MX1_votesIn : j_M := (RX1, yX1_votesIn, cX1_votesIn, 4, (some .int), 2, 46, [], none, false)
def MX1_verdictOf : j_M := (RX1, yX1_verdictOf, cX1_verdictOf, 3, (some .int), 1, 21, [], none, false)
def MX1_verdictIn : j_M := (RX1, yX1_verdictIn, cX1_verdictIn, 2, (some .int), 3, 69, [], none, false)
def MX1_agreeingHours : j_M := (RX1, yX1_agreeingHours, cX1_agreeingHours, 3, (some .int), 4, 90, [], none, false)
def MX1_hoursOfVane : j_M := (RX1, yX1_hoursOfVane, cX1_hoursOfVane, 4, (some .int), 2, 46, [], none, false)
def MX1_hoursTurnedBy : j_M := (RX1, yX1_hoursTurnedBy, cX1_hoursTurnedBy, 10, (some .int), 3, 69, [], none, false)
def MX1_sacksGroundIn : j_M := (RX1, yX1_sacksGroundIn, cX1_sacksGroundIn, 4, (some .int), 4, 90, [], none, false)
def MX1_fillRates : j_M := (RX1, yX1_fillRates, cX1_fillRates, 5, (some .int), 4, 90, [], none, false)
def MX1_passHour : j_M := (RX1, yX1_passHour, cX1_passHour, 4, (some .int), 4, 90, [], none, false)
def MX1_sacksWaiting : j_M := (RX1, yX1_sacksWaiting, cX1_sacksWaiting, 3, (some .int), 2, 43, [], none, false)
def MX1_sacksWaitingOf : j_M := (RX1, yX1_sacksWaitingOf, cX1_sacksWaitingOf, 4, (some .int), 2, 44, [], none, false)
def MX1_flourOfAll : j_M := (RX1, yX1_flourOfAll, cX1_flourOfAll, 3, (some .int), 1, 21, [], none, false)
def MX2_init : j_M := (RX2, yX2_init, cX2_init, 1, none, 1, 21, [], none, true)
def MX2_firstWrong : j_M := (RX2, yX2_firstWrong, cX2_firstWrong, 3, (some .int), 3, 62, [], none, false)
def MX2_isWhole : j_M := (RX2, yX2_isWhole, cX2_isWhole, 3, (some .boolean), 3, 62, [], none, false)
def MX2_blowInto : j_M := (RX2, yX2_blowInto, cX2_blowInto, 7, none, 3, 62, [], none, false)
def MX2_placeAfter : j_M := (RX2, yX2_placeAfter, cX2_placeAfter, 2, (some .int), 2, 41, [], none, false)
def MX2_afterFirstDigit : j_M := (RX2, yX2_afterFirstDigit, cX2_afterFirstDigit, 1, (some .int), 1, 21, [], none, false)
def MX2_afterHour : j_M := (RX2, yX2_afterHour, cX2_afterHour, 1, (some .int), 1, 21, [], none, false)
def MX3_init : j_M := (RX3, yX3_init, cX3_init, 2, none, 3, 62, [], none, true)
def MX3_wind : j_M := (RX3, yX3_wind, cX3_wind, 5, (some .int), 7, 104, [], none, false)
def MX3_vane : j_M := (RX3, yX3_vane, cX3_vane, 5, (some .int), 7, 104, [], none, false)
def MX3_mill : j_M := (RX3, yX3_mill, cX3_mill, 4, (some .int), 7, 104, [], none, false)
def MX3_set : j_M := (RX3, yX3_set, cX3_set, 4, (some .int), 7, 104, [], none, false)
def MX3_bring : j_M := (RX3, yX3_bring, cX3_bring, 5, (some .int), 7, 104, [], none, false)
def MX3_takeBack : j_M := (RX3, yX3_takeBack, cX3_takeBack, 4, (some .int), 7, 103, [], none, false)
def MX3_pass : j_M := (RX3, yX3_pass, cX3_pass, 4, (some .int), 7, 113, [], none, false)
def MX3_append : j_M := (RX3, yX3_append, cX3_append, 2, (some .int), 7, 104, [], none, false)
def MX3_clearBuffer : j_M := (RX3, yX3_clearBuffer, cX3_clearBuffer, 2, (some .int), 1, 21, [], none, false)
def MX3_firstError : j_M := (RX3, yX3_firstError, cX3_firstError, 1, (some .int), 4, 84, [], none, false)
def MX3_load : j_M := (RX3, yX3_load, cX3_load, 1, (some .int), 6, 112, [], none, false)
def MX3_keep : j_M := (RX3, yX3_keep, cX3_keep, 2, (some .int), 7, 104, [], none, false)
def MX3_goBack : j_M := (RX3, yX3_goBack, cX3_goBack, 2, (some .int), 7, 104, [], none, false)
def MX3_undo : j_M := (RX3, yX3_undo, cX3_undo, 1, (some .int), 6, 83, [], none, false)
def MX3_hourOf : j_M := (RX3, yX3_hourOf, cX3_hourOf, 3, (some .int), 7, 113, [], none, false)
def MX3_vaneOf : j_M := (RX3, yX3_vaneOf, cX3_vaneOf, 3, (some .int), 7, 104, [], none, false)
def MX3_millOf : j_M := (RX3, yX3_millOf, cX3_millOf, 4, (some .int), 7, 114, [], none, false)
def MX3_ownerOf : j_M := (RX3, yX3_ownerOf, cX3_ownerOf, 3, (some .int), 7, 104, [], none, false)
def MX3_count : j_M := (RX3, yX3_count, cX3_count, 2, (some .int), 7, 112, [], none, false)
def MX3_setting : j_M := (RX3, yX3_setting, cX3_setting, 2, (some .int), 7, 103, [], none, false)
def MX3_doneIn : j_M := (RX3, yX3_doneIn, cX3_doneIn, 7, (some .int), 7, 114, [], none, false)
def MX3_ifPassed : j_M := (RX3, yX3_ifPassed, cX3_ifPassed, 9, (some .int), 7, 114, [], none, false)
def MX3_turnsIn : j_M := (RX3, yX3_turnsIn, cX3_turnsIn, 2, (some .int), 4, 90, [], none, false)
def MX3_mainVane : j_M := (RX3, yX3_mainVane, cX3_mainVane, 5, (some .int), 4, 98, [], none, false)
def MX3_turnShare : j_M := (RX3, yX3_turnShare, cX3_turnShare, 1, (some .double), 5, 112, [], none, false)
def MX3_digest : j_M := (RX3, yX3_digest, cX3_digest, 5, (some .long), 8, 142, [], none, false)
def MX3_needIndex : j_M := (RX3, yX3_needIndex, cX3_needIndex, 2, none, 6, 82, [], none, false)
def MX3_needRange : j_M := (RX3, yX3_needRange, cX3_needRange, 3, none, 6, 82, [], none, false)
def MX3_saveState : j_M := (RX3, yX3_saveState, cX3_saveState, 1, none, 3, 83, [], none, false)
def MX3_hoursUntilGround : j_M := (RX3, yX3_hoursUntilGround, cX3_hoursUntilGround, 6, (some .int), 1, 21, [], none, false)
def MX3_bitsOf : j_M := (RX3, yX3_bitsOf, cX3_bitsOf, 8, (some .long), 1, 21, [], none, false)
def MX4_init : j_M := (RX4, yX4_init, cX4_init, 2, none, 1, 21, [], none, true)
def MX4_thrown : j_M := (RX4, yX4_thrown, cX4_thrown, 1, (some .int), 1, 21, [], none, false)
def MX4_in : j_M := (RX4, yX4_in, cX4_in, 3, (some .boolean), 1, 21, [], none, false)
def MX4_vaneAt : j_M := (RX4, yX4_vaneAt, cX4_vaneAt, 3, (some .int), 1, 21, [], none, false)
def MX4_millAt : j_M := (RX4, yX4_millAt, cX4_millAt, 3, (some .int), 1, 21, [], none, false)
def MX4_ownerAt : j_M := (RX4, yX4_ownerAt, cX4_ownerAt, 3, (some .int), 1, 21, [], none, false)
def MX4_addToMill : j_M := (RX4, yX4_addToMill, cX4_addToMill, 4, none, 1, 21, [], none, false)
def MX4_addToOwner : j_M := (RX4, yX4_addToOwner, cX4_addToOwner, 4, none, 1, 21, [], none, false)
def MX4_record : j_M := (RX4, yX4_record, cX4_record, 2, none, 1, 21, [], none, false)
def MX4_undo : j_M := (RX4, yX4_undo, cX4_undo, 2, (some .int), 1, 21, [], none, false)
def MX4_keep : j_M := (RX4, yX4_keep, cX4_keep, 3, (some .int), 2, 43, [], none, false)
def MX4_goBack : j_M := (RX4, yX4_goBack, cX4_goBack, 3, (some .int), 2, 43, [], none, false)
def MX4_putAside : j_M := (RX4, yX4_putAside, cX4_putAside, 2, none, 1, 21, [], none, false)
def MX4_putBack : j_M := (RX4, yX4_putBack, cX4_putBack, 2, none, 1, 21, [], none, false)
def MX4_agrees : j_M := (RX4, yX4_agrees, cX4_agrees, 5, (some .boolean), 2, 43, [], none, false)
def MX4_committee : j_M := (RX4, yX4_committee, cX4_committee, 3, (some .int), 2, 43, [], none, false)
def MX4_agreeing : j_M := (RX4, yX4_agreeing, cX4_agreeing, 4, (some .int), 3, 67, [], none, false)
def MX4_whyNot : j_M := (RX4, yX4_whyNot, cX4_whyNot, 4, (some .int), 4, 90, [], none, false)
def MX4_hoursOfDay : j_M := (RX4, yX4_hoursOfDay, cX4_hoursOfDay, 3, (some .int), 5, 113, [], none, false)
def MX4_much : j_M := (RX4, yX4_much, cX4_much, 3, (some .int), 5, 113, [], none, false)
def MX4_muchInDay : j_M := (RX4, yX4_muchInDay, cX4_muchInDay, 4, (some .int), 6, 135, [], none, false)
def MX4_waiting : j_M := (RX4, yX4_waiting, cX4_waiting, 4, (some .int), 2, 43, [], none, false)
def MX4_dropFirst : j_M := (RX4, yX4_dropFirst, cX4_dropFirst, 4, none, 2, 44, [], none, false)
def MX4_grind : j_M := (RX4, yX4_grind, cX4_grind, 6, (some .int), 3, 67, [], none, false)
def MX4_doHour : j_M := (RX4, yX4_doHour, cX4_doHour, 4, (some .int), 6, 135, [], none, false)
def MX4_doHours : j_M := (RX4, yX4_doHours, cX4_doHours, 4, (some .int), 7, 158, [], none, false)
def MX4_change : j_M := (RX4, yX4_change, cX4_change, 4, (some .int), 2, 42, [], none, false)
def MX4_wind : j_M := (RX4, yX4_wind, cX4_wind, 5, (some .int), 2, 43, [], none, false)
def MX4_most : j_M := (RX4, yX4_most, cX4_most, 1, (some .int), 1, 21, [], none, false)
def MX4_vane : j_M := (RX4, yX4_vane, cX4_vane, 4, (some .int), 3, 65, [], none, false)
def MX4_mill : j_M := (RX4, yX4_mill, cX4_mill, 3, (some .int), 3, 65, [], none, false)
def MX4_set : j_M := (RX4, yX4_set, cX4_set, 3, (some .int), 3, 65, [], none, false)
def MX4_bring : j_M := (RX4, yX4_bring, cX4_bring, 5, (some .int), 3, 66, [], none, false)
def MX4_takeBack : j_M := (RX4, yX4_takeBack, cX4_takeBack, 3, (some .int), 2, 44, [], none, false)
def MX4_pass : j_M := (RX4, yX4_pass, cX4_pass, 2, (some .int), 8, 181, [], none, false)
def MX4_append : j_M := (RX4, yX4_append, cX4_append, 2, (some .int), 2, 43, [], none, false)
def MX4_clearBuffer : j_M := (RX4, yX4_clearBuffer, cX4_clearBuffer, 2, (some .int), 1, 21, [], none, false)
def MX4_at : j_M := (RX4, yX4_at, cX4_at, 2, (some .int), 1, 21, [], none, false)
def MX4_readWind : j_M := (RX4, yX4_readWind, cX4_readWind, 3, (some .int), 2, 43, [], none, false)
def MX4_findError : j_M := (RX4, yX4_findError, cX4_findError, 2, (some .int), 3, 65, [], none, false)
def MX4_firstError : j_M := (RX4, yX4_firstError, cX4_firstError, 2, (some .int), 4, 86, [], none, false)
def MX4_load : j_M := (RX4, yX4_load, cX4_load, 2, (some .int), 6, 135, [], none, false)
def MX4_hourNow : j_M := (RX4, yX4_hourNow, cX4_hourNow, 3, (some .int), 6, 135, [], none, false)
def MX4_hourOf : j_M := (RX4, yX4_hourOf, cX4_hourOf, 3, (some .int), 7, 157, [], none, false)
def MX4_agreeingHours : j_M := (RX4, yX4_agreeingHours, cX4_agreeingHours, 4, (some .int), 3, 67, [], none, false)
def MX4_matters : j_M := (RX4, yX4_matters, cX4_matters, 6, (some .int), 5, 113, [], none, false)
def MX4_vaneNow : j_M := (RX4, yX4_vaneNow, cX4_vaneNow, 3, (some .int), 6, 138, [], none, false)
def MX4_vaneOf : j_M := (RX4, yX4_vaneOf, cX4_vaneOf, 3, (some .int), 7, 160, [], none, false)
def MX4_millNow : j_M := (RX4, yX4_millNow, cX4_millNow, 3, (some .int), 7, 158, [], none, false)
def MX4_millOf : j_M := (RX4, yX4_millOf, cX4_millOf, 3, (some .int), 8, 180, [], none, false)
def MX4_waitingOf : j_M := (RX4, yX4_waitingOf, cX4_waitingOf, 5, (some .int), 2, 43, [], none, false)
def MX4_ownerNow : j_M := (RX4, yX4_ownerNow, cX4_ownerNow, 3, (some .int), 3, 67, [], none, false)
def MX4_ownerOf : j_M := (RX4, yX4_ownerOf, cX4_ownerOf, 3, (some .int), 4, 89, [], none, false)
def MX4_allFlour : j_M := (RX4, yX4_allFlour, cX4_allFlour, 3, (some .int), 2, 43, [], none, false)
def MX4_countNow : j_M := (RX4, yX4_countNow, cX4_countNow, 2, (some .int), 6, 135, [], none, false)
def MX4_count : j_M := (RX4, yX4_count, cX4_count, 2, (some .int), 7, 156, [], none, false)
def MX4_setting : j_M := (RX4, yX4_setting, cX4_setting, 2, (some .int), 2, 43, [], none, false)
def MX4_doneNow : j_M := (RX4, yX4_doneNow, cX4_doneNow, 5, (some .int), 7, 158, [], none, false)
def MX4_doneIn : j_M := (RX4, yX4_doneIn, cX4_doneIn, 3, (some .int), 8, 182, [], none, false)
def MX4_passed : j_M := (RX4, yX4_passed, cX4_passed, 5, (some .int), 8, 181, [], none, false)
def MX4_ifPassed : j_M := (RX4, yX4_ifPassed, cX4_ifPassed, 3, (some .int), 9, 205, [], none, false)
def MX4_turnsNow : j_M := (RX4, yX4_turnsNow, cX4_turnsNow, 2, (some .int), 5, 113, [], none, false)
def MX4_turnsIn : j_M := (RX4, yX4_turnsIn, cX4_turnsIn, 1, (some .int), 6, 134, [], none, false)
def MX4_findMain : j_M := (RX4, yX4_findMain, cX4_findMain, 3, (some .int), 6, 138, [], none, false)
def MX4_mainVane : j_M := (RX4, yX4_mainVane, cX4_mainVane, 1, (some .int), 7, 160, [], none, false)
def MX4_turnShare : j_M := (RX4, yX4_turnShare, cX4_turnShare, 1, (some .double), 6, 135, [], none, false)
def MX4_digest : j_M := (RX4, yX4_digest, cX4_digest, 5, (some .long), 9, 205, [], none, false)
def MJxe99ae_isNaN_b9ae7 : j_M := (RJxe99ae, yJxe99ae_isNaN_b9ae7, cJxe99ae_isNaN_b9ae7, 2, (some .boolean), 1, 21, [], none, false)
def MJxe99ae_doubleToLongBits_ccdee : j_M := (RJxe99ae, yJxe99ae_doubleToLongBits_ccdee, cJxe99ae_doubleToLongBits_ccdee, 2, (some .long), 2, 42, [], none, false)
def ML_wind : j_M := (RL, yL_wind, cL_wind, 6, (some .int), 8, 128, [(0, 12, 15, 13), (0, 12, 19, 15)], none, false)
def ML_vane : j_M := (RL, yL_vane, cL_vane, 6, (some .int), 8, 128, [(0, 12, 15, 13), (0, 12, 19, 15)], none, false)
def ML_mill : j_M := (RL, yL_mill, cL_mill, 5, (some .int), 8, 127, [(0, 10, 13, 13), (0, 10, 17, 15)], none, false)
def ML_set : j_M := (RL, yL_set, cL_set, 5, (some .int), 8, 127, [(0, 10, 13, 13), (0, 10, 17, 15)], none, false)
def ML_bring : j_M := (RL, yL_bring, cL_bring, 6, (some .int), 8, 128, [(0, 12, 15, 13), (0, 12, 19, 15)], none, false)
def ML_takeBack : j_M := (RL, yL_takeBack, cL_takeBack, 4, (some .int), 8, 126, [(0, 9, 12, 13)], none, false)
def ML_pass : j_M := (RL, yL_pass, cL_pass, 4, (some .int), 8, 136, [(0, 9, 12, 15), (0, 9, 15, 37)], none, false)
def ML_append : j_M := (RL, yL_append, cL_append, 4, (some .int), 8, 125, [(0, 9, 12, 15), (0, 9, 15, 37)], none, false)
def ML_load : j_M := (RL, yL_load, cL_load, 3, (some .int), 7, 132, [(0, 8, 11, 15)], none, false)
def ML_keep : j_M := (RL, yL_keep, cL_keep, 4, (some .int), 8, 125, [(0, 9, 12, 15)], none, false)
def ML_goBack : j_M := (RL, yL_goBack, cL_goBack, 4, (some .int), 8, 125, [(0, 9, 12, 15), (0, 9, 15, 37)], none, false)
def ML_undo : j_M := (RL, yL_undo, cL_undo, 3, (some .int), 7, 103, [(0, 8, 11, 37)], none, false)
def ML_hourOf : j_M := (RL, yL_hourOf, cL_hourOf, 5, (some .int), 8, 135, [(0, 10, 13, 13), (0, 10, 17, 15)], none, false)
def ML_vaneOf : j_M := (RL, yL_vaneOf, cL_vaneOf, 5, (some .int), 8, 126, [(0, 10, 13, 13), (0, 10, 17, 15)], none, false)
def ML_millOf : j_M := (RL, yL_millOf, cL_millOf, 5, (some .int), 8, 137, [(0, 10, 13, 13), (0, 10, 17, 15)], none, false)
def ML_ownerOf : j_M := (RL, yL_ownerOf, cL_ownerOf, 5, (some .int), 8, 126, [(0, 10, 13, 13), (0, 10, 17, 15)], none, false)
def ML_count : j_M := (RL, yL_count, cL_count, 4, (some .int), 8, 133, [(0, 9, 12, 15)], none, false)
def ML_setting : j_M := (RL, yL_setting, cL_setting, 4, (some .int), 8, 124, [(0, 9, 12, 13)], none, false)
def ML_doneIn : j_M := (RL, yL_doneIn, cL_doneIn, 5, (some .int), 8, 140, [(0, 10, 13, 13), (0, 10, 17, 15)], none, false)
def ML_ifPassed : j_M := (RL, yL_ifPassed, cL_ifPassed, 5, (some .int), 8, 142, [(0, 10, 13, 13), (0, 10, 17, 15)], none, false)
def ML_law (L : Nat) (xs : Nat → Int32) : j_M := (RL, yL_law, cL_law, 9, some .boolean, 10, 229, [], some (L, xs), true)
theorem fRX3_10 : Cond.fieldLink RX3 10 (TX3 0).1 (TX3 0).2.1 (TX3 0).2.2.1 ∈ j_ws := j_in (List.mem_of_getElem? (i := 170) (by decide +kernel)) rfl
theorem fRX3_16 : Cond.fieldLink RX3 16 (TX3 1).1 (TX3 1).2.1 (TX3 1).2.2.1 ∈ j_ws := j_in (List.mem_of_getElem? (i := 171) (by decide +kernel)) rfl
theorem fRX3_20 : Cond.fieldLink RX3 20 (TX3 2).1 (TX3 2).2.1 (TX3 2).2.2.1 ∈ j_ws := j_in (List.mem_of_getElem? (i := 172) (by decide +kernel)) rfl
theorem fRX3_24 : Cond.fieldLink RX3 24 (TX3 3).1 (TX3 3).2.1 (TX3 3).2.2.1 ∈ j_ws := j_in (List.mem_of_getElem? (i := 173) (by decide +kernel)) rfl
theorem fRX3_27 : Cond.fieldLink RX3 27 (TX3 4).1 (TX3 4).2.1 (TX3 4).2.2.1 ∈ j_ws := j_in (List.mem_of_getElem? (i := 174) (by decide +kernel)) rfl
theorem fRX3_31 : Cond.fieldLink RX3 31 (TX3 5).1 (TX3 5).2.1 (TX3 5).2.2.1 ∈ j_ws := j_in (List.mem_of_getElem? (i := 175) (by decide +kernel)) rfl
theorem fRX3_37 : Cond.fieldLink RX3 37 (TX3 6).1 (TX3 6).2.1 (TX3 6).2.2.1 ∈ j_ws := j_in (List.mem_of_getElem? (i := 176) (by decide +kernel)) rfl
theorem fRX3_41 : Cond.fieldLink RX3 41 (TX3 7).1 (TX3 7).2.1 (TX3 7).2.2.1 ∈ j_ws := j_in (List.mem_of_getElem? (i := 177) (by decide +kernel)) rfl
theorem fRX3_56 : Cond.fieldLink RX3 56 (TX1 4).1 (TX1 4).2.1 (TX1 4).2.2.1 ∈ j_ws := j_in (List.mem_of_getElem? (i := 111) (by decide +kernel)) rfl
theorem fRX3_59 : Cond.fieldLink RX3 59 (TX1 5).1 (TX1 5).2.1 (TX1 5).2.2.1 ∈ j_ws := j_in (List.mem_of_getElem? (i := 114) (by decide +kernel)) rfl
theorem fRX3_62 : Cond.fieldLink RX3 62 "VaneVotes" "VANE_MOST" "[I" ∈ j_ws := j_in (List.mem_of_getElem? (i := 473) (by decide +kernel)) rfl
theorem fRX3_65 : Cond.fieldLink RX3 65 (TX1 6).1 (TX1 6).2.1 (TX1 6).2.2.1 ∈ j_ws := j_in (List.mem_of_getElem? (i := 117) (by decide +kernel)) rfl
theorem fRX3_69 : Cond.fieldLink RX3 69 (TX1 8).1 (TX1 8).2.1 (TX1 8).2.2.1 ∈ j_ws := j_in (List.mem_of_getElem? (i := 121) (by decide +kernel)) rfl
theorem fRX3_73 : Cond.fieldLink RX3 73 (TX0 0).1 (TX0 0).2.1 (TX0 0).2.2.1 ∈ j_ws := j_in (List.mem_of_getElem? (i := 80) (by decide +kernel)) rfl
theorem fRX3_78 : Cond.fieldLink RX3 78 "VaneVotes" "SETTING_LEAST" "[I" ∈ j_ws := j_in (List.mem_of_getElem? (i := 489) (by decide +kernel)) rfl
theorem fRX3_81 : Cond.fieldLink RX3 81 "VaneVotes" "SETTING_MOST" "[I" ∈ j_ws := j_in (List.mem_of_getElem? (i := 491) (by decide +kernel)) rfl
theorem fRX3_84 : Cond.fieldLink RX3 84 (TX1 7).1 (TX1 7).2.1 (TX1 7).2.2.1 ∈ j_ws := j_in (List.mem_of_getElem? (i := 119) (by decide +kernel)) rfl
theorem fRX3_87 : Cond.fieldLink RX3 87 (TX0 2).1 (TX0 2).2.1 (TX0 2).2.2.1 ∈ j_ws := j_in (List.mem_of_getElem? (i := 85) (by decide +kernel)) rfl
theorem fRX3_90 : Cond.fieldLink RX3 90 (TX1 3).1 (TX1 3).2.1 (TX1 3).2.2.1 ∈ j_ws := j_in (List.mem_of_getElem? (i := 109) (by decide +kernel)) rfl
theorem fRX3_96 : Cond.fieldLink RX3 96 (TX1 10).1 (TX1 10).2.1 (TX1 10).2.2.1 ∈ j_ws := j_in (List.mem_of_getElem? (i := 125) (by decide +kernel)) rfl
theorem fRX3_103 : Cond.fieldLink RX3 103 (TX0 4).1 (TX0 4).2.1 (TX0 4).2.2.1 ∈ j_ws := j_in (List.mem_of_getElem? (i := 89) (by decide +kernel)) rfl
theorem fRX3_106 : Cond.fieldLink RX3 106 (TX1 11).1 (TX1 11).2.1 (TX1 11).2.2.1 ∈ j_ws := j_in (List.mem_of_getElem? (i := 127) (by decide +kernel)) rfl
theorem fRX3_109 : Cond.fieldLink RX3 109 (TX0 3).1 (TX0 3).2.1 (TX0 3).2.2.1 ∈ j_ws := j_in (List.mem_of_getElem? (i := 87) (by decide +kernel)) rfl
theorem fRX3_112 : Cond.fieldLink RX3 112 (TX1 1).1 (TX1 1).2.1 (TX1 1).2.2.1 ∈ j_ws := j_in (List.mem_of_getElem? (i := 105) (by decide +kernel)) rfl
theorem fRX3_126 : Cond.fieldLink RX3 126 (TX2 1).1 (TX2 1).2.1 (TX2 1).2.2.1 ∈ j_ws := j_in (List.mem_of_getElem? (i := 163) (by decide +kernel)) rfl
theorem fRX3_131 : Cond.fieldLink RX3 131 (TX2 0).1 (TX2 0).2.1 (TX2 0).2.2.1 ∈ j_ws := j_in (List.mem_of_getElem? (i := 161) (by decide +kernel)) rfl
theorem fRX3_156 : Cond.fieldLink RX3 156 (TX1 0).1 (TX1 0).2.1 (TX1 0).2.2.1 ∈ j_ws := j_in (List.mem_of_getElem? (i := 103) (by decide +kernel)) rfl
theorem fRX3_179 : Cond.fieldLink RX3 179 (TX0 1).1 (TX0 1).2.1 (TX0 1).2.2.1 ∈ j_ws := j_in (List.mem_of_getElem? (i := 83) (by decide +kernel)) rfl
theorem fRX3_189 : Cond.fieldLink RX3 189 (TX1 9).1 (TX1 9).2.1 (TX1 9).2.2.1 ∈ j_ws := j_in (List.mem_of_getElem? (i := 123) (by decide +kernel)) rfl
theorem fRX3_192 : Cond.fieldLink RX3 192 (TX1 2).1 (TX1 2).2.1 (TX1 2).2.2.1 ∈ j_ws := j_in (List.mem_of_getElem? (i := 107) (by decide +kernel)) rfl
theorem fRX0_9 : Cond.fieldLink RX0 9 (TX0 0).1 (TX0 0).2.1 (TX0 0).2.2.1 ∈ j_ws := j_in (List.mem_of_getElem? (i := 79) (by decide +kernel)) rfl
theorem fRX0_15 : Cond.fieldLink RX0 15 (TX0 1).1 (TX0 1).2.1 (TX0 1).2.2.1 ∈ j_ws := j_in (List.mem_of_getElem? (i := 82) (by decide +kernel)) rfl
theorem fRX0_18 : Cond.fieldLink RX0 18 (TX0 2).1 (TX0 2).2.1 (TX0 2).2.2.1 ∈ j_ws := j_in (List.mem_of_getElem? (i := 84) (by decide +kernel)) rfl
theorem fRX0_21 : Cond.fieldLink RX0 21 (TX0 3).1 (TX0 3).2.1 (TX0 3).2.2.1 ∈ j_ws := j_in (List.mem_of_getElem? (i := 86) (by decide +kernel)) rfl
theorem fRX0_25 : Cond.fieldLink RX0 25 (TX0 4).1 (TX0 4).2.1 (TX0 4).2.2.1 ∈ j_ws := j_in (List.mem_of_getElem? (i := 88) (by decide +kernel)) rfl
theorem fRX1_9 : Cond.fieldLink RX1 9 (TX1 0).1 (TX1 0).2.1 (TX1 0).2.2.1 ∈ j_ws := j_in (List.mem_of_getElem? (i := 102) (by decide +kernel)) rfl
theorem fRX1_15 : Cond.fieldLink RX1 15 (TX1 1).1 (TX1 1).2.1 (TX1 1).2.2.1 ∈ j_ws := j_in (List.mem_of_getElem? (i := 104) (by decide +kernel)) rfl
theorem fRX1_18 : Cond.fieldLink RX1 18 (TX1 2).1 (TX1 2).2.1 (TX1 2).2.2.1 ∈ j_ws := j_in (List.mem_of_getElem? (i := 106) (by decide +kernel)) rfl
theorem fRX1_21 : Cond.fieldLink RX1 21 (TX1 3).1 (TX1 3).2.1 (TX1 3).2.2.1 ∈ j_ws := j_in (List.mem_of_getElem? (i := 108) (by decide +kernel)) rfl
theorem fRX1_24 : Cond.fieldLink RX1 24 (TX1 4).1 (TX1 4).2.1 (TX1 4).2.2.1 ∈ j_ws := j_in (List.mem_of_getElem? (i := 110) (by decide +kernel)) rfl
theorem fRX1_28 : Cond.fieldLink RX1 28 (TX1 5).1 (TX1 5).2.1 (TX1 5).2.2.1 ∈ j_ws := j_in (List.mem_of_getElem? (i := 113) (by decide +kernel)) rfl
theorem fRX1_33 : Cond.fieldLink RX1 33 (TX1 6).1 (TX1 6).2.1 (TX1 6).2.2.1 ∈ j_ws := j_in (List.mem_of_getElem? (i := 116) (by decide +kernel)) rfl
theorem fRX1_36 : Cond.fieldLink RX1 36 (TX1 7).1 (TX1 7).2.1 (TX1 7).2.2.1 ∈ j_ws := j_in (List.mem_of_getElem? (i := 118) (by decide +kernel)) rfl
theorem fRX1_41 : Cond.fieldLink RX1 41 (TX1 8).1 (TX1 8).2.1 (TX1 8).2.2.1 ∈ j_ws := j_in (List.mem_of_getElem? (i := 120) (by decide +kernel)) rfl
theorem fRX1_45 : Cond.fieldLink RX1 45 (TX1 9).1 (TX1 9).2.1 (TX1 9).2.2.1 ∈ j_ws := j_in (List.mem_of_getElem? (i := 122) (by decide +kernel)) rfl
theorem fRX1_48 : Cond.fieldLink RX1 48 (TX1 10).1 (TX1 10).2.1 (TX1 10).2.2.1 ∈ j_ws := j_in (List.mem_of_getElem? (i := 124) (by decide +kernel)) rfl
theorem fRX1_51 : Cond.fieldLink RX1 51 (TX1 11).1 (TX1 11).2.1 (TX1 11).2.2.1 ∈ j_ws := j_in (List.mem_of_getElem? (i := 126) (by decide +kernel)) rfl
theorem fRX1_84 : Cond.fieldLink RX1 84 (TX0 0).1 (TX0 0).2.1 (TX0 0).2.2.1 ∈ j_ws := j_in (List.mem_of_getElem? (i := 81) (by decide +kernel)) rfl
theorem fRX2_9 : Cond.fieldLink RX2 9 (TX2 0).1 (TX2 0).2.1 (TX2 0).2.2.1 ∈ j_ws := j_in (List.mem_of_getElem? (i := 160) (by decide +kernel)) rfl
theorem fRX2_15 : Cond.fieldLink RX2 15 (TX2 1).1 (TX2 1).2.1 (TX2 1).2.2.1 ∈ j_ws := j_in (List.mem_of_getElem? (i := 162) (by decide +kernel)) rfl
theorem fRX2_23 : Cond.fieldLink RX2 23 (TX1 4).1 (TX1 4).2.1 (TX1 4).2.2.1 ∈ j_ws := j_in (List.mem_of_getElem? (i := 112) (by decide +kernel)) rfl
theorem fRX2_28 : Cond.fieldLink RX2 28 (TX1 5).1 (TX1 5).2.1 (TX1 5).2.2.1 ∈ j_ws := j_in (List.mem_of_getElem? (i := 115) (by decide +kernel)) rfl
theorem fRX4_7 : Cond.fieldLink RX4 7 (TX4 1).1 (TX4 1).2.1 (TX4 1).2.2.1 ∈ j_ws := j_in (List.mem_of_getElem? (i := 634) (by decide +kernel)) rfl
theorem fRX4_13 : Cond.fieldLink RX4 13 (TX4 2).1 (TX4 2).2.1 (TX4 2).2.2.1 ∈ j_ws := j_in (List.mem_of_getElem? (i := 635) (by decide +kernel)) rfl
theorem fRX4_16 : Cond.fieldLink RX4 16 (TX4 3).1 (TX4 3).2.1 (TX4 3).2.2.1 ∈ j_ws := j_in (List.mem_of_getElem? (i := 636) (by decide +kernel)) rfl
theorem fRX4_19 : Cond.fieldLink RX4 19 (TX4 5).1 (TX4 5).2.1 (TX4 5).2.2.1 ∈ j_ws := j_in (List.mem_of_getElem? (i := 638) (by decide +kernel)) rfl
theorem fRX4_22 : Cond.fieldLink RX4 22 (TX4 6).1 (TX4 6).2.1 (TX4 6).2.2.1 ∈ j_ws := j_in (List.mem_of_getElem? (i := 639) (by decide +kernel)) rfl
theorem fRX4_26 : Cond.fieldLink RX4 26 (TX4 7).1 (TX4 7).2.1 (TX4 7).2.2.1 ∈ j_ws := j_in (List.mem_of_getElem? (i := 640) (by decide +kernel)) rfl
theorem fRX4_29 : Cond.fieldLink RX4 29 (TX4 0).1 (TX4 0).2.1 (TX4 0).2.2.1 ∈ j_ws := j_in (List.mem_of_getElem? (i := 633) (by decide +kernel)) rfl
theorem fRX4_33 : Cond.fieldLink RX4 33 (TX4 4).1 (TX4 4).2.1 (TX4 4).2.2.1 ∈ j_ws := j_in (List.mem_of_getElem? (i := 637) (by decide +kernel)) rfl
theorem fRX4_98 : Cond.fieldLink RX4 98 (TX4 8).1 (TX4 8).2.1 (TX4 8).2.2.1 ∈ j_ws := j_in (List.mem_of_getElem? (i := 641) (by decide +kernel)) rfl
theorem fRX4_104 : Cond.fieldLink RX4 104 (TX4 9).1 (TX4 9).2.1 (TX4 9).2.2.1 ∈ j_ws := j_in (List.mem_of_getElem? (i := 642) (by decide +kernel)) rfl
theorem mRX3_1 : Cond.methodLink RX3 1 objectInit ∈ j_ws := j_in (List.mem_of_getElem? (i := 61) (by decide +kernel)) rfl
theorem mRX3_9 : Cond.methodLink RX3 9 yX1_init ∈ j_ws := j_in (List.mem_of_getElem? (i := 66) (by decide +kernel)) rfl
theorem mRX3_45 : Cond.methodLink RX3 45 yX3_needIndex ∈ j_ws := j_in (List.mem_of_getElem? (i := 356) (by decide +kernel)) rfl
theorem mRX3_49 : Cond.methodLink RX3 49 yX3_needRange ∈ j_ws := j_in (List.mem_of_getElem? (i := 268) (by decide +kernel)) rfl
theorem mRX3_53 : Cond.methodLink RX3 53 yX3_saveState ∈ j_ws := j_in (List.mem_of_getElem? (i := 450) (by decide +kernel)) rfl
theorem mRX3_93 : Cond.methodLink RX3 93 yX0_addLot ∈ j_ws := j_in (List.mem_of_getElem? (i := 500) (by decide +kernel)) rfl
theorem mRX3_99 : Cond.methodLink RX3 99 yX0_sacksWaiting ∈ j_ws := j_in (List.mem_of_getElem? (i := 396) (by decide +kernel)) rfl
theorem mRX3_123 : Cond.methodLink RX3 123 yX1_passHour ∈ j_ws := j_in (List.mem_of_getElem? (i := 536) (by decide +kernel)) rfl
theorem mRX3_134 : Cond.methodLink RX3 134 yX2_firstWrong ∈ j_ws := j_in (List.mem_of_getElem? (i := 203) (by decide +kernel)) rfl
theorem mRX3_137 : Cond.methodLink RX3 137 yX2_isWhole ∈ j_ws := j_in (List.mem_of_getElem? (i := 563) (by decide +kernel)) rfl
theorem mRX3_146 : Cond.methodLink RX3 146 yX2_blowInto ∈ j_ws := j_in (List.mem_of_getElem? (i := 568) (by decide +kernel)) rfl
theorem mRX3_150 : Cond.methodLink RX3 150 yX1_agreeingHours ∈ j_ws := j_in (List.mem_of_getElem? (i := 252) (by decide +kernel)) rfl
theorem mRX3_153 : Cond.methodLink RX3 153 yX1_copyFrom ∈ j_ws := j_in (List.mem_of_getElem? (i := 454) (by decide +kernel)) rfl
theorem mRX3_163 : Cond.methodLink RX3 163 yX1_votesIn ∈ j_ws := j_in (List.mem_of_getElem? (i := 379) (by decide +kernel)) rfl
theorem mRX3_167 : Cond.methodLink RX3 167 yX1_verdictIn ∈ j_ws := j_in (List.mem_of_getElem? (i := 220) (by decide +kernel)) rfl
theorem mRX3_170 : Cond.methodLink RX3 170 yX1_sacksGroundIn ∈ j_ws := j_in (List.mem_of_getElem? (i := 380) (by decide +kernel)) rfl
theorem mRX3_173 : Cond.methodLink RX3 173 yX1_hoursOfVane ∈ j_ws := j_in (List.mem_of_getElem? (i := 388) (by decide +kernel)) rfl
theorem mRX3_176 : Cond.methodLink RX3 176 yX1_hoursTurnedBy ∈ j_ws := j_in (List.mem_of_getElem? (i := 244) (by decide +kernel)) rfl
theorem mRX3_182 : Cond.methodLink RX3 182 yX1_fillRates ∈ j_ws := j_in (List.mem_of_getElem? (i := 397) (by decide +kernel)) rfl
theorem mRX3_186 : Cond.methodLink RX3 186 yX1_sacksWaitingOf ∈ j_ws := j_in (List.mem_of_getElem? (i := 413) (by decide +kernel)) rfl
theorem mRX3_195 : Cond.methodLink RX3 195 yX1_committee ∈ j_ws := j_in (List.mem_of_getElem? (i := 339) (by decide +kernel)) rfl
theorem mRX3_198 : Cond.methodLink RX3 198 yX1_sacksWaiting ∈ j_ws := j_in (List.mem_of_getElem? (i := 340) (by decide +kernel)) rfl
theorem mRX3_199 : Cond.methodLink RX3 199 yX1_flourOfAll ∈ j_ws := j_in (List.mem_of_getElem? (i := 348) (by decide +kernel)) rfl
theorem mRX3_202 : Cond.methodLink RX3 202 yX3_hoursUntilGround ∈ j_ws := j_in (List.mem_of_getElem? (i := 405) (by decide +kernel)) rfl
theorem mRX3_205 : Cond.methodLink RX3 205 yX0_flourOf ∈ j_ws := j_in (List.mem_of_getElem? (i := 425) (by decide +kernel)) rfl
theorem mRX3_215 : Cond.methodLink RX3 215 yX3_count ∈ j_ws := j_in (List.mem_of_getElem? (i := 264) (by decide +kernel)) rfl
theorem mRX3_218 : Cond.methodLink RX3 218 yX3_setting ∈ j_ws := j_in (List.mem_of_getElem? (i := 352) (by decide +kernel)) rfl
theorem mRX3_221 : Cond.methodLink RX3 221 yX3_hourOf ∈ j_ws := j_in (List.mem_of_getElem? (i := 375) (by decide +kernel)) rfl
theorem mRX3_224 : Cond.methodLink RX3 224 yX3_vaneOf ∈ j_ws := j_in (List.mem_of_getElem? (i := 384) (by decide +kernel)) rfl
theorem mRX3_227 : Cond.methodLink RX3 227 yX3_millOf ∈ j_ws := j_in (List.mem_of_getElem? (i := 392) (by decide +kernel)) rfl
theorem mRX3_230 : Cond.methodLink RX3 230 yX3_doneIn ∈ j_ws := j_in (List.mem_of_getElem? (i := 401) (by decide +kernel)) rfl
theorem mRX3_233 : Cond.methodLink RX3 233 yX3_ownerOf ∈ j_ws := j_in (List.mem_of_getElem? (i := 409) (by decide +kernel)) rfl
theorem mRX3_236 : Cond.methodLink RX3 236 yX3_ifPassed ∈ j_ws := j_in (List.mem_of_getElem? (i := 421) (by decide +kernel)) rfl
theorem mRX3_239 : Cond.methodLink RX3 239 yX3_turnsIn ∈ j_ws := j_in (List.mem_of_getElem? (i := 432) (by decide +kernel)) rfl
theorem mRX3_242 : Cond.methodLink RX3 242 yX3_mainVane ∈ j_ws := j_in (List.mem_of_getElem? (i := 433) (by decide +kernel)) rfl
theorem mRX3_245 : Cond.methodLink RX3 245 yX3_turnShare ∈ j_ws := j_in (List.mem_of_getElem? (i := 434) (by decide +kernel)) rfl
theorem mRX3_249 : Cond.methodLink RX3 249 yX3_bitsOf ∈ j_ws := j_in (List.mem_of_getElem? (i := 435) (by decide +kernel)) rfl
theorem mRX0_3 : Cond.methodLink RX0 3 objectInit ∈ j_ws := j_in (List.mem_of_getElem? (i := 78) (by decide +kernel)) rfl
theorem mRX0_28 : Cond.methodLink RX0 28 arraycopyName ∈ j_ws := j_in (List.mem_of_getElem? (i := 465) (by decide +kernel)) rfl
theorem mRX0_34 : Cond.methodLink RX0 34 Lib.Math.min.name ∈ j_ws := j_in (List.mem_of_getElem? (i := 429) (by decide +kernel)) rfl
theorem mRX0_40 : Cond.methodLink RX0 40 yX0_dropFirst ∈ j_ws := j_in (List.mem_of_getElem? (i := 544) (by decide +kernel)) rfl
theorem mRX1_3 : Cond.methodLink RX1 3 objectInit ∈ j_ws := j_in (List.mem_of_getElem? (i := 69) (by decide +kernel)) rfl
theorem mRX1_55 : Cond.methodLink RX1 55 arraycopyName ∈ j_ws := j_in (List.mem_of_getElem? (i := 458) (by decide +kernel)) rfl
theorem mRX1_61 : Cond.methodLink RX1 61 yX0_copyMill ∈ j_ws := j_in (List.mem_of_getElem? (i := 461) (by decide +kernel)) rfl
theorem mRX1_65 : Cond.methodLink RX1 65 yX1_vaneAgrees ∈ j_ws := j_in (List.mem_of_getElem? (i := 232) (by decide +kernel)) rfl
theorem mRX1_69 : Cond.methodLink RX1 69 yX1_committee ∈ j_ws := j_in (List.mem_of_getElem? (i := 224) (by decide +kernel)) rfl
theorem mRX1_73 : Cond.methodLink RX1 73 yX1_votesIn ∈ j_ws := j_in (List.mem_of_getElem? (i := 228) (by decide +kernel)) rfl
theorem mRX1_77 : Cond.methodLink RX1 77 yX1_verdictOf ∈ j_ws := j_in (List.mem_of_getElem? (i := 236) (by decide +kernel)) rfl
theorem mRX1_81 : Cond.methodLink RX1 81 yX1_verdictIn ∈ j_ws := j_in (List.mem_of_getElem? (i := 256) (by decide +kernel)) rfl
theorem mRX1_87 : Cond.methodLink RX1 87 yX0_grind ∈ j_ws := j_in (List.mem_of_getElem? (i := 540) (by decide +kernel)) rfl
theorem mRX1_91 : Cond.methodLink RX1 91 yX0_sacksWaiting ∈ j_ws := j_in (List.mem_of_getElem? (i := 344) (by decide +kernel)) rfl
theorem mRX1_94 : Cond.methodLink RX1 94 yX0_sacksWaitingOf ∈ j_ws := j_in (List.mem_of_getElem? (i := 417) (by decide +kernel)) rfl
theorem mRX2_3 : Cond.methodLink RX2 3 objectInit ∈ j_ws := j_in (List.mem_of_getElem? (i := 159) (by decide +kernel)) rfl
theorem mRX2_19 : Cond.methodLink RX2 19 yX2_placeAfter ∈ j_ws := j_in (List.mem_of_getElem? (i := 207) (by decide +kernel)) rfl
theorem mRX2_31 : Cond.methodLink RX2 31 yX2_afterFirstDigit ∈ j_ws := j_in (List.mem_of_getElem? (i := 210) (by decide +kernel)) rfl
theorem mRX2_35 : Cond.methodLink RX2 35 yX2_afterHour ∈ j_ws := j_in (List.mem_of_getElem? (i := 213) (by decide +kernel)) rfl
theorem mRL_7 : Cond.methodLink RL 7 yX3_wind ∈ j_ws := j_in (List.mem_of_getElem? (i := 446) (by decide +kernel)) rfl
theorem mRL_17 : Cond.methodLink RL 17 yX3_vane ∈ j_ws := j_in (List.mem_of_getElem? (i := 469) (by decide +kernel)) rfl
theorem mRL_20 : Cond.methodLink RL 20 yX3_mill ∈ j_ws := j_in (List.mem_of_getElem? (i := 478) (by decide +kernel)) rfl
theorem mRL_24 : Cond.methodLink RL 24 yX3_set ∈ j_ws := j_in (List.mem_of_getElem? (i := 485) (by decide +kernel)) rfl
theorem mRL_27 : Cond.methodLink RL 27 yX3_bring ∈ j_ws := j_in (List.mem_of_getElem? (i := 496) (by decide +kernel)) rfl
theorem mRL_30 : Cond.methodLink RL 30 yX3_takeBack ∈ j_ws := j_in (List.mem_of_getElem? (i := 507) (by decide +kernel)) rfl
theorem mRL_34 : Cond.methodLink RL 34 yX3_pass ∈ j_ws := j_in (List.mem_of_getElem? (i := 515) (by decide +kernel)) rfl
theorem mRL_39 : Cond.methodLink RL 39 yX3_append ∈ j_ws := j_in (List.mem_of_getElem? (i := 551) (by decide +kernel)) rfl
theorem mRL_42 : Cond.methodLink RL 42 yX3_load ∈ j_ws := j_in (List.mem_of_getElem? (i := 559) (by decide +kernel)) rfl
theorem mRL_46 : Cond.methodLink RL 46 yX3_keep ∈ j_ws := j_in (List.mem_of_getElem? (i := 575) (by decide +kernel)) rfl
theorem mRL_49 : Cond.methodLink RL 49 yX3_goBack ∈ j_ws := j_in (List.mem_of_getElem? (i := 582) (by decide +kernel)) rfl
theorem mRL_52 : Cond.methodLink RL 52 yX3_undo ∈ j_ws := j_in (List.mem_of_getElem? (i := 590) (by decide +kernel)) rfl
theorem mRL_55 : Cond.methodLink RL 55 yX3_hourOf ∈ j_ws := j_in (List.mem_of_getElem? (i := 598) (by decide +kernel)) rfl
theorem mRL_58 : Cond.methodLink RL 58 yX3_vaneOf ∈ j_ws := j_in (List.mem_of_getElem? (i := 602) (by decide +kernel)) rfl
theorem mRL_61 : Cond.methodLink RL 61 yX3_millOf ∈ j_ws := j_in (List.mem_of_getElem? (i := 606) (by decide +kernel)) rfl
theorem mRL_64 : Cond.methodLink RL 64 yX3_ownerOf ∈ j_ws := j_in (List.mem_of_getElem? (i := 610) (by decide +kernel)) rfl
theorem mRL_67 : Cond.methodLink RL 67 yX3_count ∈ j_ws := j_in (List.mem_of_getElem? (i := 614) (by decide +kernel)) rfl
theorem mRL_70 : Cond.methodLink RL 70 yX3_setting ∈ j_ws := j_in (List.mem_of_getElem? (i := 618) (by decide +kernel)) rfl
theorem mRL_73 : Cond.methodLink RL 73 yX3_doneIn ∈ j_ws := j_in (List.mem_of_getElem? (i := 622) (by decide +kernel)) rfl
theorem mRL_76 : Cond.methodLink RL 76 yX3_ifPassed ∈ j_ws := j_in (List.mem_of_getElem? (i := 626) (by decide +kernel)) rfl
theorem mRL_79 : Cond.methodLink RL 79 yX3_init ∈ j_ws := j_in (List.mem_of_getElem? (i := 58) (by decide +kernel)) rfl
theorem mRL_82 : Cond.methodLink RL 82 yX4_init ∈ j_ws := j_in (List.mem_of_getElem? (i := 629) (by decide +kernel)) rfl
theorem mRL_83 : Cond.methodLink RL 83 yL_wind ∈ j_ws := j_in (List.mem_of_getElem? (i := 441) (by decide +kernel)) rfl
theorem mRL_88 : Cond.methodLink RL 88 yX4_wind ∈ j_ws := j_in (List.mem_of_getElem? (i := 687) (by decide +kernel)) rfl
theorem mRL_89 : Cond.methodLink RL 89 yX4_thrown ∈ j_ws := j_in (List.mem_of_getElem? (i := 664) (by decide +kernel)) rfl
theorem mRL_92 : Cond.methodLink RL 92 yL_vane ∈ j_ws := j_in (List.mem_of_getElem? (i := 466) (by decide +kernel)) rfl
theorem mRL_94 : Cond.methodLink RL 94 yX4_vane ∈ j_ws := j_in (List.mem_of_getElem? (i := 691) (by decide +kernel)) rfl
theorem mRL_95 : Cond.methodLink RL 95 yL_mill ∈ j_ws := j_in (List.mem_of_getElem? (i := 475) (by decide +kernel)) rfl
theorem mRL_98 : Cond.methodLink RL 98 yX4_mill ∈ j_ws := j_in (List.mem_of_getElem? (i := 702) (by decide +kernel)) rfl
theorem mRL_99 : Cond.methodLink RL 99 yL_set ∈ j_ws := j_in (List.mem_of_getElem? (i := 482) (by decide +kernel)) rfl
theorem mRL_101 : Cond.methodLink RL 101 yX4_set ∈ j_ws := j_in (List.mem_of_getElem? (i := 706) (by decide +kernel)) rfl
theorem mRL_102 : Cond.methodLink RL 102 yL_bring ∈ j_ws := j_in (List.mem_of_getElem? (i := 493) (by decide +kernel)) rfl
theorem mRL_104 : Cond.methodLink RL 104 yX4_bring ∈ j_ws := j_in (List.mem_of_getElem? (i := 710) (by decide +kernel)) rfl
theorem mRL_105 : Cond.methodLink RL 105 yL_takeBack ∈ j_ws := j_in (List.mem_of_getElem? (i := 504) (by decide +kernel)) rfl
theorem mRL_108 : Cond.methodLink RL 108 yX4_takeBack ∈ j_ws := j_in (List.mem_of_getElem? (i := 730) (by decide +kernel)) rfl
theorem mRL_109 : Cond.methodLink RL 109 yL_pass ∈ j_ws := j_in (List.mem_of_getElem? (i := 511) (by decide +kernel)) rfl
theorem mRL_111 : Cond.methodLink RL 111 yX4_pass ∈ j_ws := j_in (List.mem_of_getElem? (i := 734) (by decide +kernel)) rfl
theorem mRL_112 : Cond.methodLink RL 112 yL_append ∈ j_ws := j_in (List.mem_of_getElem? (i := 548) (by decide +kernel)) rfl
theorem mRL_114 : Cond.methodLink RL 114 yX4_append ∈ j_ws := j_in (List.mem_of_getElem? (i := 779) (by decide +kernel)) rfl
theorem mRL_115 : Cond.methodLink RL 115 yX3_clearBuffer ∈ j_ws := j_in (List.mem_of_getElem? (i := 195) (by decide +kernel)) rfl
theorem mRL_118 : Cond.methodLink RL 118 yX4_clearBuffer ∈ j_ws := j_in (List.mem_of_getElem? (i := 783) (by decide +kernel)) rfl
theorem mRL_119 : Cond.methodLink RL 119 yX3_firstError ∈ j_ws := j_in (List.mem_of_getElem? (i := 199) (by decide +kernel)) rfl
theorem mRL_122 : Cond.methodLink RL 122 yX4_firstError ∈ j_ws := j_in (List.mem_of_getElem? (i := 787) (by decide +kernel)) rfl
theorem mRL_123 : Cond.methodLink RL 123 yL_load ∈ j_ws := j_in (List.mem_of_getElem? (i := 556) (by decide +kernel)) rfl
theorem mRL_126 : Cond.methodLink RL 126 yX4_load ∈ j_ws := j_in (List.mem_of_getElem? (i := 803) (by decide +kernel)) rfl
theorem mRL_127 : Cond.methodLink RL 127 yL_keep ∈ j_ws := j_in (List.mem_of_getElem? (i := 572) (by decide +kernel)) rfl
theorem mRL_129 : Cond.methodLink RL 129 yX4_keep ∈ j_ws := j_in (List.mem_of_getElem? (i := 672) (by decide +kernel)) rfl
theorem mRL_130 : Cond.methodLink RL 130 yL_goBack ∈ j_ws := j_in (List.mem_of_getElem? (i := 579) (by decide +kernel)) rfl
theorem mRL_132 : Cond.methodLink RL 132 yX4_goBack ∈ j_ws := j_in (List.mem_of_getElem? (i := 679) (by decide +kernel)) rfl
theorem mRL_133 : Cond.methodLink RL 133 yL_undo ∈ j_ws := j_in (List.mem_of_getElem? (i := 587) (by decide +kernel)) rfl
theorem mRL_135 : Cond.methodLink RL 135 yX4_undo ∈ j_ws := j_in (List.mem_of_getElem? (i := 668) (by decide +kernel)) rfl
theorem mRL_136 : Cond.methodLink RL 136 yL_hourOf ∈ j_ws := j_in (List.mem_of_getElem? (i := 595) (by decide +kernel)) rfl
theorem mRL_138 : Cond.methodLink RL 138 yX4_hourOf ∈ j_ws := j_in (List.mem_of_getElem? (i := 811) (by decide +kernel)) rfl
theorem mRL_139 : Cond.methodLink RL 139 yL_vaneOf ∈ j_ws := j_in (List.mem_of_getElem? (i := 599) (by decide +kernel)) rfl
theorem mRL_141 : Cond.methodLink RL 141 yX4_vaneOf ∈ j_ws := j_in (List.mem_of_getElem? (i := 819) (by decide +kernel)) rfl
theorem mRL_142 : Cond.methodLink RL 142 yL_millOf ∈ j_ws := j_in (List.mem_of_getElem? (i := 603) (by decide +kernel)) rfl
theorem mRL_144 : Cond.methodLink RL 144 yX4_millOf ∈ j_ws := j_in (List.mem_of_getElem? (i := 835) (by decide +kernel)) rfl
theorem mRL_145 : Cond.methodLink RL 145 yL_ownerOf ∈ j_ws := j_in (List.mem_of_getElem? (i := 607) (by decide +kernel)) rfl
theorem mRL_147 : Cond.methodLink RL 147 yX4_ownerOf ∈ j_ws := j_in (List.mem_of_getElem? (i := 847) (by decide +kernel)) rfl
theorem mRL_148 : Cond.methodLink RL 148 yL_count ∈ j_ws := j_in (List.mem_of_getElem? (i := 611) (by decide +kernel)) rfl
theorem mRL_150 : Cond.methodLink RL 150 yX4_count ∈ j_ws := j_in (List.mem_of_getElem? (i := 863) (by decide +kernel)) rfl
theorem mRL_151 : Cond.methodLink RL 151 yL_setting ∈ j_ws := j_in (List.mem_of_getElem? (i := 615) (by decide +kernel)) rfl
theorem mRL_153 : Cond.methodLink RL 153 yX4_setting ∈ j_ws := j_in (List.mem_of_getElem? (i := 875) (by decide +kernel)) rfl
theorem mRL_154 : Cond.methodLink RL 154 yL_doneIn ∈ j_ws := j_in (List.mem_of_getElem? (i := 619) (by decide +kernel)) rfl
theorem mRL_156 : Cond.methodLink RL 156 yX4_doneIn ∈ j_ws := j_in (List.mem_of_getElem? (i := 879) (by decide +kernel)) rfl
theorem mRL_157 : Cond.methodLink RL 157 yL_ifPassed ∈ j_ws := j_in (List.mem_of_getElem? (i := 623) (by decide +kernel)) rfl
theorem mRL_159 : Cond.methodLink RL 159 yX4_ifPassed ∈ j_ws := j_in (List.mem_of_getElem? (i := 887) (by decide +kernel)) rfl
theorem mRL_160 : Cond.methodLink RL 160 yX3_turnsIn ∈ j_ws := j_in (List.mem_of_getElem? (i := 216) (by decide +kernel)) rfl
theorem mRL_163 : Cond.methodLink RL 163 yX4_turnsIn ∈ j_ws := j_in (List.mem_of_getElem? (i := 903) (by decide +kernel)) rfl
theorem mRL_164 : Cond.methodLink RL 164 yX3_mainVane ∈ j_ws := j_in (List.mem_of_getElem? (i := 240) (by decide +kernel)) rfl
theorem mRL_167 : Cond.methodLink RL 167 yX4_mainVane ∈ j_ws := j_in (List.mem_of_getElem? (i := 911) (by decide +kernel)) rfl
theorem mRL_168 : Cond.methodLink RL 168 yX3_turnShare ∈ j_ws := j_in (List.mem_of_getElem? (i := 248) (by decide +kernel)) rfl
theorem mRL_172 : Cond.methodLink RL 172 yX4_turnShare ∈ j_ws := j_in (List.mem_of_getElem? (i := 919) (by decide +kernel)) rfl
theorem mRL_173 : Cond.methodLink RL 173 yX3_digest ∈ j_ws := j_in (List.mem_of_getElem? (i := 258) (by decide +kernel)) rfl
theorem mRL_177 : Cond.methodLink RL 177 yX4_digest ∈ j_ws := j_in (List.mem_of_getElem? (i := 924) (by decide +kernel)) rfl
theorem mRX4_1 : Cond.methodLink RX4 1 objectInit ∈ j_ws := j_in (List.mem_of_getElem? (i := 632) (by decide +kernel)) rfl
theorem mRX4_36 : Cond.methodLink RX4 36 yX4_in ∈ j_ws := j_in (List.mem_of_getElem? (i := 676) (by decide +kernel)) rfl
theorem mRX4_40 : Cond.methodLink RX4 40 yX4_record ∈ j_ws := j_in (List.mem_of_getElem? (i := 683) (by decide +kernel)) rfl
theorem mRX4_43 : Cond.methodLink RX4 43 yX4_vaneAt ∈ j_ws := j_in (List.mem_of_getElem? (i := 759) (by decide +kernel)) rfl
theorem mRX4_47 : Cond.methodLink RX4 47 yX4_agrees ∈ j_ws := j_in (List.mem_of_getElem? (i := 767) (by decide +kernel)) rfl
theorem mRX4_51 : Cond.methodLink RX4 51 yX4_committee ∈ j_ws := j_in (List.mem_of_getElem? (i := 755) (by decide +kernel)) rfl
theorem mRX4_55 : Cond.methodLink RX4 55 yX4_agreeing ∈ j_ws := j_in (List.mem_of_getElem? (i := 763) (by decide +kernel)) rfl
theorem mRX4_59 : Cond.methodLink RX4 59 yX4_whyNot ∈ j_ws := j_in (List.mem_of_getElem? (i := 751) (by decide +kernel)) rfl
theorem mRX4_62 : Cond.methodLink RX4 62 yX4_millAt ∈ j_ws := j_in (List.mem_of_getElem? (i := 714) (by decide +kernel)) rfl
theorem mRX4_65 : Cond.methodLink RX4 65 yX4_much ∈ j_ws := j_in (List.mem_of_getElem? (i := 747) (by decide +kernel)) rfl
theorem mRX4_68 : Cond.methodLink RX4 68 yX4_addToMill ∈ j_ws := j_in (List.mem_of_getElem? (i := 718) (by decide +kernel)) rfl
theorem mRX4_72 : Cond.methodLink RX4 72 yX4_addToOwner ∈ j_ws := j_in (List.mem_of_getElem? (i := 722) (by decide +kernel)) rfl
theorem mRX4_75 : Cond.methodLink RX4 75 yX4_dropFirst ∈ j_ws := j_in (List.mem_of_getElem? (i := 775) (by decide +kernel)) rfl
theorem mRX4_79 : Cond.methodLink RX4 79 yX4_grind ∈ j_ws := j_in (List.mem_of_getElem? (i := 771) (by decide +kernel)) rfl
theorem mRX4_82 : Cond.methodLink RX4 82 yX4_doHour ∈ j_ws := j_in (List.mem_of_getElem? (i := 743) (by decide +kernel)) rfl
theorem mRX4_85 : Cond.methodLink RX4 85 yX4_most ∈ j_ws := j_in (List.mem_of_getElem? (i := 695) (by decide +kernel)) rfl
theorem mRX4_88 : Cond.methodLink RX4 88 yX4_change ∈ j_ws := j_in (List.mem_of_getElem? (i := 698) (by decide +kernel)) rfl
theorem mRX4_91 : Cond.methodLink RX4 91 yX4_waiting ∈ j_ws := j_in (List.mem_of_getElem? (i := 726) (by decide +kernel)) rfl
theorem mRX4_95 : Cond.methodLink RX4 95 yX4_doHours ∈ j_ws := j_in (List.mem_of_getElem? (i := 739) (by decide +kernel)) rfl
theorem mRX4_101 : Cond.methodLink RX4 101 yX4_at ∈ j_ws := j_in (List.mem_of_getElem? (i := 799) (by decide +kernel)) rfl
theorem mRX4_107 : Cond.methodLink RX4 107 yX4_readWind ∈ j_ws := j_in (List.mem_of_getElem? (i := 795) (by decide +kernel)) rfl
theorem mRX4_110 : Cond.methodLink RX4 110 yX4_findError ∈ j_ws := j_in (List.mem_of_getElem? (i := 791) (by decide +kernel)) rfl
theorem mRX4_113 : Cond.methodLink RX4 113 yX4_hoursOfDay ∈ j_ws := j_in (List.mem_of_getElem? (i := 807) (by decide +kernel)) rfl
theorem mRX4_116 : Cond.methodLink RX4 116 yX4_hourNow ∈ j_ws := j_in (List.mem_of_getElem? (i := 815) (by decide +kernel)) rfl
theorem mRX4_119 : Cond.methodLink RX4 119 yX4_agreeingHours ∈ j_ws := j_in (List.mem_of_getElem? (i := 827) (by decide +kernel)) rfl
theorem mRX4_122 : Cond.methodLink RX4 122 yX4_matters ∈ j_ws := j_in (List.mem_of_getElem? (i := 831) (by decide +kernel)) rfl
theorem mRX4_125 : Cond.methodLink RX4 125 yX4_vaneNow ∈ j_ws := j_in (List.mem_of_getElem? (i := 823) (by decide +kernel)) rfl
theorem mRX4_128 : Cond.methodLink RX4 128 yX4_muchInDay ∈ j_ws := j_in (List.mem_of_getElem? (i := 843) (by decide +kernel)) rfl
theorem mRX4_131 : Cond.methodLink RX4 131 yX4_millNow ∈ j_ws := j_in (List.mem_of_getElem? (i := 839) (by decide +kernel)) rfl
theorem mRX4_134 : Cond.methodLink RX4 134 yX4_waitingOf ∈ j_ws := j_in (List.mem_of_getElem? (i := 855) (by decide +kernel)) rfl
theorem mRX4_137 : Cond.methodLink RX4 137 yX4_ownerAt ∈ j_ws := j_in (List.mem_of_getElem? (i := 859) (by decide +kernel)) rfl
theorem mRX4_140 : Cond.methodLink RX4 140 yX4_ownerNow ∈ j_ws := j_in (List.mem_of_getElem? (i := 851) (by decide +kernel)) rfl
theorem mRX4_143 : Cond.methodLink RX4 143 yX4_allFlour ∈ j_ws := j_in (List.mem_of_getElem? (i := 871) (by decide +kernel)) rfl
theorem mRX4_146 : Cond.methodLink RX4 146 yX4_countNow ∈ j_ws := j_in (List.mem_of_getElem? (i := 867) (by decide +kernel)) rfl
theorem mRX4_149 : Cond.methodLink RX4 149 yX4_doneNow ∈ j_ws := j_in (List.mem_of_getElem? (i := 883) (by decide +kernel)) rfl
theorem mRX4_152 : Cond.methodLink RX4 152 yX4_putAside ∈ j_ws := j_in (List.mem_of_getElem? (i := 895) (by decide +kernel)) rfl
theorem mRX4_155 : Cond.methodLink RX4 155 yX4_putBack ∈ j_ws := j_in (List.mem_of_getElem? (i := 899) (by decide +kernel)) rfl
theorem mRX4_158 : Cond.methodLink RX4 158 yX4_passed ∈ j_ws := j_in (List.mem_of_getElem? (i := 891) (by decide +kernel)) rfl
theorem mRX4_161 : Cond.methodLink RX4 161 yX4_turnsNow ∈ j_ws := j_in (List.mem_of_getElem? (i := 907) (by decide +kernel)) rfl
theorem mRX4_164 : Cond.methodLink RX4 164 yX4_findMain ∈ j_ws := j_in (List.mem_of_getElem? (i := 915) (by decide +kernel)) rfl
theorem mRX4_173 : Cond.methodLink RX4 173 yJxe99ae_doubleToLongBits_ccdee ∈ j_ws := j_in (List.mem_of_getElem? (i := 930) (by decide +kernel)) rfl
theorem mRJxe99ae_122 : Cond.methodLink RJxe99ae 122 yJxe99ae_isNaN_b9ae7 ∈ j_ws := j_in (List.mem_of_getElem? (i := 933) (by decide +kernel)) rfl
theorem mRJxe99ae_134 : Cond.methodLink RJxe99ae 134 ⟨"java/lang/Double", "doubleToRawLongBits", "(D)J"⟩ ∈ j_ws := j_in (List.mem_of_getElem? (i := 936) (by decide +kernel)) rfl
theorem qRX3_115 : Cond.constant RX3 115 99999 ∈ j_ws := j_in (List.mem_of_getElem? (i := 519) (by decide +kernel)) rfl
theorem qRX3_209 : Cond.constantDouble RX3 209 4627448617123184640 ∈ j_ws := j_in (List.mem_of_getElem? (i := 257) (by decide +kernel)) rfl
theorem qRX3_211 : Cond.constantLong RX3 211 3671 ∈ j_ws := j_in (List.mem_of_getElem? (i := 262) (by decide +kernel)) rfl
theorem qRX3_213 : Cond.constantLong RX3 213 31 ∈ j_ws := j_in (List.mem_of_getElem? (i := 263) (by decide +kernel)) rfl
theorem qRX3_260 : Cond.constantLong RX3 260 1023 ∈ j_ws := j_in (List.mem_of_getElem? (i := 438) (by decide +kernel)) rfl
theorem qRX3_262 : Cond.constantDouble RX3 262 4611686018427387904 ∈ j_ws := j_in (List.mem_of_getElem? (i := 439) (by decide +kernel)) rfl
theorem qRX3_264 : Cond.constantDouble RX3 264 4841369599423283200 ∈ j_ws := j_in (List.mem_of_getElem? (i := 440) (by decide +kernel)) rfl
theorem qRX4_94 : Cond.constant RX4 94 99999 ∈ j_ws := j_in (List.mem_of_getElem? (i := 738) (by decide +kernel)) rfl
theorem qRX4_167 : Cond.constantDouble RX4 167 4627448617123184640 ∈ j_ws := j_in (List.mem_of_getElem? (i := 923) (by decide +kernel)) rfl
theorem qRX4_169 : Cond.constantLong RX4 169 3671 ∈ j_ws := j_in (List.mem_of_getElem? (i := 928) (by decide +kernel)) rfl
theorem qRX4_171 : Cond.constantLong RX4 171 31 ∈ j_ws := j_in (List.mem_of_getElem? (i := 929) (by decide +kernel)) rfl
theorem qRJxe99ae_137 : Cond.constantLong RJxe99ae 137 9221120237041090560 ∈ j_ws := j_in (List.mem_of_getElem? (i := 939) (by decide +kernel)) rfl
theorem kX0_init : j_cd MX0_init ∈ j_ws ∧ Cond.instanceMethod yX0_init ∈ j_ws ∧ Cond.initialized RX0 ∈ j_ws := ⟨j_in (List.mem_of_getElem? (i := 77) (by decide +kernel)) rfl, j_in (List.mem_of_getElem? (i := 76) (by decide +kernel)) rfl, j_in (List.mem_of_getElem? (i := 44) (by decide +kernel)) rfl⟩
theorem kX0_copyMill : j_kV MX0_copyMill 1 := ⟨rfl, j_in (List.mem_of_getElem? (i := 464) (by decide +kernel)) rfl, j_in (List.mem_of_getElem? (i := 462) (by decide +kernel)) rfl, j_in (List.mem_of_getElem? (i := 463) (by decide +kernel)) rfl, j_in (List.mem_of_getElem? (i := 44) (by decide +kernel)) rfl, by decide +kernel, by decide +kernel, by decide +kernel⟩
theorem kX0_addLot : j_kV MX0_addLot 2 := ⟨rfl, j_in (List.mem_of_getElem? (i := 503) (by decide +kernel)) rfl, j_in (List.mem_of_getElem? (i := 501) (by decide +kernel)) rfl, j_in (List.mem_of_getElem? (i := 502) (by decide +kernel)) rfl, j_in (List.mem_of_getElem? (i := 44) (by decide +kernel)) rfl, by decide +kernel, by decide +kernel, by decide +kernel⟩
theorem kX0_sacksWaiting : j_kV MX0_sacksWaiting 0 := ⟨rfl, j_in (List.mem_of_getElem? (i := 347) (by decide +kernel)) rfl, j_in (List.mem_of_getElem? (i := 345) (by decide +kernel)) rfl, j_in (List.mem_of_getElem? (i := 346) (by decide +kernel)) rfl, j_in (List.mem_of_getElem? (i := 44) (by decide +kernel)) rfl, by decide +kernel, by decide +kernel, by decide +kernel⟩
theorem kX0_sacksWaitingOf : j_kV MX0_sacksWaitingOf 1 := ⟨rfl, j_in (List.mem_of_getElem? (i := 420) (by decide +kernel)) rfl, j_in (List.mem_of_getElem? (i := 418) (by decide +kernel)) rfl, j_in (List.mem_of_getElem? (i := 419) (by decide +kernel)) rfl, j_in (List.mem_of_getElem? (i := 44) (by decide +kernel)) rfl, by decide +kernel, by decide +kernel, by decide +kernel⟩
theorem kX0_flourOf : j_kV MX0_flourOf 2 := ⟨rfl, j_in (List.mem_of_getElem? (i := 428) (by decide +kernel)) rfl, j_in (List.mem_of_getElem? (i := 426) (by decide +kernel)) rfl, j_in (List.mem_of_getElem? (i := 427) (by decide +kernel)) rfl, j_in (List.mem_of_getElem? (i := 44) (by decide +kernel)) rfl, by decide +kernel, by decide +kernel, by decide +kernel⟩
theorem kX0_grind : j_kV MX0_grind 2 := ⟨rfl, j_in (List.mem_of_getElem? (i := 543) (by decide +kernel)) rfl, j_in (List.mem_of_getElem? (i := 541) (by decide +kernel)) rfl, j_in (List.mem_of_getElem? (i := 542) (by decide +kernel)) rfl, j_in (List.mem_of_getElem? (i := 44) (by decide +kernel)) rfl, by decide +kernel, by decide +kernel, by decide +kernel⟩
theorem kX0_dropFirst : j_kV MX0_dropFirst 1 := ⟨rfl, j_in (List.mem_of_getElem? (i := 547) (by decide +kernel)) rfl, j_in (List.mem_of_getElem? (i := 546) (by decide +kernel)) rfl, j_in (List.mem_of_getElem? (i := 3) (by decide +kernel)) rfl, j_in (List.mem_of_getElem? (i := 44) (by decide +kernel)) rfl, by decide +kernel, by decide +kernel, by decide +kernel⟩
theorem kX1_init : j_cd MX1_init ∈ j_ws ∧ Cond.instanceMethod yX1_init ∈ j_ws ∧ Cond.initialized RX1 ∈ j_ws := ⟨j_in (List.mem_of_getElem? (i := 68) (by decide +kernel)) rfl, j_in (List.mem_of_getElem? (i := 67) (by decide +kernel)) rfl, j_in (List.mem_of_getElem? (i := 43) (by decide +kernel)) rfl⟩
theorem kX1_copyFrom : j_kV MX1_copyFrom 1 := ⟨rfl, j_in (List.mem_of_getElem? (i := 457) (by decide +kernel)) rfl, j_in (List.mem_of_getElem? (i := 455) (by decide +kernel)) rfl, j_in (List.mem_of_getElem? (i := 456) (by decide +kernel)) rfl, j_in (List.mem_of_getElem? (i := 43) (by decide +kernel)) rfl, by decide +kernel, by decide +kernel, by decide +kernel⟩
theorem kX1_vaneAgrees : j_kV MX1_vaneAgrees 2 := ⟨rfl, j_in (List.mem_of_getElem? (i := 235) (by decide +kernel)) rfl, j_in (List.mem_of_getElem? (i := 233) (by decide +kernel)) rfl, j_in (List.mem_of_getElem? (i := 234) (by decide +kernel)) rfl, j_in (List.mem_of_getElem? (i := 43) (by decide +kernel)) rfl, by decide +kernel, by decide +kernel, by decide +kernel⟩
theorem kX1_committee : j_kV MX1_committee 0 := ⟨rfl, j_in (List.mem_of_getElem? (i := 227) (by decide +kernel)) rfl, j_in (List.mem_of_getElem? (i := 225) (by decide +kernel)) rfl, j_in (List.mem_of_getElem? (i := 226) (by decide +kernel)) rfl, j_in (List.mem_of_getElem? (i := 43) (by decide +kernel)) rfl, by decide +kernel, by decide +kernel, by decide +kernel⟩
theorem kX1_votesIn : j_kV MX1_votesIn 1 := ⟨rfl, j_in (List.mem_of_getElem? (i := 231) (by decide +kernel)) rfl, j_in (List.mem_of_getElem? (i := 229) (by decide +kernel)) rfl, j_in (List.mem_of_getElem? (i := 230) (by decide +kernel)) rfl, j_in (List.mem_of_getElem? (i := 43) (by decide +kernel)) rfl, by decide +kernel, by decide +kernel, by decide +kernel⟩
theorem kX1_verdictOf : j_kV MX1_verdictOf 2 := ⟨rfl, j_in (List.mem_of_getElem? (i := 239) (by decide +kernel)) rfl, j_in (List.mem_of_getElem? (i := 237) (by decide +kernel)) rfl, j_in (List.mem_of_getElem? (i := 238) (by decide +kernel)) rfl, j_in (List.mem_of_getElem? (i := 43) (by decide +kernel)) rfl, by decide +kernel, by decide +kernel, by decide +kernel⟩
theorem kX1_verdictIn : j_kV MX1_verdictIn 1 := ⟨rfl, j_in (List.mem_of_getElem? (i := 223) (by decide +kernel)) rfl, j_in (List.mem_of_getElem? (i := 221) (by decide +kernel)) rfl, j_in (List.mem_of_getElem? (i := 222) (by decide +kernel)) rfl, j_in (List.mem_of_getElem? (i := 43) (by decide +kernel)) rfl, by decide +kernel, by decide +kernel, by decide +kernel⟩
theorem kX1_agreeingHours : j_kV MX1_agreeingHours 0 := ⟨rfl, j_in (List.mem_of_getElem? (i := 255) (by decide +kernel)) rfl, j_in (List.mem_of_getElem? (i := 253) (by decide +kernel)) rfl, j_in (List.mem_of_getElem? (i := 254) (by decide +kernel)) rfl, j_in (List.mem_of_getElem? (i := 43) (by decide +kernel)) rfl, by decide +kernel, by decide +kernel, by decide +kernel⟩
theorem kX1_hoursOfVane : j_kV MX1_hoursOfVane 1 := ⟨rfl, j_in (List.mem_of_getElem? (i := 391) (by decide +kernel)) rfl, j_in (List.mem_of_getElem? (i := 389) (by decide +kernel)) rfl, j_in (List.mem_of_getElem? (i := 390) (by decide +kernel)) rfl, j_in (List.mem_of_getElem? (i := 43) (by decide +kernel)) rfl, by decide +kernel, by decide +kernel, by decide +kernel⟩
theorem kX1_hoursTurnedBy : j_kV MX1_hoursTurnedBy 1 := ⟨rfl, j_in (List.mem_of_getElem? (i := 247) (by decide +kernel)) rfl, j_in (List.mem_of_getElem? (i := 245) (by decide +kernel)) rfl, j_in (List.mem_of_getElem? (i := 246) (by decide +kernel)) rfl, j_in (List.mem_of_getElem? (i := 43) (by decide +kernel)) rfl, by decide +kernel, by decide +kernel, by decide +kernel⟩
theorem kX1_sacksGroundIn : j_kV MX1_sacksGroundIn 1 := ⟨rfl, j_in (List.mem_of_getElem? (i := 383) (by decide +kernel)) rfl, j_in (List.mem_of_getElem? (i := 381) (by decide +kernel)) rfl, j_in (List.mem_of_getElem? (i := 382) (by decide +kernel)) rfl, j_in (List.mem_of_getElem? (i := 43) (by decide +kernel)) rfl, by decide +kernel, by decide +kernel, by decide +kernel⟩
theorem kX1_fillRates : j_kV MX1_fillRates 2 := ⟨rfl, j_in (List.mem_of_getElem? (i := 400) (by decide +kernel)) rfl, j_in (List.mem_of_getElem? (i := 398) (by decide +kernel)) rfl, j_in (List.mem_of_getElem? (i := 399) (by decide +kernel)) rfl, j_in (List.mem_of_getElem? (i := 43) (by decide +kernel)) rfl, by decide +kernel, by decide +kernel, by decide +kernel⟩
theorem kX1_passHour : j_kV MX1_passHour 0 := ⟨rfl, j_in (List.mem_of_getElem? (i := 539) (by decide +kernel)) rfl, j_in (List.mem_of_getElem? (i := 537) (by decide +kernel)) rfl, j_in (List.mem_of_getElem? (i := 538) (by decide +kernel)) rfl, j_in (List.mem_of_getElem? (i := 43) (by decide +kernel)) rfl, by decide +kernel, by decide +kernel, by decide +kernel⟩
theorem kX1_sacksWaiting : j_kV MX1_sacksWaiting 0 := ⟨rfl, j_in (List.mem_of_getElem? (i := 343) (by decide +kernel)) rfl, j_in (List.mem_of_getElem? (i := 341) (by decide +kernel)) rfl, j_in (List.mem_of_getElem? (i := 342) (by decide +kernel)) rfl, j_in (List.mem_of_getElem? (i := 43) (by decide +kernel)) rfl, by decide +kernel, by decide +kernel, by decide +kernel⟩
theorem kX1_sacksWaitingOf : j_kV MX1_sacksWaitingOf 1 := ⟨rfl, j_in (List.mem_of_getElem? (i := 416) (by decide +kernel)) rfl, j_in (List.mem_of_getElem? (i := 414) (by decide +kernel)) rfl, j_in (List.mem_of_getElem? (i := 415) (by decide +kernel)) rfl, j_in (List.mem_of_getElem? (i := 43) (by decide +kernel)) rfl, by decide +kernel, by decide +kernel, by decide +kernel⟩
theorem kX1_flourOfAll : j_kV MX1_flourOfAll 0 := ⟨rfl, j_in (List.mem_of_getElem? (i := 351) (by decide +kernel)) rfl, j_in (List.mem_of_getElem? (i := 349) (by decide +kernel)) rfl, j_in (List.mem_of_getElem? (i := 350) (by decide +kernel)) rfl, j_in (List.mem_of_getElem? (i := 43) (by decide +kernel)) rfl, by decide +kernel, by decide +kernel, by decide +kernel⟩
theorem kX2_init : j_cd MX2_init ∈ j_ws ∧ Cond.instanceMethod yX2_init ∈ j_ws ∧ Cond.initialized RX2 ∈ j_ws := ⟨j_in (List.mem_of_getElem? (i := 158) (by decide +kernel)) rfl, j_in (List.mem_of_getElem? (i := 157) (by decide +kernel)) rfl, j_in (List.mem_of_getElem? (i := 45) (by decide +kernel)) rfl⟩
theorem kX2_firstWrong : j_kV MX2_firstWrong 0 := ⟨rfl, j_in (List.mem_of_getElem? (i := 206) (by decide +kernel)) rfl, j_in (List.mem_of_getElem? (i := 204) (by decide +kernel)) rfl, j_in (List.mem_of_getElem? (i := 205) (by decide +kernel)) rfl, j_in (List.mem_of_getElem? (i := 45) (by decide +kernel)) rfl, by decide +kernel, by decide +kernel, by decide +kernel⟩
theorem kX2_isWhole : j_kV MX2_isWhole 0 := ⟨rfl, j_in (List.mem_of_getElem? (i := 566) (by decide +kernel)) rfl, j_in (List.mem_of_getElem? (i := 564) (by decide +kernel)) rfl, j_in (List.mem_of_getElem? (i := 565) (by decide +kernel)) rfl, j_in (List.mem_of_getElem? (i := 45) (by decide +kernel)) rfl, by decide +kernel, by decide +kernel, by decide +kernel⟩
theorem kX2_blowInto : j_kV MX2_blowInto 1 := ⟨rfl, j_in (List.mem_of_getElem? (i := 571) (by decide +kernel)) rfl, j_in (List.mem_of_getElem? (i := 569) (by decide +kernel)) rfl, j_in (List.mem_of_getElem? (i := 570) (by decide +kernel)) rfl, j_in (List.mem_of_getElem? (i := 45) (by decide +kernel)) rfl, by decide +kernel, by decide +kernel, by decide +kernel⟩
theorem kX2_placeAfter : j_kS MX2_placeAfter 2 := ⟨rfl, j_in (List.mem_of_getElem? (i := 209) (by decide +kernel)) rfl, j_in (List.mem_of_getElem? (i := 208) (by decide +kernel)) rfl, j_in (List.mem_of_getElem? (i := 45) (by decide +kernel)) rfl, by decide +kernel, by decide +kernel, by decide +kernel⟩
theorem kX2_afterFirstDigit : j_kS MX2_afterFirstDigit 1 := ⟨rfl, j_in (List.mem_of_getElem? (i := 212) (by decide +kernel)) rfl, j_in (List.mem_of_getElem? (i := 211) (by decide +kernel)) rfl, j_in (List.mem_of_getElem? (i := 45) (by decide +kernel)) rfl, by decide +kernel, by decide +kernel, by decide +kernel⟩
theorem kX2_afterHour : j_kS MX2_afterHour 1 := ⟨rfl, j_in (List.mem_of_getElem? (i := 215) (by decide +kernel)) rfl, j_in (List.mem_of_getElem? (i := 214) (by decide +kernel)) rfl, j_in (List.mem_of_getElem? (i := 45) (by decide +kernel)) rfl, by decide +kernel, by decide +kernel, by decide +kernel⟩
theorem kX3_init : j_cd MX3_init ∈ j_ws ∧ Cond.instanceMethod yX3_init ∈ j_ws ∧ Cond.initialized RX3 ∈ j_ws := ⟨j_in (List.mem_of_getElem? (i := 60) (by decide +kernel)) rfl, j_in (List.mem_of_getElem? (i := 59) (by decide +kernel)) rfl, j_in (List.mem_of_getElem? (i := 42) (by decide +kernel)) rfl⟩
theorem kX3_wind : j_kV MX3_wind 3 := ⟨rfl, j_in (List.mem_of_getElem? (i := 449) (by decide +kernel)) rfl, j_in (List.mem_of_getElem? (i := 447) (by decide +kernel)) rfl, j_in (List.mem_of_getElem? (i := 448) (by decide +kernel)) rfl, j_in (List.mem_of_getElem? (i := 42) (by decide +kernel)) rfl, by decide +kernel, by decide +kernel, by decide +kernel⟩
theorem kX3_vane : j_kV MX3_vane 3 := ⟨rfl, j_in (List.mem_of_getElem? (i := 472) (by decide +kernel)) rfl, j_in (List.mem_of_getElem? (i := 470) (by decide +kernel)) rfl, j_in (List.mem_of_getElem? (i := 471) (by decide +kernel)) rfl, j_in (List.mem_of_getElem? (i := 42) (by decide +kernel)) rfl, by decide +kernel, by decide +kernel, by decide +kernel⟩
theorem kX3_mill : j_kV MX3_mill 2 := ⟨rfl, j_in (List.mem_of_getElem? (i := 481) (by decide +kernel)) rfl, j_in (List.mem_of_getElem? (i := 479) (by decide +kernel)) rfl, j_in (List.mem_of_getElem? (i := 480) (by decide +kernel)) rfl, j_in (List.mem_of_getElem? (i := 42) (by decide +kernel)) rfl, by decide +kernel, by decide +kernel, by decide +kernel⟩
theorem kX3_set : j_kV MX3_set 2 := ⟨rfl, j_in (List.mem_of_getElem? (i := 488) (by decide +kernel)) rfl, j_in (List.mem_of_getElem? (i := 486) (by decide +kernel)) rfl, j_in (List.mem_of_getElem? (i := 487) (by decide +kernel)) rfl, j_in (List.mem_of_getElem? (i := 42) (by decide +kernel)) rfl, by decide +kernel, by decide +kernel, by decide +kernel⟩
theorem kX3_bring : j_kV MX3_bring 3 := ⟨rfl, j_in (List.mem_of_getElem? (i := 499) (by decide +kernel)) rfl, j_in (List.mem_of_getElem? (i := 497) (by decide +kernel)) rfl, j_in (List.mem_of_getElem? (i := 498) (by decide +kernel)) rfl, j_in (List.mem_of_getElem? (i := 42) (by decide +kernel)) rfl, by decide +kernel, by decide +kernel, by decide +kernel⟩
theorem kX3_takeBack : j_kV MX3_takeBack 1 := ⟨rfl, j_in (List.mem_of_getElem? (i := 510) (by decide +kernel)) rfl, j_in (List.mem_of_getElem? (i := 508) (by decide +kernel)) rfl, j_in (List.mem_of_getElem? (i := 509) (by decide +kernel)) rfl, j_in (List.mem_of_getElem? (i := 42) (by decide +kernel)) rfl, by decide +kernel, by decide +kernel, by decide +kernel⟩
theorem kX3_pass : j_kV MX3_pass 1 := ⟨rfl, j_in (List.mem_of_getElem? (i := 518) (by decide +kernel)) rfl, j_in (List.mem_of_getElem? (i := 516) (by decide +kernel)) rfl, j_in (List.mem_of_getElem? (i := 517) (by decide +kernel)) rfl, j_in (List.mem_of_getElem? (i := 42) (by decide +kernel)) rfl, by decide +kernel, by decide +kernel, by decide +kernel⟩
theorem kX3_append : j_kV MX3_append 1 := ⟨rfl, j_in (List.mem_of_getElem? (i := 554) (by decide +kernel)) rfl, j_in (List.mem_of_getElem? (i := 552) (by decide +kernel)) rfl, j_in (List.mem_of_getElem? (i := 553) (by decide +kernel)) rfl, j_in (List.mem_of_getElem? (i := 42) (by decide +kernel)) rfl, by decide +kernel, by decide +kernel, by decide +kernel⟩
theorem kX3_clearBuffer : j_kV MX3_clearBuffer 0 := ⟨rfl, j_in (List.mem_of_getElem? (i := 198) (by decide +kernel)) rfl, j_in (List.mem_of_getElem? (i := 196) (by decide +kernel)) rfl, j_in (List.mem_of_getElem? (i := 197) (by decide +kernel)) rfl, j_in (List.mem_of_getElem? (i := 42) (by decide +kernel)) rfl, by decide +kernel, by decide +kernel, by decide +kernel⟩
theorem kX3_firstError : j_kV MX3_firstError 0 := ⟨rfl, j_in (List.mem_of_getElem? (i := 202) (by decide +kernel)) rfl, j_in (List.mem_of_getElem? (i := 200) (by decide +kernel)) rfl, j_in (List.mem_of_getElem? (i := 201) (by decide +kernel)) rfl, j_in (List.mem_of_getElem? (i := 42) (by decide +kernel)) rfl, by decide +kernel, by decide +kernel, by decide +kernel⟩
theorem kX3_load : j_kV MX3_load 0 := ⟨rfl, j_in (List.mem_of_getElem? (i := 562) (by decide +kernel)) rfl, j_in (List.mem_of_getElem? (i := 560) (by decide +kernel)) rfl, j_in (List.mem_of_getElem? (i := 561) (by decide +kernel)) rfl, j_in (List.mem_of_getElem? (i := 42) (by decide +kernel)) rfl, by decide +kernel, by decide +kernel, by decide +kernel⟩
theorem kX3_keep : j_kV MX3_keep 1 := ⟨rfl, j_in (List.mem_of_getElem? (i := 578) (by decide +kernel)) rfl, j_in (List.mem_of_getElem? (i := 576) (by decide +kernel)) rfl, j_in (List.mem_of_getElem? (i := 577) (by decide +kernel)) rfl, j_in (List.mem_of_getElem? (i := 42) (by decide +kernel)) rfl, by decide +kernel, by decide +kernel, by decide +kernel⟩
theorem kX3_goBack : j_kV MX3_goBack 1 := ⟨rfl, j_in (List.mem_of_getElem? (i := 585) (by decide +kernel)) rfl, j_in (List.mem_of_getElem? (i := 583) (by decide +kernel)) rfl, j_in (List.mem_of_getElem? (i := 584) (by decide +kernel)) rfl, j_in (List.mem_of_getElem? (i := 42) (by decide +kernel)) rfl, by decide +kernel, by decide +kernel, by decide +kernel⟩
theorem kX3_undo : j_kV MX3_undo 0 := ⟨rfl, j_in (List.mem_of_getElem? (i := 593) (by decide +kernel)) rfl, j_in (List.mem_of_getElem? (i := 591) (by decide +kernel)) rfl, j_in (List.mem_of_getElem? (i := 592) (by decide +kernel)) rfl, j_in (List.mem_of_getElem? (i := 42) (by decide +kernel)) rfl, by decide +kernel, by decide +kernel, by decide +kernel⟩
theorem kX3_hourOf : j_kV MX3_hourOf 2 := ⟨rfl, j_in (List.mem_of_getElem? (i := 378) (by decide +kernel)) rfl, j_in (List.mem_of_getElem? (i := 376) (by decide +kernel)) rfl, j_in (List.mem_of_getElem? (i := 377) (by decide +kernel)) rfl, j_in (List.mem_of_getElem? (i := 42) (by decide +kernel)) rfl, by decide +kernel, by decide +kernel, by decide +kernel⟩
theorem kX3_vaneOf : j_kV MX3_vaneOf 2 := ⟨rfl, j_in (List.mem_of_getElem? (i := 387) (by decide +kernel)) rfl, j_in (List.mem_of_getElem? (i := 385) (by decide +kernel)) rfl, j_in (List.mem_of_getElem? (i := 386) (by decide +kernel)) rfl, j_in (List.mem_of_getElem? (i := 42) (by decide +kernel)) rfl, by decide +kernel, by decide +kernel, by decide +kernel⟩
theorem kX3_millOf : j_kV MX3_millOf 2 := ⟨rfl, j_in (List.mem_of_getElem? (i := 395) (by decide +kernel)) rfl, j_in (List.mem_of_getElem? (i := 393) (by decide +kernel)) rfl, j_in (List.mem_of_getElem? (i := 394) (by decide +kernel)) rfl, j_in (List.mem_of_getElem? (i := 42) (by decide +kernel)) rfl, by decide +kernel, by decide +kernel, by decide +kernel⟩
theorem kX3_ownerOf : j_kV MX3_ownerOf 2 := ⟨rfl, j_in (List.mem_of_getElem? (i := 412) (by decide +kernel)) rfl, j_in (List.mem_of_getElem? (i := 410) (by decide +kernel)) rfl, j_in (List.mem_of_getElem? (i := 411) (by decide +kernel)) rfl, j_in (List.mem_of_getElem? (i := 42) (by decide +kernel)) rfl, by decide +kernel, by decide +kernel, by decide +kernel⟩
theorem kX3_count : j_kV MX3_count 1 := ⟨rfl, j_in (List.mem_of_getElem? (i := 267) (by decide +kernel)) rfl, j_in (List.mem_of_getElem? (i := 265) (by decide +kernel)) rfl, j_in (List.mem_of_getElem? (i := 266) (by decide +kernel)) rfl, j_in (List.mem_of_getElem? (i := 42) (by decide +kernel)) rfl, by decide +kernel, by decide +kernel, by decide +kernel⟩
theorem kX3_setting : j_kV MX3_setting 1 := ⟨rfl, j_in (List.mem_of_getElem? (i := 355) (by decide +kernel)) rfl, j_in (List.mem_of_getElem? (i := 353) (by decide +kernel)) rfl, j_in (List.mem_of_getElem? (i := 354) (by decide +kernel)) rfl, j_in (List.mem_of_getElem? (i := 42) (by decide +kernel)) rfl, by decide +kernel, by decide +kernel, by decide +kernel⟩
theorem kX3_doneIn : j_kV MX3_doneIn 2 := ⟨rfl, j_in (List.mem_of_getElem? (i := 404) (by decide +kernel)) rfl, j_in (List.mem_of_getElem? (i := 402) (by decide +kernel)) rfl, j_in (List.mem_of_getElem? (i := 403) (by decide +kernel)) rfl, j_in (List.mem_of_getElem? (i := 42) (by decide +kernel)) rfl, by decide +kernel, by decide +kernel, by decide +kernel⟩
theorem kX3_ifPassed : j_kV MX3_ifPassed 2 := ⟨rfl, j_in (List.mem_of_getElem? (i := 424) (by decide +kernel)) rfl, j_in (List.mem_of_getElem? (i := 422) (by decide +kernel)) rfl, j_in (List.mem_of_getElem? (i := 423) (by decide +kernel)) rfl, j_in (List.mem_of_getElem? (i := 42) (by decide +kernel)) rfl, by decide +kernel, by decide +kernel, by decide +kernel⟩
theorem kX3_turnsIn : j_kV MX3_turnsIn 0 := ⟨rfl, j_in (List.mem_of_getElem? (i := 219) (by decide +kernel)) rfl, j_in (List.mem_of_getElem? (i := 217) (by decide +kernel)) rfl, j_in (List.mem_of_getElem? (i := 218) (by decide +kernel)) rfl, j_in (List.mem_of_getElem? (i := 42) (by decide +kernel)) rfl, by decide +kernel, by decide +kernel, by decide +kernel⟩
theorem kX3_mainVane : j_kV MX3_mainVane 0 := ⟨rfl, j_in (List.mem_of_getElem? (i := 243) (by decide +kernel)) rfl, j_in (List.mem_of_getElem? (i := 241) (by decide +kernel)) rfl, j_in (List.mem_of_getElem? (i := 242) (by decide +kernel)) rfl, j_in (List.mem_of_getElem? (i := 42) (by decide +kernel)) rfl, by decide +kernel, by decide +kernel, by decide +kernel⟩
theorem kX3_turnShare : j_kV MX3_turnShare 0 := ⟨rfl, j_in (List.mem_of_getElem? (i := 251) (by decide +kernel)) rfl, j_in (List.mem_of_getElem? (i := 249) (by decide +kernel)) rfl, j_in (List.mem_of_getElem? (i := 250) (by decide +kernel)) rfl, j_in (List.mem_of_getElem? (i := 42) (by decide +kernel)) rfl, by decide +kernel, by decide +kernel, by decide +kernel⟩
theorem kX3_digest : j_kV MX3_digest 0 := ⟨rfl, j_in (List.mem_of_getElem? (i := 261) (by decide +kernel)) rfl, j_in (List.mem_of_getElem? (i := 259) (by decide +kernel)) rfl, j_in (List.mem_of_getElem? (i := 260) (by decide +kernel)) rfl, j_in (List.mem_of_getElem? (i := 42) (by decide +kernel)) rfl, by decide +kernel, by decide +kernel, by decide +kernel⟩
theorem kX3_needIndex : j_kS MX3_needIndex 2 := ⟨rfl, j_in (List.mem_of_getElem? (i := 358) (by decide +kernel)) rfl, j_in (List.mem_of_getElem? (i := 357) (by decide +kernel)) rfl, j_in (List.mem_of_getElem? (i := 42) (by decide +kernel)) rfl, by decide +kernel, by decide +kernel, by decide +kernel⟩
theorem kX3_needRange : j_kS MX3_needRange 3 := ⟨rfl, j_in (List.mem_of_getElem? (i := 270) (by decide +kernel)) rfl, j_in (List.mem_of_getElem? (i := 269) (by decide +kernel)) rfl, j_in (List.mem_of_getElem? (i := 42) (by decide +kernel)) rfl, by decide +kernel, by decide +kernel, by decide +kernel⟩
theorem kX3_saveState : j_kV MX3_saveState 0 := ⟨rfl, j_in (List.mem_of_getElem? (i := 453) (by decide +kernel)) rfl, j_in (List.mem_of_getElem? (i := 452) (by decide +kernel)) rfl, j_in (List.mem_of_getElem? (i := 2) (by decide +kernel)) rfl, j_in (List.mem_of_getElem? (i := 42) (by decide +kernel)) rfl, by decide +kernel, by decide +kernel, by decide +kernel⟩
theorem kX3_hoursUntilGround : j_kV MX3_hoursUntilGround 1 := ⟨rfl, j_in (List.mem_of_getElem? (i := 408) (by decide +kernel)) rfl, j_in (List.mem_of_getElem? (i := 407) (by decide +kernel)) rfl, j_in (List.mem_of_getElem? (i := 1) (by decide +kernel)) rfl, j_in (List.mem_of_getElem? (i := 42) (by decide +kernel)) rfl, by decide +kernel, by decide +kernel, by decide +kernel⟩
theorem kX3_bitsOf : j_kS MX3_bitsOf 1 := ⟨rfl, j_in (List.mem_of_getElem? (i := 437) (by decide +kernel)) rfl, j_in (List.mem_of_getElem? (i := 436) (by decide +kernel)) rfl, j_in (List.mem_of_getElem? (i := 42) (by decide +kernel)) rfl, by decide +kernel, by decide +kernel, by decide +kernel⟩
theorem kX4_init : j_cd MX4_init ∈ j_ws ∧ Cond.instanceMethod yX4_init ∈ j_ws ∧ Cond.initialized RX4 ∈ j_ws := ⟨j_in (List.mem_of_getElem? (i := 631) (by decide +kernel)) rfl, j_in (List.mem_of_getElem? (i := 630) (by decide +kernel)) rfl, j_in (List.mem_of_getElem? (i := 46) (by decide +kernel)) rfl⟩
theorem kX4_thrown : j_kV MX4_thrown 0 := ⟨rfl, j_in (List.mem_of_getElem? (i := 667) (by decide +kernel)) rfl, j_in (List.mem_of_getElem? (i := 665) (by decide +kernel)) rfl, j_in (List.mem_of_getElem? (i := 666) (by decide +kernel)) rfl, j_in (List.mem_of_getElem? (i := 46) (by decide +kernel)) rfl, by decide +kernel, by decide +kernel, by decide +kernel⟩
theorem kX4_in : j_kS MX4_in 3 := ⟨rfl, j_in (List.mem_of_getElem? (i := 678) (by decide +kernel)) rfl, j_in (List.mem_of_getElem? (i := 677) (by decide +kernel)) rfl, j_in (List.mem_of_getElem? (i := 46) (by decide +kernel)) rfl, by decide +kernel, by decide +kernel, by decide +kernel⟩
theorem kX4_vaneAt : j_kV MX4_vaneAt 2 := ⟨rfl, j_in (List.mem_of_getElem? (i := 762) (by decide +kernel)) rfl, j_in (List.mem_of_getElem? (i := 761) (by decide +kernel)) rfl, j_in (List.mem_of_getElem? (i := 15) (by decide +kernel)) rfl, j_in (List.mem_of_getElem? (i := 46) (by decide +kernel)) rfl, by decide +kernel, by decide +kernel, by decide +kernel⟩
theorem kX4_millAt : j_kV MX4_millAt 2 := ⟨rfl, j_in (List.mem_of_getElem? (i := 717) (by decide +kernel)) rfl, j_in (List.mem_of_getElem? (i := 716) (by decide +kernel)) rfl, j_in (List.mem_of_getElem? (i := 6) (by decide +kernel)) rfl, j_in (List.mem_of_getElem? (i := 46) (by decide +kernel)) rfl, by decide +kernel, by decide +kernel, by decide +kernel⟩
theorem kX4_ownerAt : j_kV MX4_ownerAt 2 := ⟨rfl, j_in (List.mem_of_getElem? (i := 862) (by decide +kernel)) rfl, j_in (List.mem_of_getElem? (i := 861) (by decide +kernel)) rfl, j_in (List.mem_of_getElem? (i := 32) (by decide +kernel)) rfl, j_in (List.mem_of_getElem? (i := 46) (by decide +kernel)) rfl, by decide +kernel, by decide +kernel, by decide +kernel⟩
theorem kX4_addToMill : j_kV MX4_addToMill 3 := ⟨rfl, j_in (List.mem_of_getElem? (i := 721) (by decide +kernel)) rfl, j_in (List.mem_of_getElem? (i := 720) (by decide +kernel)) rfl, j_in (List.mem_of_getElem? (i := 7) (by decide +kernel)) rfl, j_in (List.mem_of_getElem? (i := 46) (by decide +kernel)) rfl, by decide +kernel, by decide +kernel, by decide +kernel⟩
theorem kX4_addToOwner : j_kV MX4_addToOwner 3 := ⟨rfl, j_in (List.mem_of_getElem? (i := 725) (by decide +kernel)) rfl, j_in (List.mem_of_getElem? (i := 724) (by decide +kernel)) rfl, j_in (List.mem_of_getElem? (i := 8) (by decide +kernel)) rfl, j_in (List.mem_of_getElem? (i := 46) (by decide +kernel)) rfl, by decide +kernel, by decide +kernel, by decide +kernel⟩
theorem kX4_record : j_kV MX4_record 0 := ⟨rfl, j_in (List.mem_of_getElem? (i := 686) (by decide +kernel)) rfl, j_in (List.mem_of_getElem? (i := 685) (by decide +kernel)) rfl, j_in (List.mem_of_getElem? (i := 4) (by decide +kernel)) rfl, j_in (List.mem_of_getElem? (i := 46) (by decide +kernel)) rfl, by decide +kernel, by decide +kernel, by decide +kernel⟩
theorem kX4_undo : j_kV MX4_undo 0 := ⟨rfl, j_in (List.mem_of_getElem? (i := 671) (by decide +kernel)) rfl, j_in (List.mem_of_getElem? (i := 669) (by decide +kernel)) rfl, j_in (List.mem_of_getElem? (i := 670) (by decide +kernel)) rfl, j_in (List.mem_of_getElem? (i := 46) (by decide +kernel)) rfl, by decide +kernel, by decide +kernel, by decide +kernel⟩
theorem kX4_keep : j_kV MX4_keep 1 := ⟨rfl, j_in (List.mem_of_getElem? (i := 675) (by decide +kernel)) rfl, j_in (List.mem_of_getElem? (i := 673) (by decide +kernel)) rfl, j_in (List.mem_of_getElem? (i := 674) (by decide +kernel)) rfl, j_in (List.mem_of_getElem? (i := 46) (by decide +kernel)) rfl, by decide +kernel, by decide +kernel, by decide +kernel⟩
theorem kX4_goBack : j_kV MX4_goBack 1 := ⟨rfl, j_in (List.mem_of_getElem? (i := 682) (by decide +kernel)) rfl, j_in (List.mem_of_getElem? (i := 680) (by decide +kernel)) rfl, j_in (List.mem_of_getElem? (i := 681) (by decide +kernel)) rfl, j_in (List.mem_of_getElem? (i := 46) (by decide +kernel)) rfl, by decide +kernel, by decide +kernel, by decide +kernel⟩
theorem kX4_putAside : j_kV MX4_putAside 0 := ⟨rfl, j_in (List.mem_of_getElem? (i := 898) (by decide +kernel)) rfl, j_in (List.mem_of_getElem? (i := 897) (by decide +kernel)) rfl, j_in (List.mem_of_getElem? (i := 37) (by decide +kernel)) rfl, j_in (List.mem_of_getElem? (i := 46) (by decide +kernel)) rfl, by decide +kernel, by decide +kernel, by decide +kernel⟩
theorem kX4_putBack : j_kV MX4_putBack 0 := ⟨rfl, j_in (List.mem_of_getElem? (i := 902) (by decide +kernel)) rfl, j_in (List.mem_of_getElem? (i := 901) (by decide +kernel)) rfl, j_in (List.mem_of_getElem? (i := 38) (by decide +kernel)) rfl, j_in (List.mem_of_getElem? (i := 46) (by decide +kernel)) rfl, by decide +kernel, by decide +kernel, by decide +kernel⟩
theorem kX4_agrees : j_kV MX4_agrees 2 := ⟨rfl, j_in (List.mem_of_getElem? (i := 770) (by decide +kernel)) rfl, j_in (List.mem_of_getElem? (i := 769) (by decide +kernel)) rfl, j_in (List.mem_of_getElem? (i := 17) (by decide +kernel)) rfl, j_in (List.mem_of_getElem? (i := 46) (by decide +kernel)) rfl, by decide +kernel, by decide +kernel, by decide +kernel⟩
theorem kX4_committee : j_kV MX4_committee 0 := ⟨rfl, j_in (List.mem_of_getElem? (i := 758) (by decide +kernel)) rfl, j_in (List.mem_of_getElem? (i := 757) (by decide +kernel)) rfl, j_in (List.mem_of_getElem? (i := 14) (by decide +kernel)) rfl, j_in (List.mem_of_getElem? (i := 46) (by decide +kernel)) rfl, by decide +kernel, by decide +kernel, by decide +kernel⟩
theorem kX4_agreeing : j_kV MX4_agreeing 1 := ⟨rfl, j_in (List.mem_of_getElem? (i := 766) (by decide +kernel)) rfl, j_in (List.mem_of_getElem? (i := 765) (by decide +kernel)) rfl, j_in (List.mem_of_getElem? (i := 16) (by decide +kernel)) rfl, j_in (List.mem_of_getElem? (i := 46) (by decide +kernel)) rfl, by decide +kernel, by decide +kernel, by decide +kernel⟩
theorem kX4_whyNot : j_kV MX4_whyNot 1 := ⟨rfl, j_in (List.mem_of_getElem? (i := 754) (by decide +kernel)) rfl, j_in (List.mem_of_getElem? (i := 753) (by decide +kernel)) rfl, j_in (List.mem_of_getElem? (i := 13) (by decide +kernel)) rfl, j_in (List.mem_of_getElem? (i := 46) (by decide +kernel)) rfl, by decide +kernel, by decide +kernel, by decide +kernel⟩
theorem kX4_hoursOfDay : j_kV MX4_hoursOfDay 0 := ⟨rfl, j_in (List.mem_of_getElem? (i := 810) (by decide +kernel)) rfl, j_in (List.mem_of_getElem? (i := 809) (by decide +kernel)) rfl, j_in (List.mem_of_getElem? (i := 23) (by decide +kernel)) rfl, j_in (List.mem_of_getElem? (i := 46) (by decide +kernel)) rfl, by decide +kernel, by decide +kernel, by decide +kernel⟩
theorem kX4_much : j_kV MX4_much 2 := ⟨rfl, j_in (List.mem_of_getElem? (i := 750) (by decide +kernel)) rfl, j_in (List.mem_of_getElem? (i := 749) (by decide +kernel)) rfl, j_in (List.mem_of_getElem? (i := 12) (by decide +kernel)) rfl, j_in (List.mem_of_getElem? (i := 46) (by decide +kernel)) rfl, by decide +kernel, by decide +kernel, by decide +kernel⟩
theorem kX4_muchInDay : j_kV MX4_muchInDay 1 := ⟨rfl, j_in (List.mem_of_getElem? (i := 846) (by decide +kernel)) rfl, j_in (List.mem_of_getElem? (i := 845) (by decide +kernel)) rfl, j_in (List.mem_of_getElem? (i := 29) (by decide +kernel)) rfl, j_in (List.mem_of_getElem? (i := 46) (by decide +kernel)) rfl, by decide +kernel, by decide +kernel, by decide +kernel⟩
theorem kX4_waiting : j_kV MX4_waiting 1 := ⟨rfl, j_in (List.mem_of_getElem? (i := 729) (by decide +kernel)) rfl, j_in (List.mem_of_getElem? (i := 728) (by decide +kernel)) rfl, j_in (List.mem_of_getElem? (i := 9) (by decide +kernel)) rfl, j_in (List.mem_of_getElem? (i := 46) (by decide +kernel)) rfl, by decide +kernel, by decide +kernel, by decide +kernel⟩
theorem kX4_dropFirst : j_kV MX4_dropFirst 1 := ⟨rfl, j_in (List.mem_of_getElem? (i := 778) (by decide +kernel)) rfl, j_in (List.mem_of_getElem? (i := 777) (by decide +kernel)) rfl, j_in (List.mem_of_getElem? (i := 19) (by decide +kernel)) rfl, j_in (List.mem_of_getElem? (i := 46) (by decide +kernel)) rfl, by decide +kernel, by decide +kernel, by decide +kernel⟩
theorem kX4_grind : j_kV MX4_grind 2 := ⟨rfl, j_in (List.mem_of_getElem? (i := 774) (by decide +kernel)) rfl, j_in (List.mem_of_getElem? (i := 773) (by decide +kernel)) rfl, j_in (List.mem_of_getElem? (i := 18) (by decide +kernel)) rfl, j_in (List.mem_of_getElem? (i := 46) (by decide +kernel)) rfl, by decide +kernel, by decide +kernel, by decide +kernel⟩
theorem kX4_doHour : j_kV MX4_doHour 0 := ⟨rfl, j_in (List.mem_of_getElem? (i := 746) (by decide +kernel)) rfl, j_in (List.mem_of_getElem? (i := 745) (by decide +kernel)) rfl, j_in (List.mem_of_getElem? (i := 11) (by decide +kernel)) rfl, j_in (List.mem_of_getElem? (i := 46) (by decide +kernel)) rfl, by decide +kernel, by decide +kernel, by decide +kernel⟩
theorem kX4_doHours : j_kV MX4_doHours 1 := ⟨rfl, j_in (List.mem_of_getElem? (i := 742) (by decide +kernel)) rfl, j_in (List.mem_of_getElem? (i := 741) (by decide +kernel)) rfl, j_in (List.mem_of_getElem? (i := 10) (by decide +kernel)) rfl, j_in (List.mem_of_getElem? (i := 46) (by decide +kernel)) rfl, by decide +kernel, by decide +kernel, by decide +kernel⟩
theorem kX4_change : j_kV MX4_change 2 := ⟨rfl, j_in (List.mem_of_getElem? (i := 701) (by decide +kernel)) rfl, j_in (List.mem_of_getElem? (i := 700) (by decide +kernel)) rfl, j_in (List.mem_of_getElem? (i := 5) (by decide +kernel)) rfl, j_in (List.mem_of_getElem? (i := 46) (by decide +kernel)) rfl, by decide +kernel, by decide +kernel, by decide +kernel⟩
theorem kX4_wind : j_kV MX4_wind 3 := ⟨rfl, j_in (List.mem_of_getElem? (i := 690) (by decide +kernel)) rfl, j_in (List.mem_of_getElem? (i := 688) (by decide +kernel)) rfl, j_in (List.mem_of_getElem? (i := 689) (by decide +kernel)) rfl, j_in (List.mem_of_getElem? (i := 46) (by decide +kernel)) rfl, by decide +kernel, by decide +kernel, by decide +kernel⟩
theorem kX4_most : j_kS MX4_most 1 := ⟨rfl, j_in (List.mem_of_getElem? (i := 697) (by decide +kernel)) rfl, j_in (List.mem_of_getElem? (i := 696) (by decide +kernel)) rfl, j_in (List.mem_of_getElem? (i := 46) (by decide +kernel)) rfl, by decide +kernel, by decide +kernel, by decide +kernel⟩
theorem kX4_vane : j_kV MX4_vane 3 := ⟨rfl, j_in (List.mem_of_getElem? (i := 694) (by decide +kernel)) rfl, j_in (List.mem_of_getElem? (i := 692) (by decide +kernel)) rfl, j_in (List.mem_of_getElem? (i := 693) (by decide +kernel)) rfl, j_in (List.mem_of_getElem? (i := 46) (by decide +kernel)) rfl, by decide +kernel, by decide +kernel, by decide +kernel⟩
theorem kX4_mill : j_kV MX4_mill 2 := ⟨rfl, j_in (List.mem_of_getElem? (i := 705) (by decide +kernel)) rfl, j_in (List.mem_of_getElem? (i := 703) (by decide +kernel)) rfl, j_in (List.mem_of_getElem? (i := 704) (by decide +kernel)) rfl, j_in (List.mem_of_getElem? (i := 46) (by decide +kernel)) rfl, by decide +kernel, by decide +kernel, by decide +kernel⟩
theorem kX4_set : j_kV MX4_set 2 := ⟨rfl, j_in (List.mem_of_getElem? (i := 709) (by decide +kernel)) rfl, j_in (List.mem_of_getElem? (i := 707) (by decide +kernel)) rfl, j_in (List.mem_of_getElem? (i := 708) (by decide +kernel)) rfl, j_in (List.mem_of_getElem? (i := 46) (by decide +kernel)) rfl, by decide +kernel, by decide +kernel, by decide +kernel⟩
theorem kX4_bring : j_kV MX4_bring 3 := ⟨rfl, j_in (List.mem_of_getElem? (i := 713) (by decide +kernel)) rfl, j_in (List.mem_of_getElem? (i := 711) (by decide +kernel)) rfl, j_in (List.mem_of_getElem? (i := 712) (by decide +kernel)) rfl, j_in (List.mem_of_getElem? (i := 46) (by decide +kernel)) rfl, by decide +kernel, by decide +kernel, by decide +kernel⟩
theorem kX4_takeBack : j_kV MX4_takeBack 1 := ⟨rfl, j_in (List.mem_of_getElem? (i := 733) (by decide +kernel)) rfl, j_in (List.mem_of_getElem? (i := 731) (by decide +kernel)) rfl, j_in (List.mem_of_getElem? (i := 732) (by decide +kernel)) rfl, j_in (List.mem_of_getElem? (i := 46) (by decide +kernel)) rfl, by decide +kernel, by decide +kernel, by decide +kernel⟩
theorem kX4_pass : j_kV MX4_pass 1 := ⟨rfl, j_in (List.mem_of_getElem? (i := 737) (by decide +kernel)) rfl, j_in (List.mem_of_getElem? (i := 735) (by decide +kernel)) rfl, j_in (List.mem_of_getElem? (i := 736) (by decide +kernel)) rfl, j_in (List.mem_of_getElem? (i := 46) (by decide +kernel)) rfl, by decide +kernel, by decide +kernel, by decide +kernel⟩
theorem kX4_append : j_kV MX4_append 1 := ⟨rfl, j_in (List.mem_of_getElem? (i := 782) (by decide +kernel)) rfl, j_in (List.mem_of_getElem? (i := 780) (by decide +kernel)) rfl, j_in (List.mem_of_getElem? (i := 781) (by decide +kernel)) rfl, j_in (List.mem_of_getElem? (i := 46) (by decide +kernel)) rfl, by decide +kernel, by decide +kernel, by decide +kernel⟩
theorem kX4_clearBuffer : j_kV MX4_clearBuffer 0 := ⟨rfl, j_in (List.mem_of_getElem? (i := 786) (by decide +kernel)) rfl, j_in (List.mem_of_getElem? (i := 784) (by decide +kernel)) rfl, j_in (List.mem_of_getElem? (i := 785) (by decide +kernel)) rfl, j_in (List.mem_of_getElem? (i := 46) (by decide +kernel)) rfl, by decide +kernel, by decide +kernel, by decide +kernel⟩
theorem kX4_at : j_kV MX4_at 1 := ⟨rfl, j_in (List.mem_of_getElem? (i := 802) (by decide +kernel)) rfl, j_in (List.mem_of_getElem? (i := 801) (by decide +kernel)) rfl, j_in (List.mem_of_getElem? (i := 22) (by decide +kernel)) rfl, j_in (List.mem_of_getElem? (i := 46) (by decide +kernel)) rfl, by decide +kernel, by decide +kernel, by decide +kernel⟩
theorem kX4_readWind : j_kV MX4_readWind 1 := ⟨rfl, j_in (List.mem_of_getElem? (i := 798) (by decide +kernel)) rfl, j_in (List.mem_of_getElem? (i := 797) (by decide +kernel)) rfl, j_in (List.mem_of_getElem? (i := 21) (by decide +kernel)) rfl, j_in (List.mem_of_getElem? (i := 46) (by decide +kernel)) rfl, by decide +kernel, by decide +kernel, by decide +kernel⟩
theorem kX4_findError : j_kV MX4_findError 0 := ⟨rfl, j_in (List.mem_of_getElem? (i := 794) (by decide +kernel)) rfl, j_in (List.mem_of_getElem? (i := 793) (by decide +kernel)) rfl, j_in (List.mem_of_getElem? (i := 20) (by decide +kernel)) rfl, j_in (List.mem_of_getElem? (i := 46) (by decide +kernel)) rfl, by decide +kernel, by decide +kernel, by decide +kernel⟩
theorem kX4_firstError : j_kV MX4_firstError 0 := ⟨rfl, j_in (List.mem_of_getElem? (i := 790) (by decide +kernel)) rfl, j_in (List.mem_of_getElem? (i := 788) (by decide +kernel)) rfl, j_in (List.mem_of_getElem? (i := 789) (by decide +kernel)) rfl, j_in (List.mem_of_getElem? (i := 46) (by decide +kernel)) rfl, by decide +kernel, by decide +kernel, by decide +kernel⟩
theorem kX4_load : j_kV MX4_load 0 := ⟨rfl, j_in (List.mem_of_getElem? (i := 806) (by decide +kernel)) rfl, j_in (List.mem_of_getElem? (i := 804) (by decide +kernel)) rfl, j_in (List.mem_of_getElem? (i := 805) (by decide +kernel)) rfl, j_in (List.mem_of_getElem? (i := 46) (by decide +kernel)) rfl, by decide +kernel, by decide +kernel, by decide +kernel⟩
theorem kX4_hourNow : j_kV MX4_hourNow 2 := ⟨rfl, j_in (List.mem_of_getElem? (i := 818) (by decide +kernel)) rfl, j_in (List.mem_of_getElem? (i := 817) (by decide +kernel)) rfl, j_in (List.mem_of_getElem? (i := 24) (by decide +kernel)) rfl, j_in (List.mem_of_getElem? (i := 46) (by decide +kernel)) rfl, by decide +kernel, by decide +kernel, by decide +kernel⟩
theorem kX4_hourOf : j_kV MX4_hourOf 2 := ⟨rfl, j_in (List.mem_of_getElem? (i := 814) (by decide +kernel)) rfl, j_in (List.mem_of_getElem? (i := 812) (by decide +kernel)) rfl, j_in (List.mem_of_getElem? (i := 813) (by decide +kernel)) rfl, j_in (List.mem_of_getElem? (i := 46) (by decide +kernel)) rfl, by decide +kernel, by decide +kernel, by decide +kernel⟩
theorem kX4_agreeingHours : j_kV MX4_agreeingHours 1 := ⟨rfl, j_in (List.mem_of_getElem? (i := 830) (by decide +kernel)) rfl, j_in (List.mem_of_getElem? (i := 829) (by decide +kernel)) rfl, j_in (List.mem_of_getElem? (i := 26) (by decide +kernel)) rfl, j_in (List.mem_of_getElem? (i := 46) (by decide +kernel)) rfl, by decide +kernel, by decide +kernel, by decide +kernel⟩
theorem kX4_matters : j_kV MX4_matters 1 := ⟨rfl, j_in (List.mem_of_getElem? (i := 834) (by decide +kernel)) rfl, j_in (List.mem_of_getElem? (i := 833) (by decide +kernel)) rfl, j_in (List.mem_of_getElem? (i := 27) (by decide +kernel)) rfl, j_in (List.mem_of_getElem? (i := 46) (by decide +kernel)) rfl, by decide +kernel, by decide +kernel, by decide +kernel⟩
theorem kX4_vaneNow : j_kV MX4_vaneNow 2 := ⟨rfl, j_in (List.mem_of_getElem? (i := 826) (by decide +kernel)) rfl, j_in (List.mem_of_getElem? (i := 825) (by decide +kernel)) rfl, j_in (List.mem_of_getElem? (i := 25) (by decide +kernel)) rfl, j_in (List.mem_of_getElem? (i := 46) (by decide +kernel)) rfl, by decide +kernel, by decide +kernel, by decide +kernel⟩
theorem kX4_vaneOf : j_kV MX4_vaneOf 2 := ⟨rfl, j_in (List.mem_of_getElem? (i := 822) (by decide +kernel)) rfl, j_in (List.mem_of_getElem? (i := 820) (by decide +kernel)) rfl, j_in (List.mem_of_getElem? (i := 821) (by decide +kernel)) rfl, j_in (List.mem_of_getElem? (i := 46) (by decide +kernel)) rfl, by decide +kernel, by decide +kernel, by decide +kernel⟩
theorem kX4_millNow : j_kV MX4_millNow 2 := ⟨rfl, j_in (List.mem_of_getElem? (i := 842) (by decide +kernel)) rfl, j_in (List.mem_of_getElem? (i := 841) (by decide +kernel)) rfl, j_in (List.mem_of_getElem? (i := 28) (by decide +kernel)) rfl, j_in (List.mem_of_getElem? (i := 46) (by decide +kernel)) rfl, by decide +kernel, by decide +kernel, by decide +kernel⟩
theorem kX4_millOf : j_kV MX4_millOf 2 := ⟨rfl, j_in (List.mem_of_getElem? (i := 838) (by decide +kernel)) rfl, j_in (List.mem_of_getElem? (i := 836) (by decide +kernel)) rfl, j_in (List.mem_of_getElem? (i := 837) (by decide +kernel)) rfl, j_in (List.mem_of_getElem? (i := 46) (by decide +kernel)) rfl, by decide +kernel, by decide +kernel, by decide +kernel⟩
theorem kX4_waitingOf : j_kV MX4_waitingOf 1 := ⟨rfl, j_in (List.mem_of_getElem? (i := 858) (by decide +kernel)) rfl, j_in (List.mem_of_getElem? (i := 857) (by decide +kernel)) rfl, j_in (List.mem_of_getElem? (i := 31) (by decide +kernel)) rfl, j_in (List.mem_of_getElem? (i := 46) (by decide +kernel)) rfl, by decide +kernel, by decide +kernel, by decide +kernel⟩
theorem kX4_ownerNow : j_kV MX4_ownerNow 2 := ⟨rfl, j_in (List.mem_of_getElem? (i := 854) (by decide +kernel)) rfl, j_in (List.mem_of_getElem? (i := 853) (by decide +kernel)) rfl, j_in (List.mem_of_getElem? (i := 30) (by decide +kernel)) rfl, j_in (List.mem_of_getElem? (i := 46) (by decide +kernel)) rfl, by decide +kernel, by decide +kernel, by decide +kernel⟩
theorem kX4_ownerOf : j_kV MX4_ownerOf 2 := ⟨rfl, j_in (List.mem_of_getElem? (i := 850) (by decide +kernel)) rfl, j_in (List.mem_of_getElem? (i := 848) (by decide +kernel)) rfl, j_in (List.mem_of_getElem? (i := 849) (by decide +kernel)) rfl, j_in (List.mem_of_getElem? (i := 46) (by decide +kernel)) rfl, by decide +kernel, by decide +kernel, by decide +kernel⟩
theorem kX4_allFlour : j_kV MX4_allFlour 0 := ⟨rfl, j_in (List.mem_of_getElem? (i := 874) (by decide +kernel)) rfl, j_in (List.mem_of_getElem? (i := 873) (by decide +kernel)) rfl, j_in (List.mem_of_getElem? (i := 34) (by decide +kernel)) rfl, j_in (List.mem_of_getElem? (i := 46) (by decide +kernel)) rfl, by decide +kernel, by decide +kernel, by decide +kernel⟩
theorem kX4_countNow : j_kV MX4_countNow 1 := ⟨rfl, j_in (List.mem_of_getElem? (i := 870) (by decide +kernel)) rfl, j_in (List.mem_of_getElem? (i := 869) (by decide +kernel)) rfl, j_in (List.mem_of_getElem? (i := 33) (by decide +kernel)) rfl, j_in (List.mem_of_getElem? (i := 46) (by decide +kernel)) rfl, by decide +kernel, by decide +kernel, by decide +kernel⟩
theorem kX4_count : j_kV MX4_count 1 := ⟨rfl, j_in (List.mem_of_getElem? (i := 866) (by decide +kernel)) rfl, j_in (List.mem_of_getElem? (i := 864) (by decide +kernel)) rfl, j_in (List.mem_of_getElem? (i := 865) (by decide +kernel)) rfl, j_in (List.mem_of_getElem? (i := 46) (by decide +kernel)) rfl, by decide +kernel, by decide +kernel, by decide +kernel⟩
theorem kX4_setting : j_kV MX4_setting 1 := ⟨rfl, j_in (List.mem_of_getElem? (i := 878) (by decide +kernel)) rfl, j_in (List.mem_of_getElem? (i := 876) (by decide +kernel)) rfl, j_in (List.mem_of_getElem? (i := 877) (by decide +kernel)) rfl, j_in (List.mem_of_getElem? (i := 46) (by decide +kernel)) rfl, by decide +kernel, by decide +kernel, by decide +kernel⟩
theorem kX4_doneNow : j_kV MX4_doneNow 1 := ⟨rfl, j_in (List.mem_of_getElem? (i := 886) (by decide +kernel)) rfl, j_in (List.mem_of_getElem? (i := 885) (by decide +kernel)) rfl, j_in (List.mem_of_getElem? (i := 35) (by decide +kernel)) rfl, j_in (List.mem_of_getElem? (i := 46) (by decide +kernel)) rfl, by decide +kernel, by decide +kernel, by decide +kernel⟩
theorem kX4_doneIn : j_kV MX4_doneIn 2 := ⟨rfl, j_in (List.mem_of_getElem? (i := 882) (by decide +kernel)) rfl, j_in (List.mem_of_getElem? (i := 880) (by decide +kernel)) rfl, j_in (List.mem_of_getElem? (i := 881) (by decide +kernel)) rfl, j_in (List.mem_of_getElem? (i := 46) (by decide +kernel)) rfl, by decide +kernel, by decide +kernel, by decide +kernel⟩
theorem kX4_passed : j_kV MX4_passed 2 := ⟨rfl, j_in (List.mem_of_getElem? (i := 894) (by decide +kernel)) rfl, j_in (List.mem_of_getElem? (i := 893) (by decide +kernel)) rfl, j_in (List.mem_of_getElem? (i := 36) (by decide +kernel)) rfl, j_in (List.mem_of_getElem? (i := 46) (by decide +kernel)) rfl, by decide +kernel, by decide +kernel, by decide +kernel⟩
theorem kX4_ifPassed : j_kV MX4_ifPassed 2 := ⟨rfl, j_in (List.mem_of_getElem? (i := 890) (by decide +kernel)) rfl, j_in (List.mem_of_getElem? (i := 888) (by decide +kernel)) rfl, j_in (List.mem_of_getElem? (i := 889) (by decide +kernel)) rfl, j_in (List.mem_of_getElem? (i := 46) (by decide +kernel)) rfl, by decide +kernel, by decide +kernel, by decide +kernel⟩
theorem kX4_turnsNow : j_kV MX4_turnsNow 0 := ⟨rfl, j_in (List.mem_of_getElem? (i := 910) (by decide +kernel)) rfl, j_in (List.mem_of_getElem? (i := 909) (by decide +kernel)) rfl, j_in (List.mem_of_getElem? (i := 39) (by decide +kernel)) rfl, j_in (List.mem_of_getElem? (i := 46) (by decide +kernel)) rfl, by decide +kernel, by decide +kernel, by decide +kernel⟩
theorem kX4_turnsIn : j_kV MX4_turnsIn 0 := ⟨rfl, j_in (List.mem_of_getElem? (i := 906) (by decide +kernel)) rfl, j_in (List.mem_of_getElem? (i := 904) (by decide +kernel)) rfl, j_in (List.mem_of_getElem? (i := 905) (by decide +kernel)) rfl, j_in (List.mem_of_getElem? (i := 46) (by decide +kernel)) rfl, by decide +kernel, by decide +kernel, by decide +kernel⟩
theorem kX4_findMain : j_kV MX4_findMain 0 := ⟨rfl, j_in (List.mem_of_getElem? (i := 918) (by decide +kernel)) rfl, j_in (List.mem_of_getElem? (i := 917) (by decide +kernel)) rfl, j_in (List.mem_of_getElem? (i := 40) (by decide +kernel)) rfl, j_in (List.mem_of_getElem? (i := 46) (by decide +kernel)) rfl, by decide +kernel, by decide +kernel, by decide +kernel⟩
theorem kX4_mainVane : j_kV MX4_mainVane 0 := ⟨rfl, j_in (List.mem_of_getElem? (i := 914) (by decide +kernel)) rfl, j_in (List.mem_of_getElem? (i := 912) (by decide +kernel)) rfl, j_in (List.mem_of_getElem? (i := 913) (by decide +kernel)) rfl, j_in (List.mem_of_getElem? (i := 46) (by decide +kernel)) rfl, by decide +kernel, by decide +kernel, by decide +kernel⟩
theorem kX4_turnShare : j_kV MX4_turnShare 0 := ⟨rfl, j_in (List.mem_of_getElem? (i := 922) (by decide +kernel)) rfl, j_in (List.mem_of_getElem? (i := 920) (by decide +kernel)) rfl, j_in (List.mem_of_getElem? (i := 921) (by decide +kernel)) rfl, j_in (List.mem_of_getElem? (i := 46) (by decide +kernel)) rfl, by decide +kernel, by decide +kernel, by decide +kernel⟩
theorem kX4_digest : j_kV MX4_digest 0 := ⟨rfl, j_in (List.mem_of_getElem? (i := 927) (by decide +kernel)) rfl, j_in (List.mem_of_getElem? (i := 925) (by decide +kernel)) rfl, j_in (List.mem_of_getElem? (i := 926) (by decide +kernel)) rfl, j_in (List.mem_of_getElem? (i := 46) (by decide +kernel)) rfl, by decide +kernel, by decide +kernel, by decide +kernel⟩
theorem kJxe99ae_isNaN_b9ae7 : j_kS MJxe99ae_isNaN_b9ae7 1 := ⟨rfl, j_in (List.mem_of_getElem? (i := 935) (by decide +kernel)) rfl, j_in (List.mem_of_getElem? (i := 934) (by decide +kernel)) rfl, j_in (List.mem_of_getElem? (i := 55) (by decide +kernel)) rfl, by decide +kernel, by decide +kernel, by decide +kernel⟩
theorem kJxe99ae_doubleToLongBits_ccdee : j_kS MJxe99ae_doubleToLongBits_ccdee 1 := ⟨rfl, j_in (List.mem_of_getElem? (i := 932) (by decide +kernel)) rfl, j_in (List.mem_of_getElem? (i := 931) (by decide +kernel)) rfl, j_in (List.mem_of_getElem? (i := 55) (by decide +kernel)) rfl, by decide +kernel, by decide +kernel, by decide +kernel⟩
theorem kL_wind : j_kH ML_wind 5 := ⟨by decide, j_in (List.mem_of_getElem? (i := 443) (by decide +kernel)) rfl, j_in (List.mem_of_getElem? (i := 442) (by decide +kernel)) rfl, j_in (List.mem_of_getElem? (i := 41) (by decide +kernel)) rfl, by decide +kernel, by decide +kernel, by decide +kernel⟩
theorem kL_vane : j_kH ML_vane 5 := ⟨by decide, j_in (List.mem_of_getElem? (i := 468) (by decide +kernel)) rfl, j_in (List.mem_of_getElem? (i := 467) (by decide +kernel)) rfl, j_in (List.mem_of_getElem? (i := 41) (by decide +kernel)) rfl, by decide +kernel, by decide +kernel, by decide +kernel⟩
theorem kL_mill : j_kH ML_mill 4 := ⟨by decide, j_in (List.mem_of_getElem? (i := 477) (by decide +kernel)) rfl, j_in (List.mem_of_getElem? (i := 476) (by decide +kernel)) rfl, j_in (List.mem_of_getElem? (i := 41) (by decide +kernel)) rfl, by decide +kernel, by decide +kernel, by decide +kernel⟩
theorem kL_set : j_kH ML_set 4 := ⟨by decide, j_in (List.mem_of_getElem? (i := 484) (by decide +kernel)) rfl, j_in (List.mem_of_getElem? (i := 483) (by decide +kernel)) rfl, j_in (List.mem_of_getElem? (i := 41) (by decide +kernel)) rfl, by decide +kernel, by decide +kernel, by decide +kernel⟩
theorem kL_bring : j_kH ML_bring 5 := ⟨by decide, j_in (List.mem_of_getElem? (i := 495) (by decide +kernel)) rfl, j_in (List.mem_of_getElem? (i := 494) (by decide +kernel)) rfl, j_in (List.mem_of_getElem? (i := 41) (by decide +kernel)) rfl, by decide +kernel, by decide +kernel, by decide +kernel⟩
theorem kL_takeBack : j_kH ML_takeBack 3 := ⟨by decide, j_in (List.mem_of_getElem? (i := 506) (by decide +kernel)) rfl, j_in (List.mem_of_getElem? (i := 505) (by decide +kernel)) rfl, j_in (List.mem_of_getElem? (i := 41) (by decide +kernel)) rfl, by decide +kernel, by decide +kernel, by decide +kernel⟩
theorem kL_pass : j_kH ML_pass 3 := ⟨by decide, j_in (List.mem_of_getElem? (i := 513) (by decide +kernel)) rfl, j_in (List.mem_of_getElem? (i := 512) (by decide +kernel)) rfl, j_in (List.mem_of_getElem? (i := 41) (by decide +kernel)) rfl, by decide +kernel, by decide +kernel, by decide +kernel⟩
theorem kL_append : j_kH ML_append 3 := ⟨by decide, j_in (List.mem_of_getElem? (i := 550) (by decide +kernel)) rfl, j_in (List.mem_of_getElem? (i := 549) (by decide +kernel)) rfl, j_in (List.mem_of_getElem? (i := 41) (by decide +kernel)) rfl, by decide +kernel, by decide +kernel, by decide +kernel⟩
theorem kL_load : j_kH ML_load 2 := ⟨by decide, j_in (List.mem_of_getElem? (i := 558) (by decide +kernel)) rfl, j_in (List.mem_of_getElem? (i := 557) (by decide +kernel)) rfl, j_in (List.mem_of_getElem? (i := 41) (by decide +kernel)) rfl, by decide +kernel, by decide +kernel, by decide +kernel⟩
theorem kL_keep : j_kH ML_keep 3 := ⟨by decide, j_in (List.mem_of_getElem? (i := 574) (by decide +kernel)) rfl, j_in (List.mem_of_getElem? (i := 573) (by decide +kernel)) rfl, j_in (List.mem_of_getElem? (i := 41) (by decide +kernel)) rfl, by decide +kernel, by decide +kernel, by decide +kernel⟩
theorem kL_goBack : j_kH ML_goBack 3 := ⟨by decide, j_in (List.mem_of_getElem? (i := 581) (by decide +kernel)) rfl, j_in (List.mem_of_getElem? (i := 580) (by decide +kernel)) rfl, j_in (List.mem_of_getElem? (i := 41) (by decide +kernel)) rfl, by decide +kernel, by decide +kernel, by decide +kernel⟩
theorem kL_undo : j_kH ML_undo 2 := ⟨by decide, j_in (List.mem_of_getElem? (i := 589) (by decide +kernel)) rfl, j_in (List.mem_of_getElem? (i := 588) (by decide +kernel)) rfl, j_in (List.mem_of_getElem? (i := 41) (by decide +kernel)) rfl, by decide +kernel, by decide +kernel, by decide +kernel⟩
theorem kL_hourOf : j_kH ML_hourOf 4 := ⟨by decide, j_in (List.mem_of_getElem? (i := 597) (by decide +kernel)) rfl, j_in (List.mem_of_getElem? (i := 596) (by decide +kernel)) rfl, j_in (List.mem_of_getElem? (i := 41) (by decide +kernel)) rfl, by decide +kernel, by decide +kernel, by decide +kernel⟩
theorem kL_vaneOf : j_kH ML_vaneOf 4 := ⟨by decide, j_in (List.mem_of_getElem? (i := 601) (by decide +kernel)) rfl, j_in (List.mem_of_getElem? (i := 600) (by decide +kernel)) rfl, j_in (List.mem_of_getElem? (i := 41) (by decide +kernel)) rfl, by decide +kernel, by decide +kernel, by decide +kernel⟩
theorem kL_millOf : j_kH ML_millOf 4 := ⟨by decide, j_in (List.mem_of_getElem? (i := 605) (by decide +kernel)) rfl, j_in (List.mem_of_getElem? (i := 604) (by decide +kernel)) rfl, j_in (List.mem_of_getElem? (i := 41) (by decide +kernel)) rfl, by decide +kernel, by decide +kernel, by decide +kernel⟩
theorem kL_ownerOf : j_kH ML_ownerOf 4 := ⟨by decide, j_in (List.mem_of_getElem? (i := 609) (by decide +kernel)) rfl, j_in (List.mem_of_getElem? (i := 608) (by decide +kernel)) rfl, j_in (List.mem_of_getElem? (i := 41) (by decide +kernel)) rfl, by decide +kernel, by decide +kernel, by decide +kernel⟩
theorem kL_count : j_kH ML_count 3 := ⟨by decide, j_in (List.mem_of_getElem? (i := 613) (by decide +kernel)) rfl, j_in (List.mem_of_getElem? (i := 612) (by decide +kernel)) rfl, j_in (List.mem_of_getElem? (i := 41) (by decide +kernel)) rfl, by decide +kernel, by decide +kernel, by decide +kernel⟩
theorem kL_setting : j_kH ML_setting 3 := ⟨by decide, j_in (List.mem_of_getElem? (i := 617) (by decide +kernel)) rfl, j_in (List.mem_of_getElem? (i := 616) (by decide +kernel)) rfl, j_in (List.mem_of_getElem? (i := 41) (by decide +kernel)) rfl, by decide +kernel, by decide +kernel, by decide +kernel⟩
theorem kL_doneIn : j_kH ML_doneIn 4 := ⟨by decide, j_in (List.mem_of_getElem? (i := 621) (by decide +kernel)) rfl, j_in (List.mem_of_getElem? (i := 620) (by decide +kernel)) rfl, j_in (List.mem_of_getElem? (i := 41) (by decide +kernel)) rfl, by decide +kernel, by decide +kernel, by decide +kernel⟩
theorem kL_ifPassed : j_kH ML_ifPassed 4 := ⟨by decide, j_in (List.mem_of_getElem? (i := 625) (by decide +kernel)) rfl, j_in (List.mem_of_getElem? (i := 624) (by decide +kernel)) rfl, j_in (List.mem_of_getElem? (i := 41) (by decide +kernel)) rfl, by decide +kernel, by decide +kernel, by decide +kernel⟩
theorem at_IllegalArgumentException : ∀ w ∈ vx_atS RX3 145 "java/lang/IllegalArgumentException" j_nms, j_at w := by
  unfold j_at
  decide +kernel
theorem ac_IllegalArgumentException : Cond.classLink RX3 141 "java/lang/IllegalArgumentException" ∈ j_ws := j_in (List.mem_of_getElem? (i := 271) (by decide +kernel)) rfl
theorem ai_IllegalArgumentException : Cond.initialized "java/lang/IllegalArgumentException" ∈ j_ws := j_in (List.mem_of_getElem? (i := 51) (by decide +kernel)) rfl
theorem ag_IllegalArgumentException : ∀ w ∈ Cond.classLink RX3 141 "java/lang/IllegalArgumentException" :: Cond.initialized "java/lang/IllegalArgumentException" :: vx_atS RX3 145 "java/lang/IllegalArgumentException" j_nms, vx_ot w = true := by decide +kernel
theorem at_IndexOutOfBoundsException : ∀ w ∈ vx_atS RX3 257 "java/lang/IndexOutOfBoundsException" j_nms, j_at w := by
  unfold j_at
  decide +kernel
theorem ac_IndexOutOfBoundsException : Cond.classLink RX3 253 "java/lang/IndexOutOfBoundsException" ∈ j_ws := j_in (List.mem_of_getElem? (i := 359) (by decide +kernel)) rfl
theorem ai_IndexOutOfBoundsException : Cond.initialized "java/lang/IndexOutOfBoundsException" ∈ j_ws := j_in (List.mem_of_getElem? (i := 50) (by decide +kernel)) rfl
theorem ag_IndexOutOfBoundsException : ∀ w ∈ Cond.classLink RX3 253 "java/lang/IndexOutOfBoundsException" :: Cond.initialized "java/lang/IndexOutOfBoundsException" :: vx_atS RX3 257 "java/lang/IndexOutOfBoundsException" j_nms, vx_ot w = true := by decide +kernel
theorem at_IllegalStateException : ∀ w ∈ vx_atS RX3 120 "java/lang/IllegalStateException" j_nms, j_at w := by
  unfold j_at
  decide +kernel
theorem ac_IllegalStateException : Cond.classLink RX3 116 "java/lang/IllegalStateException" ∈ j_ws := j_in (List.mem_of_getElem? (i := 520) (by decide +kernel)) rfl
theorem ai_IllegalStateException : Cond.initialized "java/lang/IllegalStateException" ∈ j_ws := j_in (List.mem_of_getElem? (i := 53) (by decide +kernel)) rfl
theorem ag_IllegalStateException : ∀ w ∈ Cond.classLink RX3 116 "java/lang/IllegalStateException" :: Cond.initialized "java/lang/IllegalStateException" :: vx_atS RX3 120 "java/lang/IllegalStateException" j_nms, vx_ot w = true := by decide +kernel
theorem lRL_8 : Cond.classLink RL 8 "VaneVotes" ∈ j_ws := j_in (List.mem_of_getElem? (i := 56) (by decide +kernel)) rfl
theorem lRX3_7 : Cond.classLink RX3 7 "VaneVotes$Village" ∈ j_ws := j_in (List.mem_of_getElem? (i := 64) (by decide +kernel)) rfl
theorem lRX1_31 : Cond.classLink RX1 31 "[[I" ∈ j_ws := j_in (List.mem_of_getElem? (i := 70) (by decide +kernel)) rfl
theorem lRX1_39 : Cond.classLink RX1 39 "VaneVotes$Mill" ∈ j_ws := j_in (List.mem_of_getElem? (i := 72) (by decide +kernel)) rfl
theorem lRX3_34 : Cond.classLink RX3 34 "VaneVotes$WindText" ∈ j_ws := j_in (List.mem_of_getElem? (i := 154) (by decide +kernel)) rfl
theorem lRL_13 : Cond.classLink RL 13 "java/lang/IndexOutOfBoundsException" ∈ j_ws := j_in (List.mem_of_getElem? (i := 444) (by decide +kernel)) rfl
theorem lRL_15 : Cond.classLink RL 15 "java/lang/IllegalArgumentException" ∈ j_ws := j_in (List.mem_of_getElem? (i := 445) (by decide +kernel)) rfl
theorem lRL_37 : Cond.classLink RL 37 "java/lang/IllegalStateException" ∈ j_ws := j_in (List.mem_of_getElem? (i := 514) (by decide +kernel)) rfl
theorem lRL_80 : Cond.classLink RL 80 "VaneVotesModel" ∈ j_ws := j_in (List.mem_of_getElem? (i := 627) (by decide +kernel)) rfl
theorem a_min : Cond.static Lib.Math.min.name ∈ j_ws ∧ Cond.initialized "java/lang/Math" ∈ j_ws ∧ Cond.code Lib.Math.min.name Lib.Math.min.code 2 (some .int) ∈ j_ws := ⟨j_in (List.mem_of_getElem? (i := 430) (by decide +kernel)) rfl, j_in (List.mem_of_getElem? (i := 54) (by decide +kernel)) rfl, j_in (List.mem_of_getElem? (i := 431) (by decide +kernel)) rfl⟩
theorem a_acp : Cond.native arraycopyName ∈ j_ws ∧ Cond.static arraycopyName ∈ j_ws ∧ Cond.initialized "java/lang/System" ∈ j_ws := ⟨j_in (List.mem_of_getElem? (i := 460) (by decide +kernel)) rfl, j_in (List.mem_of_getElem? (i := 459) (by decide +kernel)) rfl, j_in (List.mem_of_getElem? (i := 52) (by decide +kernel)) rfl⟩
theorem a_raw : Cond.native ⟨"java/lang/Double", "doubleToRawLongBits", "(D)J"⟩ ∈ j_ws ∧ Cond.static ⟨"java/lang/Double", "doubleToRawLongBits", "(D)J"⟩ ∈ j_ws ∧ Cond.initialized "java/lang/Double" ∈ j_ws := ⟨j_in (List.mem_of_getElem? (i := 938) (by decide +kernel)) rfl, j_in (List.mem_of_getElem? (i := 937) (by decide +kernel)) rfl, j_in (List.mem_of_getElem? (i := 55) (by decide +kernel)) rfl⟩
