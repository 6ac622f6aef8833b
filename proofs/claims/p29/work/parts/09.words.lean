/-! Method descriptors and the words that they need, by program (wip/whole/gen_tab.py). -/
theorem jnX0 : ∀ w ∈ u_ws RX0 TX0 5, w ∈ j_ws := fun w h => j_in (inX0 w h) (List.all_eq_true.mp (by decide +kernel : (u_ws RX0 TX0 5).all goodWord = true) w h)
theorem jnX1 : ∀ w ∈ u_ws RX1 TX1 12, w ∈ j_ws := fun w h => j_in (inX1 w h) (List.all_eq_true.mp (by decide +kernel : (u_ws RX1 TX1 12).all goodWord = true) w h)
theorem jnX2 : ∀ w ∈ u_ws RX2 TX2 2, w ∈ j_ws := fun w h => j_in (inX2 w h) (List.all_eq_true.mp (by decide +kernel : (u_ws RX2 TX2 2).all goodWord = true) w h)
theorem jnX3 : ∀ w ∈ u_ws RX3 TX3 8, w ∈ j_ws := fun w h => j_in (inX3 w h) (List.all_eq_true.mp (by decide +kernel : (u_ws RX3 TX3 8).all goodWord = true) w h)
def MX0_init : j_M := (RX0, yX0_init, cX0_init, 1, none, 1, 21, [], none, true)
def MX0_copyMill : j_M := (RX0, yX0_copyMill, cX0_copyMill, 2, none, 1, 40, [], none, false)
def MX0_addLot : j_M := (RX0, yX0_addLot, cX0_addLot, 3, none, 1, 21, [], none, false)
def MX0_sacksWaiting : j_M := (RX0, yX0_sacksWaiting, cX0_sacksWaiting, 3, (some .int), 1, 21, [], none, false)
def MX0_sacksWaitingOf : j_M := (RX0, yX0_sacksWaitingOf, cX0_sacksWaitingOf, 4, (some .int), 1, 21, [], none, false)
def MX0_flourOf : j_M := (RX0, yX0_flourOf, cX0_flourOf, 7, (some .int), 1, 21, [], none, false)
def MX0_grind : j_M := (RX0, yX0_grind, cX0_grind, 7, (some .int), 2, 43, [], none, false)
def MX0_dropFirst : j_M := (RX0, yX0_dropFirst, cX0_dropFirst, 3, none, 1, 21, [], none, false)
def MX1_init : j_M := (RX1, yX1_init, cX1_init, 2, none, 2, 41, [], none, true)
def MX1_copyFrom : j_M := (RX1, yX1_copyFrom, cX1_copyFrom, 3, none, 2, 61, [], none, false)
def MX1_vaneAgrees : j_M := (RX1, yX1_vaneAgrees, cX1_vaneAgrees, 6, (some .boolean), 1, 21, [], none, false)
def MX1_committee : j_M := (RX1, yX1_committee, cX1_committee, 3, (some .int), 1, 21, [], none, false)
def MX1_votesIn : j_M := (RX1, yX1_votesIn, cX1_votesIn, 4, (some .int), 2, 46, [], none, false)
def MX1_verdictOf : j_M := (RX1, yX1_verdictOf, cX1_verdictOf, 3, (some .int), 1, 21, [], none, false)
def MX1_verdictIn : j_M := (RX1, yX1_verdictIn, cX1_verdictIn, 2, (some .int), 3, 69, [], none, false)
def MX1_agreeingHours : j_M := (RX1, yX1_agreeingHours, cX1_agreeingHours, 3, (some .int), 4, 90, [], none, false)
def MX1_hoursOfVane : j_M := (RX1, yX1_hoursOfVane, cX1_hoursOfVane, 4, (some .int), 2, 46, [], none, false)
def MX1_hoursTurnedBy : j_M := (RX1, yX1_hoursTurnedBy, cX1_hoursTurnedBy, 10, (some .int), 3, 69, [], none, false)
def MX1_sacksGroundIn : j_M := (RX1, yX1_sacksGroundIn, cX1_sacksGroundIn, 4, (some .int), 4, 90, [], none, false)
def MX1_fillRates : j_M := (RX1, yX1_fillRates, cX1_fillRates, 5, (some .int), 4, 90, [], none, false)
def MX1_passHour : j_M := (RX1, yX1_passHour, cX1_passHour, 4, (some .int), 4, 90, [], none, false)
def MX1_sacksWaiting : j_M := (RX1, yX1_sacksWaiting, cX1_sacksWaiting, 3, (some .int), 2, 43, [], none, false)
def MX1_sacksWaitingOf : j_M := (RX1, yX1_sacksWaitingOf, cX1_sacksWaitingOf, 4, (some .int), 2, 44, [], none, false)
def MX1_flourOfAll : j_M := (RX1, yX1_flourOfAll, cX1_flourOfAll, 3, (some .int), 1, 21, [], none, false)
def MX2_init : j_M := (RX2, yX2_init, cX2_init, 1, none, 1, 21, [], none, true)
def MX3_init : j_M := (RX3, yX3_init, cX3_init, 2, none, 3, 62, [], none, true)
def MX3_wind : j_M := (RX3, yX3_wind, cX3_wind, 5, (some .int), 7, 104, [], none, false)
def MX3_vane : j_M := (RX3, yX3_vane, cX3_vane, 5, (some .int), 7, 104, [], none, false)
def MX3_mill : j_M := (RX3, yX3_mill, cX3_mill, 4, (some .int), 7, 104, [], none, false)
def MX3_set : j_M := (RX3, yX3_set, cX3_set, 4, (some .int), 7, 104, [], none, false)
def MX3_bring : j_M := (RX3, yX3_bring, cX3_bring, 5, (some .int), 7, 104, [], none, false)
def MX3_takeBack : j_M := (RX3, yX3_takeBack, cX3_takeBack, 4, (some .int), 7, 103, [], none, false)
def MX3_pass : j_M := (RX3, yX3_pass, cX3_pass, 4, (some .int), 7, 113, [], none, false)
def MX3_undo : j_M := (RX3, yX3_undo, cX3_undo, 1, (some .int), 6, 83, [], none, false)
def MX3_hourOf : j_M := (RX3, yX3_hourOf, cX3_hourOf, 3, (some .int), 7, 113, [], none, false)
def MX3_vaneOf : j_M := (RX3, yX3_vaneOf, cX3_vaneOf, 3, (some .int), 7, 104, [], none, false)
def MX3_millOf : j_M := (RX3, yX3_millOf, cX3_millOf, 4, (some .int), 7, 114, [], none, false)
def MX3_ownerOf : j_M := (RX3, yX3_ownerOf, cX3_ownerOf, 3, (some .int), 7, 104, [], none, false)
def MX3_count : j_M := (RX3, yX3_count, cX3_count, 2, (some .int), 7, 112, [], none, false)
def MX3_setting : j_M := (RX3, yX3_setting, cX3_setting, 2, (some .int), 7, 103, [], none, false)
def MX3_doneIn : j_M := (RX3, yX3_doneIn, cX3_doneIn, 7, (some .int), 7, 114, [], none, false)
def MX3_ifPassed : j_M := (RX3, yX3_ifPassed, cX3_ifPassed, 9, (some .int), 7, 114, [], none, false)
def MX3_turnsIn : j_M := (RX3, yX3_turnsIn, cX3_turnsIn, 2, (some .int), 4, 90, [], none, false)
def MX3_mainVane : j_M := (RX3, yX3_mainVane, cX3_mainVane, 5, (some .int), 4, 98, [], none, false)
def MX3_turnShare : j_M := (RX3, yX3_turnShare, cX3_turnShare, 1, (some .double), 5, 112, [], none, false)
def MX3_needIndex : j_M := (RX3, yX3_needIndex, cX3_needIndex, 2, none, 6, 82, [], none, false)
def MX3_needRange : j_M := (RX3, yX3_needRange, cX3_needRange, 3, none, 6, 82, [], none, false)
def MX3_saveState : j_M := (RX3, yX3_saveState, cX3_saveState, 1, none, 3, 83, [], none, false)
def MX3_hoursUntilGround : j_M := (RX3, yX3_hoursUntilGround, cX3_hoursUntilGround, 6, (some .int), 1, 21, [], none, false)
def ML_low : j_M := (RL, yL_low, cL_low, 2, (some .int), 1, 21, [], none, false)
def ML_wind : j_M := (RL, yL_wind, cL_wind, 6, (some .int), 8, 128, [(0, 9, 12, 15), (0, 9, 17, 17)], none, false)
def ML_vane : j_M := (RL, yL_vane, cL_vane, 6, (some .int), 8, 128, [(0, 9, 12, 15), (0, 9, 17, 17)], none, false)
def ML_mill : j_M := (RL, yL_mill, cL_mill, 5, (some .int), 8, 127, [(0, 7, 10, 15), (0, 7, 15, 17)], none, false)
def ML_set : j_M := (RL, yL_set, cL_set, 5, (some .int), 8, 127, [(0, 7, 10, 15), (0, 7, 15, 17)], none, false)
def ML_bring : j_M := (RL, yL_bring, cL_bring, 6, (some .int), 8, 128, [(0, 9, 12, 15), (0, 9, 17, 17)], none, false)
def ML_takeBack : j_M := (RL, yL_takeBack, cL_takeBack, 4, (some .int), 8, 126, [(0, 6, 9, 15)], none, false)
def ML_pass : j_M := (RL, yL_pass, cL_pass, 4, (some .int), 8, 136, [(0, 6, 9, 17), (0, 6, 13, 39)], none, false)
def ML_undo : j_M := (RL, yL_undo, cL_undo, 3, (some .int), 7, 103, [(0, 5, 8, 39)], none, false)
def ML_hourOf : j_M := (RL, yL_hourOf, cL_hourOf, 5, (some .int), 8, 135, [(0, 7, 10, 15), (0, 7, 15, 17)], none, false)
def ML_vaneOf : j_M := (RL, yL_vaneOf, cL_vaneOf, 5, (some .int), 8, 126, [(0, 7, 10, 15), (0, 7, 15, 17)], none, false)
def ML_millOf : j_M := (RL, yL_millOf, cL_millOf, 5, (some .int), 8, 137, [(0, 7, 10, 15), (0, 7, 15, 17)], none, false)
def ML_ownerOf : j_M := (RL, yL_ownerOf, cL_ownerOf, 5, (some .int), 8, 126, [(0, 7, 10, 15), (0, 7, 15, 17)], none, false)
def ML_doneIn : j_M := (RL, yL_doneIn, cL_doneIn, 5, (some .int), 8, 140, [(0, 7, 10, 15), (0, 7, 15, 17)], none, false)
def ML_ifPassed : j_M := (RL, yL_ifPassed, cL_ifPassed, 5, (some .int), 8, 142, [(0, 7, 10, 15), (0, 7, 15, 17)], none, false)
def ML_agrees : j_M := (RL, yL_agrees, cL_agrees, 5, (some .boolean), 1, 21, [], none, false)
def ML_why : j_M := (RL, yL_why, cL_why, 9, (some .int), 2, 45, [], none, false)
def ML_much : j_M := (RL, yL_much, cL_much, 5, (some .int), 3, 73, [], none, false)
def ML_waits : j_M := (RL, yL_waits, cL_waits, 5, (some .int), 1, 21, [], none, false)
def ML_hour : j_M := (RL, yL_hour, cL_hour, 9, (some .int), 4, 97, [], none, false)
def ML_copy : j_M := (RL, yL_copy, cL_copy, 3, none, 1, 21, [], none, false)
def ML_areWinds : j_M := (RL, yL_areWinds, cL_areWinds, 13, (some .boolean), 8, 135, [], none, false)
def ML_areSacks : j_M := (RL, yL_areSacks, cL_areSacks, 13, (some .boolean), 8, 140, [], none, false)
def ML_isAhead : j_M := (RL, yL_isAhead, cL_isAhead, 11, (some .boolean), 9, 166, [], none, true)
def ML_act : j_M := (RL, yL_act, cL_act, 13, (some .boolean), 9, 159, [], none, false)
def ML_cell (L : Nat) (xs : Nat → Int32) : j_M := (RL, yL_cell, cL_cell, 2, some .int, 1, 21, [], some (L, xs), false)
def ML_law (L : Nat) (xs : Nat → Int32) : j_M := (RL, yL_law, cL_law, 10, some .boolean, 10, 196, [], some (L, xs), true)
theorem fRX3_10 : Cond.fieldLink RX3 10 (TX3 0).1 (TX3 0).2.1 (TX3 0).2.2.1 ∈ j_ws := j_in (List.mem_of_getElem? (i := 127) (by decide +kernel)) rfl
theorem fRX3_16 : Cond.fieldLink RX3 16 (TX3 1).1 (TX3 1).2.1 (TX3 1).2.2.1 ∈ j_ws := j_in (List.mem_of_getElem? (i := 128) (by decide +kernel)) rfl
theorem fRX3_20 : Cond.fieldLink RX3 20 (TX3 2).1 (TX3 2).2.1 (TX3 2).2.2.1 ∈ j_ws := j_in (List.mem_of_getElem? (i := 129) (by decide +kernel)) rfl
theorem fRX3_24 : Cond.fieldLink RX3 24 (TX3 3).1 (TX3 3).2.1 (TX3 3).2.2.1 ∈ j_ws := j_in (List.mem_of_getElem? (i := 130) (by decide +kernel)) rfl
theorem fRX3_27 : Cond.fieldLink RX3 27 (TX3 4).1 (TX3 4).2.1 (TX3 4).2.2.1 ∈ j_ws := j_in (List.mem_of_getElem? (i := 131) (by decide +kernel)) rfl
theorem fRX3_31 : Cond.fieldLink RX3 31 (TX3 5).1 (TX3 5).2.1 (TX3 5).2.2.1 ∈ j_ws := j_in (List.mem_of_getElem? (i := 132) (by decide +kernel)) rfl
theorem fRX3_37 : Cond.fieldLink RX3 37 (TX3 6).1 (TX3 6).2.1 (TX3 6).2.2.1 ∈ j_ws := j_in (List.mem_of_getElem? (i := 133) (by decide +kernel)) rfl
theorem fRX3_41 : Cond.fieldLink RX3 41 (TX3 7).1 (TX3 7).2.1 (TX3 7).2.2.1 ∈ j_ws := j_in (List.mem_of_getElem? (i := 134) (by decide +kernel)) rfl
theorem fRX3_56 : Cond.fieldLink RX3 56 (TX1 4).1 (TX1 4).2.1 (TX1 4).2.2.1 ∈ j_ws := j_in (List.mem_of_getElem? (i := 72) (by decide +kernel)) rfl
theorem fRX3_59 : Cond.fieldLink RX3 59 (TX1 5).1 (TX1 5).2.1 (TX1 5).2.2.1 ∈ j_ws := j_in (List.mem_of_getElem? (i := 74) (by decide +kernel)) rfl
theorem fRX3_62 : Cond.fieldLink RX3 62 "VaneVotes" "VANE_MOST" "[I" ∈ j_ws := j_in (List.mem_of_getElem? (i := 475) (by decide +kernel)) rfl
theorem fRX3_65 : Cond.fieldLink RX3 65 (TX1 6).1 (TX1 6).2.1 (TX1 6).2.2.1 ∈ j_ws := j_in (List.mem_of_getElem? (i := 76) (by decide +kernel)) rfl
theorem fRX3_69 : Cond.fieldLink RX3 69 (TX1 8).1 (TX1 8).2.1 (TX1 8).2.2.1 ∈ j_ws := j_in (List.mem_of_getElem? (i := 80) (by decide +kernel)) rfl
theorem fRX3_73 : Cond.fieldLink RX3 73 (TX0 0).1 (TX0 0).2.1 (TX0 0).2.2.1 ∈ j_ws := j_in (List.mem_of_getElem? (i := 41) (by decide +kernel)) rfl
theorem fRX3_78 : Cond.fieldLink RX3 78 "VaneVotes" "SETTING_LEAST" "[I" ∈ j_ws := j_in (List.mem_of_getElem? (i := 491) (by decide +kernel)) rfl
theorem fRX3_81 : Cond.fieldLink RX3 81 "VaneVotes" "SETTING_MOST" "[I" ∈ j_ws := j_in (List.mem_of_getElem? (i := 493) (by decide +kernel)) rfl
theorem fRX3_84 : Cond.fieldLink RX3 84 (TX1 7).1 (TX1 7).2.1 (TX1 7).2.2.1 ∈ j_ws := j_in (List.mem_of_getElem? (i := 78) (by decide +kernel)) rfl
theorem fRX3_87 : Cond.fieldLink RX3 87 (TX0 2).1 (TX0 2).2.1 (TX0 2).2.2.1 ∈ j_ws := j_in (List.mem_of_getElem? (i := 46) (by decide +kernel)) rfl
theorem fRX3_90 : Cond.fieldLink RX3 90 (TX1 3).1 (TX1 3).2.1 (TX1 3).2.2.1 ∈ j_ws := j_in (List.mem_of_getElem? (i := 70) (by decide +kernel)) rfl
theorem fRX3_96 : Cond.fieldLink RX3 96 (TX1 10).1 (TX1 10).2.1 (TX1 10).2.2.1 ∈ j_ws := j_in (List.mem_of_getElem? (i := 84) (by decide +kernel)) rfl
theorem fRX3_103 : Cond.fieldLink RX3 103 (TX0 4).1 (TX0 4).2.1 (TX0 4).2.2.1 ∈ j_ws := j_in (List.mem_of_getElem? (i := 50) (by decide +kernel)) rfl
theorem fRX3_106 : Cond.fieldLink RX3 106 (TX1 11).1 (TX1 11).2.1 (TX1 11).2.2.1 ∈ j_ws := j_in (List.mem_of_getElem? (i := 86) (by decide +kernel)) rfl
theorem fRX3_109 : Cond.fieldLink RX3 109 (TX0 3).1 (TX0 3).2.1 (TX0 3).2.2.1 ∈ j_ws := j_in (List.mem_of_getElem? (i := 48) (by decide +kernel)) rfl
theorem fRX3_112 : Cond.fieldLink RX3 112 (TX1 1).1 (TX1 1).2.1 (TX1 1).2.2.1 ∈ j_ws := j_in (List.mem_of_getElem? (i := 66) (by decide +kernel)) rfl
theorem fRX3_156 : Cond.fieldLink RX3 156 (TX1 0).1 (TX1 0).2.1 (TX1 0).2.2.1 ∈ j_ws := j_in (List.mem_of_getElem? (i := 64) (by decide +kernel)) rfl
theorem fRX3_179 : Cond.fieldLink RX3 179 (TX0 1).1 (TX0 1).2.1 (TX0 1).2.2.1 ∈ j_ws := j_in (List.mem_of_getElem? (i := 44) (by decide +kernel)) rfl
theorem fRX3_189 : Cond.fieldLink RX3 189 (TX1 9).1 (TX1 9).2.1 (TX1 9).2.2.1 ∈ j_ws := j_in (List.mem_of_getElem? (i := 82) (by decide +kernel)) rfl
theorem fRX3_192 : Cond.fieldLink RX3 192 (TX1 2).1 (TX1 2).2.1 (TX1 2).2.2.1 ∈ j_ws := j_in (List.mem_of_getElem? (i := 68) (by decide +kernel)) rfl
theorem fRX0_9 : Cond.fieldLink RX0 9 (TX0 0).1 (TX0 0).2.1 (TX0 0).2.2.1 ∈ j_ws := j_in (List.mem_of_getElem? (i := 40) (by decide +kernel)) rfl
theorem fRX0_15 : Cond.fieldLink RX0 15 (TX0 1).1 (TX0 1).2.1 (TX0 1).2.2.1 ∈ j_ws := j_in (List.mem_of_getElem? (i := 43) (by decide +kernel)) rfl
theorem fRX0_18 : Cond.fieldLink RX0 18 (TX0 2).1 (TX0 2).2.1 (TX0 2).2.2.1 ∈ j_ws := j_in (List.mem_of_getElem? (i := 45) (by decide +kernel)) rfl
theorem fRX0_21 : Cond.fieldLink RX0 21 (TX0 3).1 (TX0 3).2.1 (TX0 3).2.2.1 ∈ j_ws := j_in (List.mem_of_getElem? (i := 47) (by decide +kernel)) rfl
theorem fRX0_25 : Cond.fieldLink RX0 25 (TX0 4).1 (TX0 4).2.1 (TX0 4).2.2.1 ∈ j_ws := j_in (List.mem_of_getElem? (i := 49) (by decide +kernel)) rfl
theorem fRX1_9 : Cond.fieldLink RX1 9 (TX1 0).1 (TX1 0).2.1 (TX1 0).2.2.1 ∈ j_ws := j_in (List.mem_of_getElem? (i := 63) (by decide +kernel)) rfl
theorem fRX1_15 : Cond.fieldLink RX1 15 (TX1 1).1 (TX1 1).2.1 (TX1 1).2.2.1 ∈ j_ws := j_in (List.mem_of_getElem? (i := 65) (by decide +kernel)) rfl
theorem fRX1_18 : Cond.fieldLink RX1 18 (TX1 2).1 (TX1 2).2.1 (TX1 2).2.2.1 ∈ j_ws := j_in (List.mem_of_getElem? (i := 67) (by decide +kernel)) rfl
theorem fRX1_21 : Cond.fieldLink RX1 21 (TX1 3).1 (TX1 3).2.1 (TX1 3).2.2.1 ∈ j_ws := j_in (List.mem_of_getElem? (i := 69) (by decide +kernel)) rfl
theorem fRX1_24 : Cond.fieldLink RX1 24 (TX1 4).1 (TX1 4).2.1 (TX1 4).2.2.1 ∈ j_ws := j_in (List.mem_of_getElem? (i := 71) (by decide +kernel)) rfl
theorem fRX1_28 : Cond.fieldLink RX1 28 (TX1 5).1 (TX1 5).2.1 (TX1 5).2.2.1 ∈ j_ws := j_in (List.mem_of_getElem? (i := 73) (by decide +kernel)) rfl
theorem fRX1_33 : Cond.fieldLink RX1 33 (TX1 6).1 (TX1 6).2.1 (TX1 6).2.2.1 ∈ j_ws := j_in (List.mem_of_getElem? (i := 75) (by decide +kernel)) rfl
theorem fRX1_36 : Cond.fieldLink RX1 36 (TX1 7).1 (TX1 7).2.1 (TX1 7).2.2.1 ∈ j_ws := j_in (List.mem_of_getElem? (i := 77) (by decide +kernel)) rfl
theorem fRX1_41 : Cond.fieldLink RX1 41 (TX1 8).1 (TX1 8).2.1 (TX1 8).2.2.1 ∈ j_ws := j_in (List.mem_of_getElem? (i := 79) (by decide +kernel)) rfl
theorem fRX1_45 : Cond.fieldLink RX1 45 (TX1 9).1 (TX1 9).2.1 (TX1 9).2.2.1 ∈ j_ws := j_in (List.mem_of_getElem? (i := 81) (by decide +kernel)) rfl
theorem fRX1_48 : Cond.fieldLink RX1 48 (TX1 10).1 (TX1 10).2.1 (TX1 10).2.2.1 ∈ j_ws := j_in (List.mem_of_getElem? (i := 83) (by decide +kernel)) rfl
theorem fRX1_51 : Cond.fieldLink RX1 51 (TX1 11).1 (TX1 11).2.1 (TX1 11).2.2.1 ∈ j_ws := j_in (List.mem_of_getElem? (i := 85) (by decide +kernel)) rfl
theorem fRX1_84 : Cond.fieldLink RX1 84 (TX0 0).1 (TX0 0).2.1 (TX0 0).2.2.1 ∈ j_ws := j_in (List.mem_of_getElem? (i := 42) (by decide +kernel)) rfl
theorem fRX2_9 : Cond.fieldLink RX2 9 (TX2 0).1 (TX2 0).2.1 (TX2 0).2.2.1 ∈ j_ws := j_in (List.mem_of_getElem? (i := 119) (by decide +kernel)) rfl
theorem fRX2_15 : Cond.fieldLink RX2 15 (TX2 1).1 (TX2 1).2.1 (TX2 1).2.2.1 ∈ j_ws := j_in (List.mem_of_getElem? (i := 120) (by decide +kernel)) rfl
theorem mRX3_1 : Cond.methodLink RX3 1 objectInit ∈ j_ws := j_in (List.mem_of_getElem? (i := 22) (by decide +kernel)) rfl
theorem mRX3_9 : Cond.methodLink RX3 9 yX1_init ∈ j_ws := j_in (List.mem_of_getElem? (i := 27) (by decide +kernel)) rfl
theorem mRX3_45 : Cond.methodLink RX3 45 yX3_needIndex ∈ j_ws := j_in (List.mem_of_getElem? (i := 257) (by decide +kernel)) rfl
theorem mRX3_49 : Cond.methodLink RX3 49 yX3_needRange ∈ j_ws := j_in (List.mem_of_getElem? (i := 276) (by decide +kernel)) rfl
theorem mRX3_53 : Cond.methodLink RX3 53 yX3_saveState ∈ j_ws := j_in (List.mem_of_getElem? (i := 464) (by decide +kernel)) rfl
theorem mRX3_93 : Cond.methodLink RX3 93 yX0_addLot ∈ j_ws := j_in (List.mem_of_getElem? (i := 502) (by decide +kernel)) rfl
theorem mRX3_99 : Cond.methodLink RX3 99 yX0_sacksWaiting ∈ j_ws := j_in (List.mem_of_getElem? (i := 343) (by decide +kernel)) rfl
theorem mRX3_123 : Cond.methodLink RX3 123 yX1_passHour ∈ j_ws := j_in (List.mem_of_getElem? (i := 522) (by decide +kernel)) rfl
theorem mRX3_150 : Cond.methodLink RX3 150 yX1_agreeingHours ∈ j_ws := j_in (List.mem_of_getElem? (i := 394) (by decide +kernel)) rfl
theorem mRX3_153 : Cond.methodLink RX3 153 yX1_copyFrom ∈ j_ws := j_in (List.mem_of_getElem? (i := 236) (by decide +kernel)) rfl
theorem mRX3_163 : Cond.methodLink RX3 163 yX1_votesIn ∈ j_ws := j_in (List.mem_of_getElem? (i := 295) (by decide +kernel)) rfl
theorem mRX3_167 : Cond.methodLink RX3 167 yX1_verdictIn ∈ j_ws := j_in (List.mem_of_getElem? (i := 303) (by decide +kernel)) rfl
theorem mRX3_170 : Cond.methodLink RX3 170 yX1_sacksGroundIn ∈ j_ws := j_in (List.mem_of_getElem? (i := 316) (by decide +kernel)) rfl
theorem mRX3_173 : Cond.methodLink RX3 173 yX1_hoursOfVane ∈ j_ws := j_in (List.mem_of_getElem? (i := 328) (by decide +kernel)) rfl
theorem mRX3_176 : Cond.methodLink RX3 176 yX1_hoursTurnedBy ∈ j_ws := j_in (List.mem_of_getElem? (i := 332) (by decide +kernel)) rfl
theorem mRX3_182 : Cond.methodLink RX3 182 yX1_fillRates ∈ j_ws := j_in (List.mem_of_getElem? (i := 347) (by decide +kernel)) rfl
theorem mRX3_186 : Cond.methodLink RX3 186 yX1_sacksWaitingOf ∈ j_ws := j_in (List.mem_of_getElem? (i := 358) (by decide +kernel)) rfl
theorem mRX3_195 : Cond.methodLink RX3 195 yX1_committee ∈ j_ws := j_in (List.mem_of_getElem? (i := 393) (by decide +kernel)) rfl
theorem mRX3_198 : Cond.methodLink RX3 198 yX1_sacksWaiting ∈ j_ws := j_in (List.mem_of_getElem? (i := 398) (by decide +kernel)) rfl
theorem mRX3_199 : Cond.methodLink RX3 199 yX1_flourOfAll ∈ j_ws := j_in (List.mem_of_getElem? (i := 403) (by decide +kernel)) rfl
theorem mRX3_202 : Cond.methodLink RX3 202 yX3_hoursUntilGround ∈ j_ws := j_in (List.mem_of_getElem? (i := 373) (by decide +kernel)) rfl
theorem mRX3_205 : Cond.methodLink RX3 205 yX0_flourOf ∈ j_ws := j_in (List.mem_of_getElem? (i := 444) (by decide +kernel)) rfl
theorem mRX0_3 : Cond.methodLink RX0 3 objectInit ∈ j_ws := j_in (List.mem_of_getElem? (i := 39) (by decide +kernel)) rfl
theorem mRX0_28 : Cond.methodLink RX0 28 arraycopyName ∈ j_ws := j_in (List.mem_of_getElem? (i := 247) (by decide +kernel)) rfl
theorem mRX0_34 : Cond.methodLink RX0 34 Lib.Math.min.name ∈ j_ws := j_in (List.mem_of_getElem? (i := 448) (by decide +kernel)) rfl
theorem mRX0_40 : Cond.methodLink RX0 40 yX0_dropFirst ∈ j_ws := j_in (List.mem_of_getElem? (i := 530) (by decide +kernel)) rfl
theorem mRX1_3 : Cond.methodLink RX1 3 objectInit ∈ j_ws := j_in (List.mem_of_getElem? (i := 30) (by decide +kernel)) rfl
theorem mRX1_55 : Cond.methodLink RX1 55 arraycopyName ∈ j_ws := j_in (List.mem_of_getElem? (i := 240) (by decide +kernel)) rfl
theorem mRX1_61 : Cond.methodLink RX1 61 yX0_copyMill ∈ j_ws := j_in (List.mem_of_getElem? (i := 243) (by decide +kernel)) rfl
theorem mRX1_65 : Cond.methodLink RX1 65 yX1_vaneAgrees ∈ j_ws := j_in (List.mem_of_getElem? (i := 299) (by decide +kernel)) rfl
theorem mRX1_69 : Cond.methodLink RX1 69 yX1_committee ∈ j_ws := j_in (List.mem_of_getElem? (i := 307) (by decide +kernel)) rfl
theorem mRX1_73 : Cond.methodLink RX1 73 yX1_votesIn ∈ j_ws := j_in (List.mem_of_getElem? (i := 311) (by decide +kernel)) rfl
theorem mRX1_77 : Cond.methodLink RX1 77 yX1_verdictOf ∈ j_ws := j_in (List.mem_of_getElem? (i := 312) (by decide +kernel)) rfl
theorem mRX1_81 : Cond.methodLink RX1 81 yX1_verdictIn ∈ j_ws := j_in (List.mem_of_getElem? (i := 320) (by decide +kernel)) rfl
theorem mRX1_87 : Cond.methodLink RX1 87 yX0_grind ∈ j_ws := j_in (List.mem_of_getElem? (i := 526) (by decide +kernel)) rfl
theorem mRX1_91 : Cond.methodLink RX1 91 yX0_sacksWaiting ∈ j_ws := j_in (List.mem_of_getElem? (i := 402) (by decide +kernel)) rfl
theorem mRX1_94 : Cond.methodLink RX1 94 yX0_sacksWaitingOf ∈ j_ws := j_in (List.mem_of_getElem? (i := 362) (by decide +kernel)) rfl
theorem mRX2_3 : Cond.methodLink RX2 3 objectInit ∈ j_ws := j_in (List.mem_of_getElem? (i := 118) (by decide +kernel)) rfl
theorem mRL_9 : Cond.methodLink RL 9 yX3_wind ∈ j_ws := j_in (List.mem_of_getElem? (i := 460) (by decide +kernel)) rfl
theorem mRL_19 : Cond.methodLink RL 19 yX3_vane ∈ j_ws := j_in (List.mem_of_getElem? (i := 471) (by decide +kernel)) rfl
theorem mRL_22 : Cond.methodLink RL 22 yX3_mill ∈ j_ws := j_in (List.mem_of_getElem? (i := 480) (by decide +kernel)) rfl
theorem mRL_26 : Cond.methodLink RL 26 yX3_set ∈ j_ws := j_in (List.mem_of_getElem? (i := 487) (by decide +kernel)) rfl
theorem mRL_29 : Cond.methodLink RL 29 yX3_bring ∈ j_ws := j_in (List.mem_of_getElem? (i := 498) (by decide +kernel)) rfl
theorem mRL_32 : Cond.methodLink RL 32 yX3_takeBack ∈ j_ws := j_in (List.mem_of_getElem? (i := 509) (by decide +kernel)) rfl
theorem mRL_36 : Cond.methodLink RL 36 yX3_pass ∈ j_ws := j_in (List.mem_of_getElem? (i := 516) (by decide +kernel)) rfl
theorem mRL_41 : Cond.methodLink RL 41 yX3_undo ∈ j_ws := j_in (List.mem_of_getElem? (i := 164) (by decide +kernel)) rfl
theorem mRL_45 : Cond.methodLink RL 45 yX3_hourOf ∈ j_ws := j_in (List.mem_of_getElem? (i := 253) (by decide +kernel)) rfl
theorem mRL_48 : Cond.methodLink RL 48 yX3_vaneOf ∈ j_ws := j_in (List.mem_of_getElem? (i := 324) (by decide +kernel)) rfl
theorem mRL_51 : Cond.methodLink RL 51 yX3_millOf ∈ j_ws := j_in (List.mem_of_getElem? (i := 339) (by decide +kernel)) rfl
theorem mRL_54 : Cond.methodLink RL 54 yX3_ownerOf ∈ j_ws := j_in (List.mem_of_getElem? (i := 354) (by decide +kernel)) rfl
theorem mRL_57 : Cond.methodLink RL 57 yX3_doneIn ∈ j_ws := j_in (List.mem_of_getElem? (i := 369) (by decide +kernel)) rfl
theorem mRL_60 : Cond.methodLink RL 60 yX3_ifPassed ∈ j_ws := j_in (List.mem_of_getElem? (i := 440) (by decide +kernel)) rfl
theorem mRL_63 : Cond.methodLink RL 63 yL_agrees ∈ j_ws := j_in (List.mem_of_getElem? (i := 380) (by decide +kernel)) rfl
theorem mRL_69 : Cond.methodLink RL 69 yL_why ∈ j_ws := j_in (List.mem_of_getElem? (i := 383) (by decide +kernel)) rfl
theorem mRL_73 : Cond.methodLink RL 73 yL_much ∈ j_ws := j_in (List.mem_of_getElem? (i := 386) (by decide +kernel)) rfl
theorem mRL_76 : Cond.methodLink RL 76 yX3_count ∈ j_ws := j_in (List.mem_of_getElem? (i := 389) (by decide +kernel)) rfl
theorem mRL_79 : Cond.methodLink RL 79 yX3_turnsIn ∈ j_ws := j_in (List.mem_of_getElem? (i := 407) (by decide +kernel)) rfl
theorem mRL_82 : Cond.methodLink RL 82 yX3_mainVane ∈ j_ws := j_in (List.mem_of_getElem? (i := 411) (by decide +kernel)) rfl
theorem mRL_85 : Cond.methodLink RL 85 yX3_turnShare ∈ j_ws := j_in (List.mem_of_getElem? (i := 415) (by decide +kernel)) rfl
theorem mRL_91 : Cond.methodLink RL 91 yX3_setting ∈ j_ws := j_in (List.mem_of_getElem? (i := 421) (by decide +kernel)) rfl
theorem mRL_94 : Cond.methodLink RL 94 yL_waits ∈ j_ws := j_in (List.mem_of_getElem? (i := 428) (by decide +kernel)) rfl
theorem mRL_98 : Cond.methodLink RL 98 yL_copy ∈ j_ws := j_in (List.mem_of_getElem? (i := 434) (by decide +kernel)) rfl
theorem mRL_102 : Cond.methodLink RL 102 yL_hour ∈ j_ws := j_in (List.mem_of_getElem? (i := 437) (by decide +kernel)) rfl
theorem mRL_106 : Cond.methodLink RL 106 yL_ifPassed ∈ j_ws := j_in (List.mem_of_getElem? (i := 451) (by decide +kernel)) rfl
theorem mRL_109 : Cond.methodLink RL 109 yL_low ∈ j_ws := j_in (List.mem_of_getElem? (i := 156) (by decide +kernel)) rfl
theorem mRL_112 : Cond.methodLink RL 112 yL_wind ∈ j_ws := j_in (List.mem_of_getElem? (i := 457) (by decide +kernel)) rfl
theorem mRL_115 : Cond.methodLink RL 115 yL_vane ∈ j_ws := j_in (List.mem_of_getElem? (i := 468) (by decide +kernel)) rfl
theorem mRL_117 : Cond.methodLink RL 117 yL_mill ∈ j_ws := j_in (List.mem_of_getElem? (i := 477) (by decide +kernel)) rfl
theorem mRL_119 : Cond.methodLink RL 119 yL_set ∈ j_ws := j_in (List.mem_of_getElem? (i := 484) (by decide +kernel)) rfl
theorem mRL_121 : Cond.methodLink RL 121 yL_bring ∈ j_ws := j_in (List.mem_of_getElem? (i := 495) (by decide +kernel)) rfl
theorem mRL_123 : Cond.methodLink RL 123 yL_takeBack ∈ j_ws := j_in (List.mem_of_getElem? (i := 506) (by decide +kernel)) rfl
theorem mRL_126 : Cond.methodLink RL 126 yL_pass ∈ j_ws := j_in (List.mem_of_getElem? (i := 513) (by decide +kernel)) rfl
theorem mRL_128 : Cond.methodLink RL 128 yX3_init ∈ j_ws := j_in (List.mem_of_getElem? (i := 19) (by decide +kernel)) rfl
theorem mRL_129 : Cond.methodLink RL 129 yL_areWinds ∈ j_ws := j_in (List.mem_of_getElem? (i := 377) (by decide +kernel)) rfl
theorem mRL_133 : Cond.methodLink RL 133 yL_areSacks ∈ j_ws := j_in (List.mem_of_getElem? (i := 425) (by decide +kernel)) rfl
theorem mRL_137 : Cond.methodLink RL 137 yL_undo ∈ j_ws := j_in (List.mem_of_getElem? (i := 160) (by decide +kernel)) rfl
theorem mRL_140 : Cond.methodLink RL 140 yL_cell ∈ j_ws := j_in (List.mem_of_getElem? (i := 152) (by decide +kernel)) rfl
theorem mRL_144 : Cond.methodLink RL 144 yL_act ∈ j_ws := j_in (List.mem_of_getElem? (i := 454) (by decide +kernel)) rfl
theorem mRL_148 : Cond.methodLink RL 148 yL_isAhead ∈ j_ws := j_in (List.mem_of_getElem? (i := 431) (by decide +kernel)) rfl
theorem mRL_152 : Cond.methodLink RL 152 yL_hourOf ∈ j_ws := j_in (List.mem_of_getElem? (i := 248) (by decide +kernel)) rfl
theorem mRL_154 : Cond.methodLink RL 154 yL_vaneOf ∈ j_ws := j_in (List.mem_of_getElem? (i := 321) (by decide +kernel)) rfl
theorem mRL_156 : Cond.methodLink RL 156 yL_millOf ∈ j_ws := j_in (List.mem_of_getElem? (i := 336) (by decide +kernel)) rfl
theorem mRL_158 : Cond.methodLink RL 158 yL_ownerOf ∈ j_ws := j_in (List.mem_of_getElem? (i := 351) (by decide +kernel)) rfl
theorem mRL_160 : Cond.methodLink RL 160 yL_doneIn ∈ j_ws := j_in (List.mem_of_getElem? (i := 366) (by decide +kernel)) rfl
theorem qRX3_115 : Cond.constant RX3 115 99999 ∈ j_ws := j_in (List.mem_of_getElem? (i := 520) (by decide +kernel)) rfl
theorem qRX3_209 : Cond.constantDouble RX3 209 4627448617123184640 ∈ j_ws := j_in (List.mem_of_getElem? (i := 419) (by decide +kernel)) rfl
theorem qRL_7 : Cond.constant RL 7 1816402316 ∈ j_ws := j_in (List.mem_of_getElem? (i := 155) (by decide +kernel)) rfl
theorem qRL_8 : Cond.constant RL 8 2147483647 ∈ j_ws := j_in (List.mem_of_getElem? (i := 159) (by decide +kernel)) rfl
theorem qRL_89 : Cond.constantDouble RL 89 4627448617123184640 ∈ j_ws := j_in (List.mem_of_getElem? (i := 420) (by decide +kernel)) rfl
theorem kX0_init : j_cd MX0_init ∈ j_ws ∧ Cond.instanceMethod yX0_init ∈ j_ws ∧ Cond.initialized RX0 ∈ j_ws := ⟨j_in (List.mem_of_getElem? (i := 38) (by decide +kernel)) rfl, j_in (List.mem_of_getElem? (i := 37) (by decide +kernel)) rfl, j_in (List.mem_of_getElem? (i := 7) (by decide +kernel)) rfl⟩
theorem kX0_copyMill : j_kV MX0_copyMill 1 := ⟨rfl, j_in (List.mem_of_getElem? (i := 246) (by decide +kernel)) rfl, j_in (List.mem_of_getElem? (i := 244) (by decide +kernel)) rfl, j_in (List.mem_of_getElem? (i := 245) (by decide +kernel)) rfl, j_in (List.mem_of_getElem? (i := 7) (by decide +kernel)) rfl, by decide +kernel, by decide +kernel, by decide +kernel⟩
theorem kX0_addLot : j_kV MX0_addLot 2 := ⟨rfl, j_in (List.mem_of_getElem? (i := 505) (by decide +kernel)) rfl, j_in (List.mem_of_getElem? (i := 503) (by decide +kernel)) rfl, j_in (List.mem_of_getElem? (i := 504) (by decide +kernel)) rfl, j_in (List.mem_of_getElem? (i := 7) (by decide +kernel)) rfl, by decide +kernel, by decide +kernel, by decide +kernel⟩
theorem kX0_sacksWaiting : j_kV MX0_sacksWaiting 0 := ⟨rfl, j_in (List.mem_of_getElem? (i := 346) (by decide +kernel)) rfl, j_in (List.mem_of_getElem? (i := 344) (by decide +kernel)) rfl, j_in (List.mem_of_getElem? (i := 345) (by decide +kernel)) rfl, j_in (List.mem_of_getElem? (i := 7) (by decide +kernel)) rfl, by decide +kernel, by decide +kernel, by decide +kernel⟩
theorem kX0_sacksWaitingOf : j_kV MX0_sacksWaitingOf 1 := ⟨rfl, j_in (List.mem_of_getElem? (i := 365) (by decide +kernel)) rfl, j_in (List.mem_of_getElem? (i := 363) (by decide +kernel)) rfl, j_in (List.mem_of_getElem? (i := 364) (by decide +kernel)) rfl, j_in (List.mem_of_getElem? (i := 7) (by decide +kernel)) rfl, by decide +kernel, by decide +kernel, by decide +kernel⟩
theorem kX0_flourOf : j_kV MX0_flourOf 2 := ⟨rfl, j_in (List.mem_of_getElem? (i := 447) (by decide +kernel)) rfl, j_in (List.mem_of_getElem? (i := 445) (by decide +kernel)) rfl, j_in (List.mem_of_getElem? (i := 446) (by decide +kernel)) rfl, j_in (List.mem_of_getElem? (i := 7) (by decide +kernel)) rfl, by decide +kernel, by decide +kernel, by decide +kernel⟩
theorem kX0_grind : j_kV MX0_grind 2 := ⟨rfl, j_in (List.mem_of_getElem? (i := 529) (by decide +kernel)) rfl, j_in (List.mem_of_getElem? (i := 527) (by decide +kernel)) rfl, j_in (List.mem_of_getElem? (i := 528) (by decide +kernel)) rfl, j_in (List.mem_of_getElem? (i := 7) (by decide +kernel)) rfl, by decide +kernel, by decide +kernel, by decide +kernel⟩
theorem kX0_dropFirst : j_kV MX0_dropFirst 1 := ⟨rfl, j_in (List.mem_of_getElem? (i := 533) (by decide +kernel)) rfl, j_in (List.mem_of_getElem? (i := 532) (by decide +kernel)) rfl, j_in (List.mem_of_getElem? (i := 3) (by decide +kernel)) rfl, j_in (List.mem_of_getElem? (i := 7) (by decide +kernel)) rfl, by decide +kernel, by decide +kernel, by decide +kernel⟩
theorem kX1_init : j_cd MX1_init ∈ j_ws ∧ Cond.instanceMethod yX1_init ∈ j_ws ∧ Cond.initialized RX1 ∈ j_ws := ⟨j_in (List.mem_of_getElem? (i := 29) (by decide +kernel)) rfl, j_in (List.mem_of_getElem? (i := 28) (by decide +kernel)) rfl, j_in (List.mem_of_getElem? (i := 6) (by decide +kernel)) rfl⟩
theorem kX1_copyFrom : j_kV MX1_copyFrom 1 := ⟨rfl, j_in (List.mem_of_getElem? (i := 239) (by decide +kernel)) rfl, j_in (List.mem_of_getElem? (i := 237) (by decide +kernel)) rfl, j_in (List.mem_of_getElem? (i := 238) (by decide +kernel)) rfl, j_in (List.mem_of_getElem? (i := 6) (by decide +kernel)) rfl, by decide +kernel, by decide +kernel, by decide +kernel⟩
theorem kX1_vaneAgrees : j_kV MX1_vaneAgrees 2 := ⟨rfl, j_in (List.mem_of_getElem? (i := 302) (by decide +kernel)) rfl, j_in (List.mem_of_getElem? (i := 300) (by decide +kernel)) rfl, j_in (List.mem_of_getElem? (i := 301) (by decide +kernel)) rfl, j_in (List.mem_of_getElem? (i := 6) (by decide +kernel)) rfl, by decide +kernel, by decide +kernel, by decide +kernel⟩
theorem kX1_committee : j_kV MX1_committee 0 := ⟨rfl, j_in (List.mem_of_getElem? (i := 310) (by decide +kernel)) rfl, j_in (List.mem_of_getElem? (i := 308) (by decide +kernel)) rfl, j_in (List.mem_of_getElem? (i := 309) (by decide +kernel)) rfl, j_in (List.mem_of_getElem? (i := 6) (by decide +kernel)) rfl, by decide +kernel, by decide +kernel, by decide +kernel⟩
theorem kX1_votesIn : j_kV MX1_votesIn 1 := ⟨rfl, j_in (List.mem_of_getElem? (i := 298) (by decide +kernel)) rfl, j_in (List.mem_of_getElem? (i := 296) (by decide +kernel)) rfl, j_in (List.mem_of_getElem? (i := 297) (by decide +kernel)) rfl, j_in (List.mem_of_getElem? (i := 6) (by decide +kernel)) rfl, by decide +kernel, by decide +kernel, by decide +kernel⟩
theorem kX1_verdictOf : j_kV MX1_verdictOf 2 := ⟨rfl, j_in (List.mem_of_getElem? (i := 315) (by decide +kernel)) rfl, j_in (List.mem_of_getElem? (i := 313) (by decide +kernel)) rfl, j_in (List.mem_of_getElem? (i := 314) (by decide +kernel)) rfl, j_in (List.mem_of_getElem? (i := 6) (by decide +kernel)) rfl, by decide +kernel, by decide +kernel, by decide +kernel⟩
theorem kX1_verdictIn : j_kV MX1_verdictIn 1 := ⟨rfl, j_in (List.mem_of_getElem? (i := 306) (by decide +kernel)) rfl, j_in (List.mem_of_getElem? (i := 304) (by decide +kernel)) rfl, j_in (List.mem_of_getElem? (i := 305) (by decide +kernel)) rfl, j_in (List.mem_of_getElem? (i := 6) (by decide +kernel)) rfl, by decide +kernel, by decide +kernel, by decide +kernel⟩
theorem kX1_agreeingHours : j_kV MX1_agreeingHours 0 := ⟨rfl, j_in (List.mem_of_getElem? (i := 397) (by decide +kernel)) rfl, j_in (List.mem_of_getElem? (i := 395) (by decide +kernel)) rfl, j_in (List.mem_of_getElem? (i := 396) (by decide +kernel)) rfl, j_in (List.mem_of_getElem? (i := 6) (by decide +kernel)) rfl, by decide +kernel, by decide +kernel, by decide +kernel⟩
theorem kX1_hoursOfVane : j_kV MX1_hoursOfVane 1 := ⟨rfl, j_in (List.mem_of_getElem? (i := 331) (by decide +kernel)) rfl, j_in (List.mem_of_getElem? (i := 329) (by decide +kernel)) rfl, j_in (List.mem_of_getElem? (i := 330) (by decide +kernel)) rfl, j_in (List.mem_of_getElem? (i := 6) (by decide +kernel)) rfl, by decide +kernel, by decide +kernel, by decide +kernel⟩
theorem kX1_hoursTurnedBy : j_kV MX1_hoursTurnedBy 1 := ⟨rfl, j_in (List.mem_of_getElem? (i := 335) (by decide +kernel)) rfl, j_in (List.mem_of_getElem? (i := 333) (by decide +kernel)) rfl, j_in (List.mem_of_getElem? (i := 334) (by decide +kernel)) rfl, j_in (List.mem_of_getElem? (i := 6) (by decide +kernel)) rfl, by decide +kernel, by decide +kernel, by decide +kernel⟩
theorem kX1_sacksGroundIn : j_kV MX1_sacksGroundIn 1 := ⟨rfl, j_in (List.mem_of_getElem? (i := 319) (by decide +kernel)) rfl, j_in (List.mem_of_getElem? (i := 317) (by decide +kernel)) rfl, j_in (List.mem_of_getElem? (i := 318) (by decide +kernel)) rfl, j_in (List.mem_of_getElem? (i := 6) (by decide +kernel)) rfl, by decide +kernel, by decide +kernel, by decide +kernel⟩
theorem kX1_fillRates : j_kV MX1_fillRates 2 := ⟨rfl, j_in (List.mem_of_getElem? (i := 350) (by decide +kernel)) rfl, j_in (List.mem_of_getElem? (i := 348) (by decide +kernel)) rfl, j_in (List.mem_of_getElem? (i := 349) (by decide +kernel)) rfl, j_in (List.mem_of_getElem? (i := 6) (by decide +kernel)) rfl, by decide +kernel, by decide +kernel, by decide +kernel⟩
theorem kX1_passHour : j_kV MX1_passHour 0 := ⟨rfl, j_in (List.mem_of_getElem? (i := 525) (by decide +kernel)) rfl, j_in (List.mem_of_getElem? (i := 523) (by decide +kernel)) rfl, j_in (List.mem_of_getElem? (i := 524) (by decide +kernel)) rfl, j_in (List.mem_of_getElem? (i := 6) (by decide +kernel)) rfl, by decide +kernel, by decide +kernel, by decide +kernel⟩
theorem kX1_sacksWaiting : j_kV MX1_sacksWaiting 0 := ⟨rfl, j_in (List.mem_of_getElem? (i := 401) (by decide +kernel)) rfl, j_in (List.mem_of_getElem? (i := 399) (by decide +kernel)) rfl, j_in (List.mem_of_getElem? (i := 400) (by decide +kernel)) rfl, j_in (List.mem_of_getElem? (i := 6) (by decide +kernel)) rfl, by decide +kernel, by decide +kernel, by decide +kernel⟩
theorem kX1_sacksWaitingOf : j_kV MX1_sacksWaitingOf 1 := ⟨rfl, j_in (List.mem_of_getElem? (i := 361) (by decide +kernel)) rfl, j_in (List.mem_of_getElem? (i := 359) (by decide +kernel)) rfl, j_in (List.mem_of_getElem? (i := 360) (by decide +kernel)) rfl, j_in (List.mem_of_getElem? (i := 6) (by decide +kernel)) rfl, by decide +kernel, by decide +kernel, by decide +kernel⟩
theorem kX1_flourOfAll : j_kV MX1_flourOfAll 0 := ⟨rfl, j_in (List.mem_of_getElem? (i := 406) (by decide +kernel)) rfl, j_in (List.mem_of_getElem? (i := 404) (by decide +kernel)) rfl, j_in (List.mem_of_getElem? (i := 405) (by decide +kernel)) rfl, j_in (List.mem_of_getElem? (i := 6) (by decide +kernel)) rfl, by decide +kernel, by decide +kernel, by decide +kernel⟩
theorem kX2_init : j_cd MX2_init ∈ j_ws ∧ Cond.instanceMethod yX2_init ∈ j_ws ∧ Cond.initialized RX2 ∈ j_ws := ⟨j_in (List.mem_of_getElem? (i := 117) (by decide +kernel)) rfl, j_in (List.mem_of_getElem? (i := 116) (by decide +kernel)) rfl, j_in (List.mem_of_getElem? (i := 8) (by decide +kernel)) rfl⟩
theorem kX3_init : j_cd MX3_init ∈ j_ws ∧ Cond.instanceMethod yX3_init ∈ j_ws ∧ Cond.initialized RX3 ∈ j_ws := ⟨j_in (List.mem_of_getElem? (i := 21) (by decide +kernel)) rfl, j_in (List.mem_of_getElem? (i := 20) (by decide +kernel)) rfl, j_in (List.mem_of_getElem? (i := 5) (by decide +kernel)) rfl⟩
theorem kX3_wind : j_kV MX3_wind 3 := ⟨rfl, j_in (List.mem_of_getElem? (i := 463) (by decide +kernel)) rfl, j_in (List.mem_of_getElem? (i := 461) (by decide +kernel)) rfl, j_in (List.mem_of_getElem? (i := 462) (by decide +kernel)) rfl, j_in (List.mem_of_getElem? (i := 5) (by decide +kernel)) rfl, by decide +kernel, by decide +kernel, by decide +kernel⟩
theorem kX3_vane : j_kV MX3_vane 3 := ⟨rfl, j_in (List.mem_of_getElem? (i := 474) (by decide +kernel)) rfl, j_in (List.mem_of_getElem? (i := 472) (by decide +kernel)) rfl, j_in (List.mem_of_getElem? (i := 473) (by decide +kernel)) rfl, j_in (List.mem_of_getElem? (i := 5) (by decide +kernel)) rfl, by decide +kernel, by decide +kernel, by decide +kernel⟩
theorem kX3_mill : j_kV MX3_mill 2 := ⟨rfl, j_in (List.mem_of_getElem? (i := 483) (by decide +kernel)) rfl, j_in (List.mem_of_getElem? (i := 481) (by decide +kernel)) rfl, j_in (List.mem_of_getElem? (i := 482) (by decide +kernel)) rfl, j_in (List.mem_of_getElem? (i := 5) (by decide +kernel)) rfl, by decide +kernel, by decide +kernel, by decide +kernel⟩
theorem kX3_set : j_kV MX3_set 2 := ⟨rfl, j_in (List.mem_of_getElem? (i := 490) (by decide +kernel)) rfl, j_in (List.mem_of_getElem? (i := 488) (by decide +kernel)) rfl, j_in (List.mem_of_getElem? (i := 489) (by decide +kernel)) rfl, j_in (List.mem_of_getElem? (i := 5) (by decide +kernel)) rfl, by decide +kernel, by decide +kernel, by decide +kernel⟩
theorem kX3_bring : j_kV MX3_bring 3 := ⟨rfl, j_in (List.mem_of_getElem? (i := 501) (by decide +kernel)) rfl, j_in (List.mem_of_getElem? (i := 499) (by decide +kernel)) rfl, j_in (List.mem_of_getElem? (i := 500) (by decide +kernel)) rfl, j_in (List.mem_of_getElem? (i := 5) (by decide +kernel)) rfl, by decide +kernel, by decide +kernel, by decide +kernel⟩
theorem kX3_takeBack : j_kV MX3_takeBack 1 := ⟨rfl, j_in (List.mem_of_getElem? (i := 512) (by decide +kernel)) rfl, j_in (List.mem_of_getElem? (i := 510) (by decide +kernel)) rfl, j_in (List.mem_of_getElem? (i := 511) (by decide +kernel)) rfl, j_in (List.mem_of_getElem? (i := 5) (by decide +kernel)) rfl, by decide +kernel, by decide +kernel, by decide +kernel⟩
theorem kX3_pass : j_kV MX3_pass 1 := ⟨rfl, j_in (List.mem_of_getElem? (i := 519) (by decide +kernel)) rfl, j_in (List.mem_of_getElem? (i := 517) (by decide +kernel)) rfl, j_in (List.mem_of_getElem? (i := 518) (by decide +kernel)) rfl, j_in (List.mem_of_getElem? (i := 5) (by decide +kernel)) rfl, by decide +kernel, by decide +kernel, by decide +kernel⟩
theorem kX3_undo : j_kV MX3_undo 0 := ⟨rfl, j_in (List.mem_of_getElem? (i := 167) (by decide +kernel)) rfl, j_in (List.mem_of_getElem? (i := 165) (by decide +kernel)) rfl, j_in (List.mem_of_getElem? (i := 166) (by decide +kernel)) rfl, j_in (List.mem_of_getElem? (i := 5) (by decide +kernel)) rfl, by decide +kernel, by decide +kernel, by decide +kernel⟩
theorem kX3_hourOf : j_kV MX3_hourOf 2 := ⟨rfl, j_in (List.mem_of_getElem? (i := 256) (by decide +kernel)) rfl, j_in (List.mem_of_getElem? (i := 254) (by decide +kernel)) rfl, j_in (List.mem_of_getElem? (i := 255) (by decide +kernel)) rfl, j_in (List.mem_of_getElem? (i := 5) (by decide +kernel)) rfl, by decide +kernel, by decide +kernel, by decide +kernel⟩
theorem kX3_vaneOf : j_kV MX3_vaneOf 2 := ⟨rfl, j_in (List.mem_of_getElem? (i := 327) (by decide +kernel)) rfl, j_in (List.mem_of_getElem? (i := 325) (by decide +kernel)) rfl, j_in (List.mem_of_getElem? (i := 326) (by decide +kernel)) rfl, j_in (List.mem_of_getElem? (i := 5) (by decide +kernel)) rfl, by decide +kernel, by decide +kernel, by decide +kernel⟩
theorem kX3_millOf : j_kV MX3_millOf 2 := ⟨rfl, j_in (List.mem_of_getElem? (i := 342) (by decide +kernel)) rfl, j_in (List.mem_of_getElem? (i := 340) (by decide +kernel)) rfl, j_in (List.mem_of_getElem? (i := 341) (by decide +kernel)) rfl, j_in (List.mem_of_getElem? (i := 5) (by decide +kernel)) rfl, by decide +kernel, by decide +kernel, by decide +kernel⟩
theorem kX3_ownerOf : j_kV MX3_ownerOf 2 := ⟨rfl, j_in (List.mem_of_getElem? (i := 357) (by decide +kernel)) rfl, j_in (List.mem_of_getElem? (i := 355) (by decide +kernel)) rfl, j_in (List.mem_of_getElem? (i := 356) (by decide +kernel)) rfl, j_in (List.mem_of_getElem? (i := 5) (by decide +kernel)) rfl, by decide +kernel, by decide +kernel, by decide +kernel⟩
theorem kX3_count : j_kV MX3_count 1 := ⟨rfl, j_in (List.mem_of_getElem? (i := 392) (by decide +kernel)) rfl, j_in (List.mem_of_getElem? (i := 390) (by decide +kernel)) rfl, j_in (List.mem_of_getElem? (i := 391) (by decide +kernel)) rfl, j_in (List.mem_of_getElem? (i := 5) (by decide +kernel)) rfl, by decide +kernel, by decide +kernel, by decide +kernel⟩
theorem kX3_setting : j_kV MX3_setting 1 := ⟨rfl, j_in (List.mem_of_getElem? (i := 424) (by decide +kernel)) rfl, j_in (List.mem_of_getElem? (i := 422) (by decide +kernel)) rfl, j_in (List.mem_of_getElem? (i := 423) (by decide +kernel)) rfl, j_in (List.mem_of_getElem? (i := 5) (by decide +kernel)) rfl, by decide +kernel, by decide +kernel, by decide +kernel⟩
theorem kX3_doneIn : j_kV MX3_doneIn 2 := ⟨rfl, j_in (List.mem_of_getElem? (i := 372) (by decide +kernel)) rfl, j_in (List.mem_of_getElem? (i := 370) (by decide +kernel)) rfl, j_in (List.mem_of_getElem? (i := 371) (by decide +kernel)) rfl, j_in (List.mem_of_getElem? (i := 5) (by decide +kernel)) rfl, by decide +kernel, by decide +kernel, by decide +kernel⟩
theorem kX3_ifPassed : j_kV MX3_ifPassed 2 := ⟨rfl, j_in (List.mem_of_getElem? (i := 443) (by decide +kernel)) rfl, j_in (List.mem_of_getElem? (i := 441) (by decide +kernel)) rfl, j_in (List.mem_of_getElem? (i := 442) (by decide +kernel)) rfl, j_in (List.mem_of_getElem? (i := 5) (by decide +kernel)) rfl, by decide +kernel, by decide +kernel, by decide +kernel⟩
theorem kX3_turnsIn : j_kV MX3_turnsIn 0 := ⟨rfl, j_in (List.mem_of_getElem? (i := 410) (by decide +kernel)) rfl, j_in (List.mem_of_getElem? (i := 408) (by decide +kernel)) rfl, j_in (List.mem_of_getElem? (i := 409) (by decide +kernel)) rfl, j_in (List.mem_of_getElem? (i := 5) (by decide +kernel)) rfl, by decide +kernel, by decide +kernel, by decide +kernel⟩
theorem kX3_mainVane : j_kV MX3_mainVane 0 := ⟨rfl, j_in (List.mem_of_getElem? (i := 414) (by decide +kernel)) rfl, j_in (List.mem_of_getElem? (i := 412) (by decide +kernel)) rfl, j_in (List.mem_of_getElem? (i := 413) (by decide +kernel)) rfl, j_in (List.mem_of_getElem? (i := 5) (by decide +kernel)) rfl, by decide +kernel, by decide +kernel, by decide +kernel⟩
theorem kX3_turnShare : j_kV MX3_turnShare 0 := ⟨rfl, j_in (List.mem_of_getElem? (i := 418) (by decide +kernel)) rfl, j_in (List.mem_of_getElem? (i := 416) (by decide +kernel)) rfl, j_in (List.mem_of_getElem? (i := 417) (by decide +kernel)) rfl, j_in (List.mem_of_getElem? (i := 5) (by decide +kernel)) rfl, by decide +kernel, by decide +kernel, by decide +kernel⟩
theorem kX3_needIndex : j_kS MX3_needIndex 2 := ⟨rfl, j_in (List.mem_of_getElem? (i := 259) (by decide +kernel)) rfl, j_in (List.mem_of_getElem? (i := 258) (by decide +kernel)) rfl, j_in (List.mem_of_getElem? (i := 5) (by decide +kernel)) rfl, by decide +kernel, by decide +kernel, by decide +kernel⟩
theorem kX3_needRange : j_kS MX3_needRange 3 := ⟨rfl, j_in (List.mem_of_getElem? (i := 278) (by decide +kernel)) rfl, j_in (List.mem_of_getElem? (i := 277) (by decide +kernel)) rfl, j_in (List.mem_of_getElem? (i := 5) (by decide +kernel)) rfl, by decide +kernel, by decide +kernel, by decide +kernel⟩
theorem kX3_saveState : j_kV MX3_saveState 0 := ⟨rfl, j_in (List.mem_of_getElem? (i := 467) (by decide +kernel)) rfl, j_in (List.mem_of_getElem? (i := 466) (by decide +kernel)) rfl, j_in (List.mem_of_getElem? (i := 2) (by decide +kernel)) rfl, j_in (List.mem_of_getElem? (i := 5) (by decide +kernel)) rfl, by decide +kernel, by decide +kernel, by decide +kernel⟩
theorem kX3_hoursUntilGround : j_kV MX3_hoursUntilGround 1 := ⟨rfl, j_in (List.mem_of_getElem? (i := 376) (by decide +kernel)) rfl, j_in (List.mem_of_getElem? (i := 375) (by decide +kernel)) rfl, j_in (List.mem_of_getElem? (i := 1) (by decide +kernel)) rfl, j_in (List.mem_of_getElem? (i := 5) (by decide +kernel)) rfl, by decide +kernel, by decide +kernel, by decide +kernel⟩
theorem kL_low : j_kS ML_low 2 := ⟨rfl, j_in (List.mem_of_getElem? (i := 158) (by decide +kernel)) rfl, j_in (List.mem_of_getElem? (i := 157) (by decide +kernel)) rfl, j_in (List.mem_of_getElem? (i := 4) (by decide +kernel)) rfl, by decide +kernel, by decide +kernel, by decide +kernel⟩
theorem kL_wind : j_kH ML_wind 4 := ⟨by decide, j_in (List.mem_of_getElem? (i := 459) (by decide +kernel)) rfl, j_in (List.mem_of_getElem? (i := 458) (by decide +kernel)) rfl, j_in (List.mem_of_getElem? (i := 4) (by decide +kernel)) rfl, by decide +kernel, by decide +kernel, by decide +kernel⟩
theorem kL_vane : j_kH ML_vane 4 := ⟨by decide, j_in (List.mem_of_getElem? (i := 470) (by decide +kernel)) rfl, j_in (List.mem_of_getElem? (i := 469) (by decide +kernel)) rfl, j_in (List.mem_of_getElem? (i := 4) (by decide +kernel)) rfl, by decide +kernel, by decide +kernel, by decide +kernel⟩
theorem kL_mill : j_kH ML_mill 3 := ⟨by decide, j_in (List.mem_of_getElem? (i := 479) (by decide +kernel)) rfl, j_in (List.mem_of_getElem? (i := 478) (by decide +kernel)) rfl, j_in (List.mem_of_getElem? (i := 4) (by decide +kernel)) rfl, by decide +kernel, by decide +kernel, by decide +kernel⟩
theorem kL_set : j_kH ML_set 3 := ⟨by decide, j_in (List.mem_of_getElem? (i := 486) (by decide +kernel)) rfl, j_in (List.mem_of_getElem? (i := 485) (by decide +kernel)) rfl, j_in (List.mem_of_getElem? (i := 4) (by decide +kernel)) rfl, by decide +kernel, by decide +kernel, by decide +kernel⟩
theorem kL_bring : j_kH ML_bring 4 := ⟨by decide, j_in (List.mem_of_getElem? (i := 497) (by decide +kernel)) rfl, j_in (List.mem_of_getElem? (i := 496) (by decide +kernel)) rfl, j_in (List.mem_of_getElem? (i := 4) (by decide +kernel)) rfl, by decide +kernel, by decide +kernel, by decide +kernel⟩
theorem kL_takeBack : j_kH ML_takeBack 2 := ⟨by decide, j_in (List.mem_of_getElem? (i := 508) (by decide +kernel)) rfl, j_in (List.mem_of_getElem? (i := 507) (by decide +kernel)) rfl, j_in (List.mem_of_getElem? (i := 4) (by decide +kernel)) rfl, by decide +kernel, by decide +kernel, by decide +kernel⟩
theorem kL_pass : j_kH ML_pass 2 := ⟨by decide, j_in (List.mem_of_getElem? (i := 515) (by decide +kernel)) rfl, j_in (List.mem_of_getElem? (i := 514) (by decide +kernel)) rfl, j_in (List.mem_of_getElem? (i := 4) (by decide +kernel)) rfl, by decide +kernel, by decide +kernel, by decide +kernel⟩
theorem kL_undo : j_kH ML_undo 1 := ⟨by decide, j_in (List.mem_of_getElem? (i := 162) (by decide +kernel)) rfl, j_in (List.mem_of_getElem? (i := 161) (by decide +kernel)) rfl, j_in (List.mem_of_getElem? (i := 4) (by decide +kernel)) rfl, by decide +kernel, by decide +kernel, by decide +kernel⟩
theorem kL_hourOf : j_kH ML_hourOf 3 := ⟨by decide, j_in (List.mem_of_getElem? (i := 250) (by decide +kernel)) rfl, j_in (List.mem_of_getElem? (i := 249) (by decide +kernel)) rfl, j_in (List.mem_of_getElem? (i := 4) (by decide +kernel)) rfl, by decide +kernel, by decide +kernel, by decide +kernel⟩
theorem kL_vaneOf : j_kH ML_vaneOf 3 := ⟨by decide, j_in (List.mem_of_getElem? (i := 323) (by decide +kernel)) rfl, j_in (List.mem_of_getElem? (i := 322) (by decide +kernel)) rfl, j_in (List.mem_of_getElem? (i := 4) (by decide +kernel)) rfl, by decide +kernel, by decide +kernel, by decide +kernel⟩
theorem kL_millOf : j_kH ML_millOf 3 := ⟨by decide, j_in (List.mem_of_getElem? (i := 338) (by decide +kernel)) rfl, j_in (List.mem_of_getElem? (i := 337) (by decide +kernel)) rfl, j_in (List.mem_of_getElem? (i := 4) (by decide +kernel)) rfl, by decide +kernel, by decide +kernel, by decide +kernel⟩
theorem kL_ownerOf : j_kH ML_ownerOf 3 := ⟨by decide, j_in (List.mem_of_getElem? (i := 353) (by decide +kernel)) rfl, j_in (List.mem_of_getElem? (i := 352) (by decide +kernel)) rfl, j_in (List.mem_of_getElem? (i := 4) (by decide +kernel)) rfl, by decide +kernel, by decide +kernel, by decide +kernel⟩
theorem kL_doneIn : j_kH ML_doneIn 3 := ⟨by decide, j_in (List.mem_of_getElem? (i := 368) (by decide +kernel)) rfl, j_in (List.mem_of_getElem? (i := 367) (by decide +kernel)) rfl, j_in (List.mem_of_getElem? (i := 4) (by decide +kernel)) rfl, by decide +kernel, by decide +kernel, by decide +kernel⟩
theorem kL_ifPassed : j_kH ML_ifPassed 3 := ⟨by decide, j_in (List.mem_of_getElem? (i := 453) (by decide +kernel)) rfl, j_in (List.mem_of_getElem? (i := 452) (by decide +kernel)) rfl, j_in (List.mem_of_getElem? (i := 4) (by decide +kernel)) rfl, by decide +kernel, by decide +kernel, by decide +kernel⟩
theorem kL_agrees : j_kS ML_agrees 4 := ⟨rfl, j_in (List.mem_of_getElem? (i := 382) (by decide +kernel)) rfl, j_in (List.mem_of_getElem? (i := 381) (by decide +kernel)) rfl, j_in (List.mem_of_getElem? (i := 4) (by decide +kernel)) rfl, by decide +kernel, by decide +kernel, by decide +kernel⟩
theorem kL_waits : j_kS ML_waits 3 := ⟨rfl, j_in (List.mem_of_getElem? (i := 430) (by decide +kernel)) rfl, j_in (List.mem_of_getElem? (i := 429) (by decide +kernel)) rfl, j_in (List.mem_of_getElem? (i := 4) (by decide +kernel)) rfl, by decide +kernel, by decide +kernel, by decide +kernel⟩
theorem kL_copy : j_kS ML_copy 2 := ⟨rfl, j_in (List.mem_of_getElem? (i := 436) (by decide +kernel)) rfl, j_in (List.mem_of_getElem? (i := 435) (by decide +kernel)) rfl, j_in (List.mem_of_getElem? (i := 4) (by decide +kernel)) rfl, by decide +kernel, by decide +kernel, by decide +kernel⟩
theorem kL_areWinds : j_kS ML_areWinds 4 := ⟨rfl, j_in (List.mem_of_getElem? (i := 379) (by decide +kernel)) rfl, j_in (List.mem_of_getElem? (i := 378) (by decide +kernel)) rfl, j_in (List.mem_of_getElem? (i := 4) (by decide +kernel)) rfl, by decide +kernel, by decide +kernel, by decide +kernel⟩
theorem at_IllegalStateException : ∀ w ∈ vx_atS RX3 120 "java/lang/IllegalStateException" j_nms, j_at w := by
  unfold j_at
  decide +kernel
theorem ac_IllegalStateException : Cond.classLink RX3 116 "java/lang/IllegalStateException" ∈ j_ws := j_in (List.mem_of_getElem? (i := 168) (by decide +kernel)) rfl
theorem ai_IllegalStateException : Cond.initialized "java/lang/IllegalStateException" ∈ j_ws := j_in (List.mem_of_getElem? (i := 14) (by decide +kernel)) rfl
theorem ag_IllegalStateException : ∀ w ∈ Cond.classLink RX3 116 "java/lang/IllegalStateException" :: Cond.initialized "java/lang/IllegalStateException" :: vx_atS RX3 120 "java/lang/IllegalStateException" j_nms, vx_ot w = true := by decide +kernel
theorem at_IndexOutOfBoundsException : ∀ w ∈ vx_atS RX3 257 "java/lang/IndexOutOfBoundsException" j_nms, j_at w := by
  unfold j_at
  decide +kernel
theorem ac_IndexOutOfBoundsException : Cond.classLink RX3 253 "java/lang/IndexOutOfBoundsException" ∈ j_ws := j_in (List.mem_of_getElem? (i := 260) (by decide +kernel)) rfl
theorem ai_IndexOutOfBoundsException : Cond.initialized "java/lang/IndexOutOfBoundsException" ∈ j_ws := j_in (List.mem_of_getElem? (i := 12) (by decide +kernel)) rfl
theorem ag_IndexOutOfBoundsException : ∀ w ∈ Cond.classLink RX3 253 "java/lang/IndexOutOfBoundsException" :: Cond.initialized "java/lang/IndexOutOfBoundsException" :: vx_atS RX3 257 "java/lang/IndexOutOfBoundsException" j_nms, vx_ot w = true := by decide +kernel
theorem at_IllegalArgumentException : ∀ w ∈ vx_atS RX3 145 "java/lang/IllegalArgumentException" j_nms, j_at w := by
  unfold j_at
  decide +kernel
theorem ac_IllegalArgumentException : Cond.classLink RX3 141 "java/lang/IllegalArgumentException" ∈ j_ws := j_in (List.mem_of_getElem? (i := 279) (by decide +kernel)) rfl
theorem ai_IllegalArgumentException : Cond.initialized "java/lang/IllegalArgumentException" ∈ j_ws := j_in (List.mem_of_getElem? (i := 13) (by decide +kernel)) rfl
theorem ag_IllegalArgumentException : ∀ w ∈ Cond.classLink RX3 141 "java/lang/IllegalArgumentException" :: Cond.initialized "java/lang/IllegalArgumentException" :: vx_atS RX3 145 "java/lang/IllegalArgumentException" j_nms, vx_ot w = true := by decide +kernel
theorem lRL_10 : Cond.classLink RL 10 "VaneVotes" ∈ j_ws := j_in (List.mem_of_getElem? (i := 17) (by decide +kernel)) rfl
theorem lRX3_7 : Cond.classLink RX3 7 "VaneVotes$Village" ∈ j_ws := j_in (List.mem_of_getElem? (i := 25) (by decide +kernel)) rfl
theorem lRX1_31 : Cond.classLink RX1 31 "[[I" ∈ j_ws := j_in (List.mem_of_getElem? (i := 31) (by decide +kernel)) rfl
theorem lRX1_39 : Cond.classLink RX1 39 "VaneVotes$Mill" ∈ j_ws := j_in (List.mem_of_getElem? (i := 33) (by decide +kernel)) rfl
theorem lRX3_34 : Cond.classLink RX3 34 "VaneVotes$WindText" ∈ j_ws := j_in (List.mem_of_getElem? (i := 113) (by decide +kernel)) rfl
theorem lRL_39 : Cond.classLink RL 39 "java/lang/IllegalStateException" ∈ j_ws := j_in (List.mem_of_getElem? (i := 163) (by decide +kernel)) rfl
theorem lRL_15 : Cond.classLink RL 15 "java/lang/IndexOutOfBoundsException" ∈ j_ws := j_in (List.mem_of_getElem? (i := 251) (by decide +kernel)) rfl
theorem lRL_17 : Cond.classLink RL 17 "java/lang/IllegalArgumentException" ∈ j_ws := j_in (List.mem_of_getElem? (i := 252) (by decide +kernel)) rfl
theorem a_min : Cond.static Lib.Math.min.name ∈ j_ws ∧ Cond.initialized "java/lang/Math" ∈ j_ws ∧ Cond.code Lib.Math.min.name Lib.Math.min.code 2 (some .int) ∈ j_ws := ⟨j_in (List.mem_of_getElem? (i := 449) (by decide +kernel)) rfl, j_in (List.mem_of_getElem? (i := 16) (by decide +kernel)) rfl, j_in (List.mem_of_getElem? (i := 450) (by decide +kernel)) rfl⟩
theorem a_acp : Cond.native arraycopyName ∈ j_ws ∧ Cond.static arraycopyName ∈ j_ws ∧ Cond.initialized "java/lang/System" ∈ j_ws := ⟨j_in (List.mem_of_getElem? (i := 242) (by decide +kernel)) rfl, j_in (List.mem_of_getElem? (i := 241) (by decide +kernel)) rfl, j_in (List.mem_of_getElem? (i := 15) (by decide +kernel)) rfl⟩
