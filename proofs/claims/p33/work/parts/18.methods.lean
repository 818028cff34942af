abbrev mL_law : qM := (yL_law, cL_law, 13, some .boolean)
abbrev mX0_init : qM := (yX0_init, cX0_init, 5, none)
abbrev mX0_lightAt : qM := (yX0_lightAt, cX0_lightAt, 1, (some .int))
abbrev mX0_airBy : qM := (yX0_airBy, cX0_airBy, 1, (some .int))
abbrev mX0_powerBy : qM := (yX0_powerBy, cX0_powerBy, 2, (some .int))
abbrev mX0_performAll : qM := (yX0_performAll, cX0_performAll, 5, (some .int))
abbrev mX0_perform : qM := (yX0_perform, cX0_perform, 6, (some .int))
abbrev mX0_passMinutes : qM := (yX0_passMinutes, cX0_passMinutes, 9, (some .int))
abbrev mX0_drive : qM := (yX0_drive, cX0_drive, 7, (some .int))
abbrev mX0_step : qM := (yX0_step, cX0_step, 5, (some .int))
abbrev mX0_takeImage : qM := (yX0_takeImage, cX0_takeImage, 7, (some .int))
abbrev mX0_takeTouch : qM := (yX0_takeTouch, cX0_takeTouch, 5, (some .int))
abbrev mX0_useTool : qM := (yX0_useTool, cX0_useTool, 5, (some .int))
abbrev mX0_transmit : qM := (yX0_transmit, cX0_transmit, 5, (some .int))
abbrev mX0_rest : qM := (yX0_rest, cX0_rest, 5, (some .int))
abbrev mX0_clean : qM := (yX0_clean, cX0_clean, 3, (some .int))
abbrev mX1_init : qM := (yX1_init, cX1_init, 1, none)
abbrev mX1_isPlace : qM := (yX1_isPlace, cX1_isPlace, 2, (some .boolean))
abbrev mX1_isRectangle : qM := (yX1_isRectangle, cX1_isRectangle, 4, (some .boolean))
abbrev mX1_placeOf : qM := (yX1_placeOf, cX1_placeOf, 2, (some .int))
abbrev mX1_neighbourOf : qM := (yX1_neighbourOf, cX1_neighbourOf, 4, (some .int))
abbrev mX1_distance : qM := (yX1_distance, cX1_distance, 4, (some .int))
abbrev mX1_octantOf : qM := (yX1_octantOf, cX1_octantOf, 7, (some .int))
abbrev mX1_heightAt : qM := (yX1_heightAt, cX1_heightAt, 3, (some .int))
abbrev mX1_roughAt : qM := (yX1_roughAt, cX1_roughAt, 3, (some .int))
abbrev mX1_isHazardAt : qM := (yX1_isHazardAt, cX1_isHazardAt, 3, (some .boolean))
abbrev mX1_canLift : qM := (yX1_canLift, cX1_canLift, 9, (some .boolean))
abbrev mX1_lift : qM := (yX1_lift, cX1_lift, 9, (some .int))
abbrev mX1_cover : qM := (yX1_cover, cX1_cover, 9, none)
abbrev mX1_limitSlope : qM := (yX1_limitSlope, cX1_limitSlope, 2, none)
abbrev mX1_measureSteps : qM := (yX1_measureSteps, cX1_measureSteps, 3, none)
abbrev mX1_measureStep : qM := (yX1_measureStep, cX1_measureStep, 8, (some .int))
abbrev mX1_minutesOf : qM := (yX1_minutesOf, cX1_minutesOf, 3, (some .int))
abbrev mX1_energyOf : qM := (yX1_energyOf, cX1_energyOf, 6, (some .int))
abbrev mX1_isSeen : qM := (yX1_isSeen, cX1_isSeen, 11, (some .boolean))
abbrev mX2_init : qM := (yX2_init, cX2_init, 5, none)
abbrev mX2_extend : qM := (yX2_extend, cX2_extend, 10, (some .int))
abbrev mX2_choose : qM := (yX2_choose, cX2_choose, 8, (some .int))
abbrev mX2_visit : qM := (yX2_visit, cX2_visit, 9, (some .boolean))
abbrev mX2_nearestPlace : qM := (yX2_nearestPlace, cX2_nearestPlace, 11, (some .int))
abbrev mX2_isNearer : qM := (yX2_isNearer, cX2_isNearer, 4, (some .boolean))
abbrev mX2_serves : qM := (yX2_serves, cX2_serves, 8, (some .boolean))
abbrev mX4_init : qM := (yX4_init, cX4_init, 1, none)
abbrev mX4_isFull : qM := (yX4_isFull, cX4_isFull, 1, (some .boolean))
abbrev mX4_append : qM := (yX4_append, cX4_append, 4, (some .int))
abbrev mX4_rateAt : qM := (yX4_rateAt, cX4_rateAt, 4, (some .int))
abbrev mX5_init : qM := (yX5_init, cX5_init, 1, none)
abbrev mX5_has : qM := (yX5_has, cX5_has, 2, (some .boolean))
abbrev mX5_hasRoom : qM := (yX5_hasRoom, cX5_hasRoom, 2, (some .boolean))
abbrev mX5_insert : qM := (yX5_insert, cX5_insert, 6, none)
abbrev mX5_takeOut : qM := (yX5_takeOut, cX5_takeOut, 3, none)
abbrev mX5_tell : qM := (yX5_tell, cX5_tell, 3, (some .int))
abbrev mX6_init : qM := (yX6_init, cX6_init, 1, none)
abbrev mX6_copyFrom : qM := (yX6_copyFrom, cX6_copyFrom, 3, none)
abbrev mX6_limitBattery : qM := (yX6_limitBattery, cX6_limitBattery, 2, none)
abbrev mX6_hasPiece : qM := (yX6_hasPiece, cX6_hasPiece, 2, (some .boolean))
abbrev mX6_unitsKept : qM := (yX6_unitsKept, cX6_unitsKept, 3, (some .int))
abbrev mX6_tell : qM := (yX6_tell, cX6_tell, 2, (some .int))
abbrev mX6_tellPiece : qM := (yX6_tellPiece, cX6_tellPiece, 3, (some .int))
abbrev mX6_signsSent : qM := (yX6_signsSent, cX6_signsSent, 2, (some .int))
abbrev mX6_signsOfAll : qM := (yX6_signsOfAll, cX6_signsOfAll, 4, (some .int))
abbrev mX6_isFull : qM := (yX6_isFull, cX6_isFull, 1, (some .boolean))
abbrev mX6_keep : qM := (yX6_keep, cX6_keep, 5, none)
abbrev mX6_sendUnits : qM := (yX6_sendUnits, cX6_sendUnits, 6, none)
abbrev mX6_mostUrgent : qM := (yX6_mostUrgent, cX6_mostUrgent, 3, (some .int))
abbrev mX6_finishPiece : qM := (yX6_finishPiece, cX6_finishPiece, 4, none)
abbrev mX7_init : qM := (yX7_init, cX7_init, 1, none)
abbrev mX7_isFull : qM := (yX7_isFull, cX7_isFull, 1, (some .boolean))
abbrev mX7_has : qM := (yX7_has, cX7_has, 2, (some .boolean))
abbrev mX7_append : qM := (yX7_append, cX7_append, 5, (some .int))
abbrev mX7_xOf : qM := (yX7_xOf, cX7_xOf, 2, (some .int))
abbrev mX7_yOf : qM := (yX7_yOf, cX7_yOf, 2, (some .int))
abbrev mX7_valueOf : qM := (yX7_valueOf, cX7_valueOf, 2, (some .int))
abbrev mX7_needOf : qM := (yX7_needOf, cX7_needOf, 2, (some .int))
abbrev mX7_isMet : qM := (yX7_isMet, cX7_isMet, 4, (some .boolean))
abbrev mX7_tell : qM := (yX7_tell, cX7_tell, 5, (some .int))
abbrev mX7_octantsOf : qM := (yX7_octantsOf, cX7_octantsOf, 1, (some .int))
abbrev mX7_hasTouch : qM := (yX7_hasTouch, cX7_hasTouch, 1, (some .boolean))
abbrev mX8_init : qM := (yX8_init, cX8_init, 2, none)
abbrev mX8_measureTo : qM := (yX8_measureTo, cX8_measureTo, 6, none)
abbrev mX8_measureFrom : qM := (yX8_measureFrom, cX8_measureFrom, 6, none)
abbrev mX8_begin : qM := (yX8_begin, cX8_begin, 3, none)
abbrev mX8_takeCheapest : qM := (yX8_takeCheapest, cX8_takeCheapest, 5, (some .int))
abbrev mX8_reach : qM := (yX8_reach, cX8_reach, 5, none)
abbrev mX8_costOf : qM := (yX8_costOf, cX8_costOf, 2, (some .int))
abbrev mX8_directionFrom : qM := (yX8_directionFrom, cX8_directionFrom, 5, (some .int))
abbrev mX8_sumFrom : qM := (yX8_sumFrom, cX8_sumFrom, 7, (some .int))
abbrev mX9_init : qM := (yX9_init, cX9_init, 1, none)
abbrev mX9_raise : qM := (yX9_raise, cX9_raise, 6, (some .int))
abbrev mX9_pave : qM := (yX9_pave, cX9_pave, 7, (some .int))
abbrev mX9_setSlope : qM := (yX9_setSlope, cX9_setSlope, 3, (some .int))
abbrev mX9_way : qM := (yX9_way, cX9_way, 7, (some .int))
abbrev mX9_addTarget : qM := (yX9_addTarget, cX9_addTarget, 5, (some .int))
abbrev mX9_target : qM := (yX9_target, cX9_target, 3, (some .int))
abbrev mX9_addPass : qM := (yX9_addPass, cX9_addPass, 4, (some .int))
abbrev mX9_setRover : qM := (yX9_setRover, cX9_setRover, 4, (some .int))
abbrev mX9_rover : qM := (yX9_rover, cX9_rover, 2, (some .int))
abbrev mX9_piece : qM := (yX9_piece, cX9_piece, 3, (some .int))
abbrev mX9_activity : qM := (yX9_activity, cX9_activity, 3, (some .int))
abbrev mX9_count : qM := (yX9_count, cX9_count, 2, (some .int))
abbrev mX9_check : qM := (yX9_check, cX9_check, 2, (some .int))
abbrev mX9_foretell : qM := (yX9_foretell, cX9_foretell, 3, (some .int))
abbrev mX9_run : qM := (yX9_run, cX9_run, 4, (some .int))
abbrev mX9_make : qM := (yX9_make, cX9_make, 2, (some .int))
abbrev mX9_nearest : qM := (yX9_nearest, cX9_nearest, 3, (some .int))
abbrev mX9_sent : qM := (yX9_sent, cX9_sent, 1, (some .double))
abbrev mX9_numberOf : qM := (yX9_numberOf, cX9_numberOf, 2, (some .int))
abbrev mX9_doOnCopy : qM := (yX9_doOnCopy, cX9_doOnCopy, 2, (some .int))
abbrev mX10_init : qM := (yX10_init, cX10_init, 1, none)
abbrev mX10_light : qM := (yX10_light, cX10_light, 2, (some .int))
abbrev mX10_minute : qM := (yX10_minute, cX10_minute, 6, (some .int))
abbrev mX10_minutes : qM := (yX10_minutes, cX10_minutes, 5, (some .int))
abbrev mX10_units : qM := (yX10_units, cX10_units, 6, (some .int))
abbrev mX10_images : qM := (yX10_images, cX10_images, 7, (some .int))
abbrev mX10_octant : qM := (yX10_octant, cX10_octant, 6, (some .int))
abbrev mX10_picture : qM := (yX10_picture, cX10_picture, 9, (some .int))
abbrev mX10_unit : qM := (yX10_unit, cX10_unit, 4, none)
abbrev mX10_send : qM := (yX10_send, cX10_send, 6, (some .int))
abbrev mX10_drive : qM := (yX10_drive, cX10_drive, 7, (some .int))
abbrev mX10_rest : qM := (yX10_rest, cX10_rest, 4, (some .int))
abbrev mX10_act : qM := (yX10_act, cX10_act, 5, (some .int))
abbrev mX10_told : qM := (yX10_told, cX10_told, 2, (some .int))
abbrev mX10_isSame : qM := (yX10_isSame, cX10_isSame, 5, (some .boolean))
abbrev mJ6_compare_7cf53 : qM := (yJ6_compare_7cf53, cJ6_compare_7cf53, 2, (some .int))
abbrev mJ6_bitCount_0f7a4 : qM := (yJ6_bitCount_0f7a4, cJ6_bitCount_0f7a4, 1, (some .int))
abbrev mJ9_floorDiv_7cf53 : qM := (yJ9_floorDiv_7cf53, cJ9_floorDiv_7cf53, 3, (some .int))
abbrev mJ9_floorMod_7cf53 : qM := (yJ9_floorMod_7cf53, cJ9_floorMod_7cf53, 3, (some .int))
abbrev mJ9_abs_0f7a4 : qM := (yJ9_abs_0f7a4, cJ9_abs_0f7a4, 1, (some .int))
abbrev mJ9_max_7cf53 : qM := (yJ9_max_7cf53, cJ9_max_7cf53, 2, (some .int))
abbrev mJ9_min_7cf53 : qM := (yJ9_min_7cf53, cJ9_min_7cf53, 2, (some .int))
abbrev mL_below : qM := (yL_below, cL_below, 2, (some .int))
abbrev mL_cell : qM := (yL_cell, cL_cell, 2, (some .int))
abbrev mL_ground : qM := (yL_ground, cL_ground, 14, (some (.array .int)))
abbrev mL_step : qM := (yL_step, cL_step, 7, (some .int))
abbrev mL_costs : qM := (yL_costs, cL_costs, 9, (some (.array .int)))
abbrev mL_next : qM := (yL_next, cL_next, 6, (some .int))
abbrev mL_energy : qM := (yL_energy, cL_energy, 4, (some .int))
abbrev mL_sees : qM := (yL_sees, cL_sees, 10, (some .boolean))
abbrev mL_build : qM := (yL_build, cL_build, 11, (some (.object "RoverPlannerLaw$Sim")))
abbrev mL_worth : qM := (yL_worth, cL_worth, 4, (some .int))
theorem mt_X0_init : q_mt mX0_init 4 := ⟨q_in (List.mem_of_getElem? (i := 175) (by decide +kernel)) (by decide +kernel), q_in (List.mem_of_getElem? (i := 30) (by decide +kernel)) (by decide +kernel), by decide +kernel, by decide +kernel, by decide⟩
theorem mt_X0_lightAt : q_mt mX0_lightAt 1 := ⟨q_in (List.mem_of_getElem? (i := 529) (by decide +kernel)) (by decide +kernel), q_in (List.mem_of_getElem? (i := 30) (by decide +kernel)) (by decide +kernel), by decide +kernel, by decide +kernel, by decide⟩
theorem mt_X0_airBy : q_mt mX0_airBy 1 := ⟨q_in (List.mem_of_getElem? (i := 538) (by decide +kernel)) (by decide +kernel), q_in (List.mem_of_getElem? (i := 30) (by decide +kernel)) (by decide +kernel), by decide +kernel, by decide +kernel, by decide⟩
theorem mt_X0_powerBy : q_mt mX0_powerBy 2 := ⟨q_in (List.mem_of_getElem? (i := 532) (by decide +kernel)) (by decide +kernel), q_in (List.mem_of_getElem? (i := 30) (by decide +kernel)) (by decide +kernel), by decide +kernel, by decide +kernel, by decide⟩
theorem mt_X0_performAll : q_mt mX0_performAll 3 := ⟨q_in (List.mem_of_getElem? (i := 472) (by decide +kernel)) (by decide +kernel), q_in (List.mem_of_getElem? (i := 30) (by decide +kernel)) (by decide +kernel), by decide +kernel, by decide +kernel, by decide⟩
theorem mt_X0_perform : q_mt mX0_perform 4 := ⟨q_in (List.mem_of_getElem? (i := 478) (by decide +kernel)) (by decide +kernel), q_in (List.mem_of_getElem? (i := 30) (by decide +kernel)) (by decide +kernel), by decide +kernel, by decide +kernel, by decide⟩
theorem mt_X0_passMinutes : q_mt mX0_passMinutes 4 := ⟨q_in (List.mem_of_getElem? (i := 526) (by decide +kernel)) (by decide +kernel), q_in (List.mem_of_getElem? (i := 30) (by decide +kernel)) (by decide +kernel), by decide +kernel, by decide +kernel, by decide⟩
theorem mt_X0_drive : q_mt mX0_drive 3 := ⟨q_in (List.mem_of_getElem? (i := 483) (by decide +kernel)) (by decide +kernel), q_in (List.mem_of_getElem? (i := 30) (by decide +kernel)) (by decide +kernel), by decide +kernel, by decide +kernel, by decide⟩
theorem mt_X0_step : q_mt mX0_step 2 := ⟨q_in (List.mem_of_getElem? (i := 521) (by decide +kernel)) (by decide +kernel), q_in (List.mem_of_getElem? (i := 30) (by decide +kernel)) (by decide +kernel), by decide +kernel, by decide +kernel, by decide⟩
theorem mt_X0_takeImage : q_mt mX0_takeImage 3 := ⟨q_in (List.mem_of_getElem? (i := 550) (by decide +kernel)) (by decide +kernel), q_in (List.mem_of_getElem? (i := 30) (by decide +kernel)) (by decide +kernel), by decide +kernel, by decide +kernel, by decide⟩
theorem mt_X0_takeTouch : q_mt mX0_takeTouch 3 := ⟨q_in (List.mem_of_getElem? (i := 597) (by decide +kernel)) (by decide +kernel), q_in (List.mem_of_getElem? (i := 30) (by decide +kernel)) (by decide +kernel), by decide +kernel, by decide +kernel, by decide⟩
theorem mt_X0_useTool : q_mt mX0_useTool 4 := ⟨q_in (List.mem_of_getElem? (i := 577) (by decide +kernel)) (by decide +kernel), q_in (List.mem_of_getElem? (i := 30) (by decide +kernel)) (by decide +kernel), by decide +kernel, by decide +kernel, by decide⟩
theorem mt_X0_transmit : q_mt mX0_transmit 2 := ⟨q_in (List.mem_of_getElem? (i := 601) (by decide +kernel)) (by decide +kernel), q_in (List.mem_of_getElem? (i := 30) (by decide +kernel)) (by decide +kernel), by decide +kernel, by decide +kernel, by decide⟩
theorem mt_X0_rest : q_mt mX0_rest 3 := ⟨q_in (List.mem_of_getElem? (i := 627) (by decide +kernel)) (by decide +kernel), q_in (List.mem_of_getElem? (i := 30) (by decide +kernel)) (by decide +kernel), by decide +kernel, by decide +kernel, by decide⟩
theorem mt_X0_clean : q_mt mX0_clean 1 := ⟨q_in (List.mem_of_getElem? (i := 634) (by decide +kernel)) (by decide +kernel), q_in (List.mem_of_getElem? (i := 30) (by decide +kernel)) (by decide +kernel), by decide +kernel, by decide +kernel, by decide⟩
theorem mt_X1_init : q_mt mX1_init 0 := ⟨q_in (List.mem_of_getElem? (i := 54) (by decide +kernel)) (by decide +kernel), q_in (List.mem_of_getElem? (i := 25) (by decide +kernel)) (by decide +kernel), by decide +kernel, by decide +kernel, by decide⟩
theorem mt_X1_isPlace : q_mt mX1_isPlace 2 := ⟨q_in (List.mem_of_getElem? (i := 70) (by decide +kernel)) (by decide +kernel), q_in (List.mem_of_getElem? (i := 25) (by decide +kernel)) (by decide +kernel), by decide +kernel, by decide +kernel, by decide⟩
theorem mt_X1_isRectangle : q_mt mX1_isRectangle 4 := ⟨q_in (List.mem_of_getElem? (i := 948) (by decide +kernel)) (by decide +kernel), q_in (List.mem_of_getElem? (i := 25) (by decide +kernel)) (by decide +kernel), by decide +kernel, by decide +kernel, by decide⟩
theorem mt_X1_placeOf : q_mt mX1_placeOf 2 := ⟨q_in (List.mem_of_getElem? (i := 486) (by decide +kernel)) (by decide +kernel), q_in (List.mem_of_getElem? (i := 25) (by decide +kernel)) (by decide +kernel), by decide +kernel, by decide +kernel, by decide⟩
theorem mt_X1_neighbourOf : q_mt mX1_neighbourOf 2 := ⟨q_in (List.mem_of_getElem? (i := 505) (by decide +kernel)) (by decide +kernel), q_in (List.mem_of_getElem? (i := 25) (by decide +kernel)) (by decide +kernel), by decide +kernel, by decide +kernel, by decide⟩
theorem mt_X1_distance : q_mt mX1_distance 4 := ⟨q_in (List.mem_of_getElem? (i := 565) (by decide +kernel)) (by decide +kernel), q_in (List.mem_of_getElem? (i := 25) (by decide +kernel)) (by decide +kernel), by decide +kernel, by decide +kernel, by decide⟩
theorem mt_X1_octantOf : q_mt mX1_octantOf 4 := ⟨q_in (List.mem_of_getElem? (i := 585) (by decide +kernel)) (by decide +kernel), q_in (List.mem_of_getElem? (i := 25) (by decide +kernel)) (by decide +kernel), by decide +kernel, by decide +kernel, by decide⟩
theorem mt_X1_heightAt : q_mt mX1_heightAt 2 := ⟨q_in (List.mem_of_getElem? (i := 78) (by decide +kernel)) (by decide +kernel), q_in (List.mem_of_getElem? (i := 25) (by decide +kernel)) (by decide +kernel), by decide +kernel, by decide +kernel, by decide⟩
theorem mt_X1_roughAt : q_mt mX1_roughAt 2 := ⟨q_in (List.mem_of_getElem? (i := 85) (by decide +kernel)) (by decide +kernel), q_in (List.mem_of_getElem? (i := 25) (by decide +kernel)) (by decide +kernel), by decide +kernel, by decide +kernel, by decide⟩
theorem mt_X1_isHazardAt : q_mt mX1_isHazardAt 2 := ⟨q_in (List.mem_of_getElem? (i := 74) (by decide +kernel)) (by decide +kernel), q_in (List.mem_of_getElem? (i := 25) (by decide +kernel)) (by decide +kernel), by decide +kernel, by decide +kernel, by decide⟩
theorem mt_X1_canLift : q_mt mX1_canLift 5 := ⟨q_in (List.mem_of_getElem? (i := 952) (by decide +kernel)) (by decide +kernel), q_in (List.mem_of_getElem? (i := 25) (by decide +kernel)) (by decide +kernel), by decide +kernel, by decide +kernel, by decide⟩
theorem mt_X1_lift : q_mt mX1_lift 5 := ⟨q_in (List.mem_of_getElem? (i := 957) (by decide +kernel)) (by decide +kernel), q_in (List.mem_of_getElem? (i := 25) (by decide +kernel)) (by decide +kernel), by decide +kernel, by decide +kernel, by decide⟩
theorem mt_X1_cover : q_mt mX1_cover 6 := ⟨q_in (List.mem_of_getElem? (i := 966) (by decide +kernel)) (by decide +kernel), q_in (List.mem_of_getElem? (i := 25) (by decide +kernel)) (by decide +kernel), by decide +kernel, by decide +kernel, by decide⟩
theorem mt_X1_limitSlope : q_mt mX1_limitSlope 1 := ⟨q_in (List.mem_of_getElem? (i := 975) (by decide +kernel)) (by decide +kernel), q_in (List.mem_of_getElem? (i := 25) (by decide +kernel)) (by decide +kernel), by decide +kernel, by decide +kernel, by decide⟩
theorem mt_X1_measureSteps : q_mt mX1_measureSteps 0 := ⟨q_in (List.mem_of_getElem? (i := 59) (by decide +kernel)) (by decide +kernel), q_in (List.mem_of_getElem? (i := 25) (by decide +kernel)) (by decide +kernel), by decide +kernel, by decide +kernel, by decide⟩
theorem mt_X1_measureStep : q_mt mX1_measureStep 3 := ⟨q_in (List.mem_of_getElem? (i := 63) (by decide +kernel)) (by decide +kernel), q_in (List.mem_of_getElem? (i := 25) (by decide +kernel)) (by decide +kernel), by decide +kernel, by decide +kernel, by decide⟩
theorem mt_X1_minutesOf : q_mt mX1_minutesOf 2 := ⟨q_in (List.mem_of_getElem? (i := 509) (by decide +kernel)) (by decide +kernel), q_in (List.mem_of_getElem? (i := 25) (by decide +kernel)) (by decide +kernel), by decide +kernel, by decide +kernel, by decide⟩
theorem mt_X1_energyOf : q_mt mX1_energyOf 2 := ⟨q_in (List.mem_of_getElem? (i := 543) (by decide +kernel)) (by decide +kernel), q_in (List.mem_of_getElem? (i := 25) (by decide +kernel)) (by decide +kernel), by decide +kernel, by decide +kernel, by decide⟩
theorem mt_X1_isSeen : q_mt mX1_isSeen 4 := ⟨q_in (List.mem_of_getElem? (i := 569) (by decide +kernel)) (by decide +kernel), q_in (List.mem_of_getElem? (i := 25) (by decide +kernel)) (by decide +kernel), by decide +kernel, by decide +kernel, by decide⟩
theorem mt_X2_init : q_mt mX2_init 4 := ⟨q_in (List.mem_of_getElem? (i := 275) (by decide +kernel)) (by decide +kernel), q_in (List.mem_of_getElem? (i := 32) (by decide +kernel)) (by decide +kernel), by decide +kernel, by decide +kernel, by decide⟩
theorem mt_X2_extend : q_mt mX2_extend 3 := ⟨q_in (List.mem_of_getElem? (i := 687) (by decide +kernel)) (by decide +kernel), q_in (List.mem_of_getElem? (i := 32) (by decide +kernel)) (by decide +kernel), by decide +kernel, by decide +kernel, by decide⟩
theorem mt_X2_choose : q_mt mX2_choose 2 := ⟨q_in (List.mem_of_getElem? (i := 700) (by decide +kernel)) (by decide +kernel), q_in (List.mem_of_getElem? (i := 32) (by decide +kernel)) (by decide +kernel), by decide +kernel, by decide +kernel, by decide⟩
theorem mt_X2_visit : q_mt mX2_visit 5 := ⟨q_in (List.mem_of_getElem? (i := 756) (by decide +kernel)) (by decide +kernel), q_in (List.mem_of_getElem? (i := 32) (by decide +kernel)) (by decide +kernel), by decide +kernel, by decide +kernel, by decide⟩
theorem mt_X2_nearestPlace : q_mt mX2_nearestPlace 2 := ⟨q_in (List.mem_of_getElem? (i := 704) (by decide +kernel)) (by decide +kernel), q_in (List.mem_of_getElem? (i := 32) (by decide +kernel)) (by decide +kernel), by decide +kernel, by decide +kernel, by decide⟩
theorem mt_X2_isNearer : q_mt mX2_isNearer 2 := ⟨q_in (List.mem_of_getElem? (i := 740) (by decide +kernel)) (by decide +kernel), q_in (List.mem_of_getElem? (i := 32) (by decide +kernel)) (by decide +kernel), by decide +kernel, by decide +kernel, by decide⟩
theorem mt_X2_serves : q_mt mX2_serves 4 := ⟨q_in (List.mem_of_getElem? (i := 745) (by decide +kernel)) (by decide +kernel), q_in (List.mem_of_getElem? (i := 32) (by decide +kernel)) (by decide +kernel), by decide +kernel, by decide +kernel, by decide⟩
theorem mt_X4_init : q_mt mX4_init 0 := ⟨q_in (List.mem_of_getElem? (i := 155) (by decide +kernel)) (by decide +kernel), q_in (List.mem_of_getElem? (i := 29) (by decide +kernel)) (by decide +kernel), by decide +kernel, by decide +kernel, by decide⟩
theorem mt_X4_isFull : q_mt mX4_isFull 0 := ⟨q_in (List.mem_of_getElem? (i := 1001) (by decide +kernel)) (by decide +kernel), q_in (List.mem_of_getElem? (i := 29) (by decide +kernel)) (by decide +kernel), by decide +kernel, by decide +kernel, by decide⟩
theorem mt_X4_append : q_mt mX4_append 3 := ⟨q_in (List.mem_of_getElem? (i := 1006) (by decide +kernel)) (by decide +kernel), q_in (List.mem_of_getElem? (i := 29) (by decide +kernel)) (by decide +kernel), by decide +kernel, by decide +kernel, by decide⟩
theorem mt_X4_rateAt : q_mt mX4_rateAt 1 := ⟨q_in (List.mem_of_getElem? (i := 605) (by decide +kernel)) (by decide +kernel), q_in (List.mem_of_getElem? (i := 29) (by decide +kernel)) (by decide +kernel), by decide +kernel, by decide +kernel, by decide⟩
theorem mt_X5_init : q_mt mX5_init 0 := ⟨q_in (List.mem_of_getElem? (i := 301) (by decide +kernel)) (by decide +kernel), q_in (List.mem_of_getElem? (i := 33) (by decide +kernel)) (by decide +kernel), by decide +kernel, by decide +kernel, by decide⟩
theorem mt_X5_has : q_mt mX5_has 1 := ⟨q_in (List.mem_of_getElem? (i := 442) (by decide +kernel)) (by decide +kernel), q_in (List.mem_of_getElem? (i := 33) (by decide +kernel)) (by decide +kernel), by decide +kernel, by decide +kernel, by decide⟩
theorem mt_X5_hasRoom : q_mt mX5_hasRoom 1 := ⟨q_in (List.mem_of_getElem? (i := 691) (by decide +kernel)) (by decide +kernel), q_in (List.mem_of_getElem? (i := 33) (by decide +kernel)) (by decide +kernel), by decide +kernel, by decide +kernel, by decide⟩
theorem mt_X5_insert : q_mt mX5_insert 4 := ⟨q_in (List.mem_of_getElem? (i := 762) (by decide +kernel)) (by decide +kernel), q_in (List.mem_of_getElem? (i := 33) (by decide +kernel)) (by decide +kernel), by decide +kernel, by decide +kernel, by decide⟩
theorem mt_X5_takeOut : q_mt mX5_takeOut 1 := ⟨q_in (List.mem_of_getElem? (i := 678) (by decide +kernel)) (by decide +kernel), q_in (List.mem_of_getElem? (i := 33) (by decide +kernel)) (by decide +kernel), by decide +kernel, by decide +kernel, by decide⟩
theorem mt_X5_tell : q_mt mX5_tell 2 := ⟨q_in (List.mem_of_getElem? (i := 447) (by decide +kernel)) (by decide +kernel), q_in (List.mem_of_getElem? (i := 33) (by decide +kernel)) (by decide +kernel), by decide +kernel, by decide +kernel, by decide⟩
theorem mt_X6_init : q_mt mX6_init 0 := ⟨q_in (List.mem_of_getElem? (i := 181) (by decide +kernel)) (by decide +kernel), q_in (List.mem_of_getElem? (i := 31) (by decide +kernel)) (by decide +kernel), by decide +kernel, by decide +kernel, by decide⟩
theorem mt_X6_copyFrom : q_mt mX6_copyFrom 1 := ⟨q_in (List.mem_of_getElem? (i := 468) (by decide +kernel)) (by decide +kernel), q_in (List.mem_of_getElem? (i := 31) (by decide +kernel)) (by decide +kernel), by decide +kernel, by decide +kernel, by decide⟩
theorem mt_X6_limitBattery : q_mt mX6_limitBattery 1 := ⟨q_in (List.mem_of_getElem? (i := 1018) (by decide +kernel)) (by decide +kernel), q_in (List.mem_of_getElem? (i := 31) (by decide +kernel)) (by decide +kernel), by decide +kernel, by decide +kernel, by decide⟩
theorem mt_X6_hasPiece : q_mt mX6_hasPiece 1 := ⟨q_in (List.mem_of_getElem? (i := 614) (by decide +kernel)) (by decide +kernel), q_in (List.mem_of_getElem? (i := 31) (by decide +kernel)) (by decide +kernel), by decide +kernel, by decide +kernel, by decide⟩
theorem mt_X6_unitsKept : q_mt mX6_unitsKept 0 := ⟨q_in (List.mem_of_getElem? (i := 434) (by decide +kernel)) (by decide +kernel), q_in (List.mem_of_getElem? (i := 31) (by decide +kernel)) (by decide +kernel), by decide +kernel, by decide +kernel, by decide⟩
theorem mt_X6_tell : q_mt mX6_tell 1 := ⟨q_in (List.mem_of_getElem? (i := 430) (by decide +kernel)) (by decide +kernel), q_in (List.mem_of_getElem? (i := 31) (by decide +kernel)) (by decide +kernel), by decide +kernel, by decide +kernel, by decide⟩
theorem mt_X6_tellPiece : q_mt mX6_tellPiece 2 := ⟨q_in (List.mem_of_getElem? (i := 868) (by decide +kernel)) (by decide +kernel), q_in (List.mem_of_getElem? (i := 31) (by decide +kernel)) (by decide +kernel), by decide +kernel, by decide +kernel, by decide⟩
theorem mt_X6_signsSent : q_mt mX6_signsSent 1 := ⟨q_in (List.mem_of_getElem? (i := 712) (by decide +kernel)) (by decide +kernel), q_in (List.mem_of_getElem? (i := 31) (by decide +kernel)) (by decide +kernel), by decide +kernel, by decide +kernel, by decide⟩
theorem mt_X6_signsOfAll : q_mt mX6_signsOfAll 1 := ⟨q_in (List.mem_of_getElem? (i := 708) (by decide +kernel)) (by decide +kernel), q_in (List.mem_of_getElem? (i := 31) (by decide +kernel)) (by decide +kernel), by decide +kernel, by decide +kernel, by decide⟩
theorem mt_X6_isFull : q_mt mX6_isFull 0 := ⟨q_in (List.mem_of_getElem? (i := 581) (by decide +kernel)) (by decide +kernel), q_in (List.mem_of_getElem? (i := 31) (by decide +kernel)) (by decide +kernel), by decide +kernel, by decide +kernel, by decide⟩
theorem mt_X6_keep : q_mt mX6_keep 4 := ⟨q_in (List.mem_of_getElem? (i := 592) (by decide +kernel)) (by decide +kernel), q_in (List.mem_of_getElem? (i := 31) (by decide +kernel)) (by decide +kernel), by decide +kernel, by decide +kernel, by decide⟩
theorem mt_X6_sendUnits : q_mt mX6_sendUnits 1 := ⟨q_in (List.mem_of_getElem? (i := 610) (by decide +kernel)) (by decide +kernel), q_in (List.mem_of_getElem? (i := 31) (by decide +kernel)) (by decide +kernel), by decide +kernel, by decide +kernel, by decide⟩
theorem mt_X6_mostUrgent : q_mt mX6_mostUrgent 0 := ⟨q_in (List.mem_of_getElem? (i := 618) (by decide +kernel)) (by decide +kernel), q_in (List.mem_of_getElem? (i := 31) (by decide +kernel)) (by decide +kernel), by decide +kernel, by decide +kernel, by decide⟩
theorem mt_X6_finishPiece : q_mt mX6_finishPiece 1 := ⟨q_in (List.mem_of_getElem? (i := 623) (by decide +kernel)) (by decide +kernel), q_in (List.mem_of_getElem? (i := 31) (by decide +kernel)) (by decide +kernel), by decide +kernel, by decide +kernel, by decide⟩
theorem mt_X7_init : q_mt mX7_init 0 := ⟨q_in (List.mem_of_getElem? (i := 131) (by decide +kernel)) (by decide +kernel), q_in (List.mem_of_getElem? (i := 28) (by decide +kernel)) (by decide +kernel), by decide +kernel, by decide +kernel, by decide⟩
theorem mt_X7_isFull : q_mt mX7_isFull 0 := ⟨q_in (List.mem_of_getElem? (i := 986) (by decide +kernel)) (by decide +kernel), q_in (List.mem_of_getElem? (i := 28) (by decide +kernel)) (by decide +kernel), by decide +kernel, by decide +kernel, by decide⟩
theorem mt_X7_has : q_mt mX7_has 1 := ⟨q_in (List.mem_of_getElem? (i := 558) (by decide +kernel)) (by decide +kernel), q_in (List.mem_of_getElem? (i := 28) (by decide +kernel)) (by decide +kernel), by decide +kernel, by decide +kernel, by decide⟩
theorem mt_X7_append : q_mt mX7_append 4 := ⟨q_in (List.mem_of_getElem? (i := 991) (by decide +kernel)) (by decide +kernel), q_in (List.mem_of_getElem? (i := 28) (by decide +kernel)) (by decide +kernel), by decide +kernel, by decide +kernel, by decide⟩
theorem mt_X7_xOf : q_mt mX7_xOf 1 := ⟨q_in (List.mem_of_getElem? (i := 554) (by decide +kernel)) (by decide +kernel), q_in (List.mem_of_getElem? (i := 28) (by decide +kernel)) (by decide +kernel), by decide +kernel, by decide +kernel, by decide⟩
theorem mt_X7_yOf : q_mt mX7_yOf 1 := ⟨q_in (List.mem_of_getElem? (i := 562) (by decide +kernel)) (by decide +kernel), q_in (List.mem_of_getElem? (i := 28) (by decide +kernel)) (by decide +kernel), by decide +kernel, by decide +kernel, by decide⟩
theorem mt_X7_valueOf : q_mt mX7_valueOf 1 := ⟨q_in (List.mem_of_getElem? (i := 751) (by decide +kernel)) (by decide +kernel), q_in (List.mem_of_getElem? (i := 28) (by decide +kernel)) (by decide +kernel), by decide +kernel, by decide +kernel, by decide⟩
theorem mt_X7_needOf : q_mt mX7_needOf 1 := ⟨q_in (List.mem_of_getElem? (i := 721) (by decide +kernel)) (by decide +kernel), q_in (List.mem_of_getElem? (i := 28) (by decide +kernel)) (by decide +kernel), by decide +kernel, by decide +kernel, by decide⟩
theorem mt_X7_isMet : q_mt mX7_isMet 2 := ⟨q_in (List.mem_of_getElem? (i := 717) (by decide +kernel)) (by decide +kernel), q_in (List.mem_of_getElem? (i := 28) (by decide +kernel)) (by decide +kernel), by decide +kernel, by decide +kernel, by decide⟩
theorem mt_X7_tell : q_mt mX7_tell 3 := ⟨q_in (List.mem_of_getElem? (i := 878) (by decide +kernel)) (by decide +kernel), q_in (List.mem_of_getElem? (i := 28) (by decide +kernel)) (by decide +kernel), by decide +kernel, by decide +kernel, by decide⟩
theorem mt_X7_octantsOf : q_mt mX7_octantsOf 1 := ⟨q_in (List.mem_of_getElem? (i := 727) (by decide +kernel)) (by decide +kernel), q_in (List.mem_of_getElem? (i := 28) (by decide +kernel)) (by decide +kernel), by decide +kernel, by decide +kernel, by decide⟩
theorem mt_X7_hasTouch : q_mt mX7_hasTouch 1 := ⟨q_in (List.mem_of_getElem? (i := 724) (by decide +kernel)) (by decide +kernel), q_in (List.mem_of_getElem? (i := 28) (by decide +kernel)) (by decide +kernel), by decide +kernel, by decide +kernel, by decide⟩
theorem mt_X8_init : q_mt mX8_init 1 := ⟨q_in (List.mem_of_getElem? (i := 112) (by decide +kernel)) (by decide +kernel), q_in (List.mem_of_getElem? (i := 27) (by decide +kernel)) (by decide +kernel), by decide +kernel, by decide +kernel, by decide⟩
theorem mt_X8_measureTo : q_mt mX8_measureTo 1 := ⟨q_in (List.mem_of_getElem? (i := 490) (by decide +kernel)) (by decide +kernel), q_in (List.mem_of_getElem? (i := 27) (by decide +kernel)) (by decide +kernel), by decide +kernel, by decide +kernel, by decide⟩
theorem mt_X8_measureFrom : q_mt mX8_measureFrom 1 := ⟨q_in (List.mem_of_getElem? (i := 696) (by decide +kernel)) (by decide +kernel), q_in (List.mem_of_getElem? (i := 27) (by decide +kernel)) (by decide +kernel), by decide +kernel, by decide +kernel, by decide⟩
theorem mt_X8_begin : q_mt mX8_begin 1 := ⟨q_in (List.mem_of_getElem? (i := 494) (by decide +kernel)) (by decide +kernel), q_in (List.mem_of_getElem? (i := 27) (by decide +kernel)) (by decide +kernel), by decide +kernel, by decide +kernel, by decide⟩
theorem mt_X8_takeCheapest : q_mt mX8_takeCheapest 0 := ⟨q_in (List.mem_of_getElem? (i := 498) (by decide +kernel)) (by decide +kernel), q_in (List.mem_of_getElem? (i := 27) (by decide +kernel)) (by decide +kernel), by decide +kernel, by decide +kernel, by decide⟩
theorem mt_X8_reach : q_mt mX8_reach 3 := ⟨q_in (List.mem_of_getElem? (i := 513) (by decide +kernel)) (by decide +kernel), q_in (List.mem_of_getElem? (i := 27) (by decide +kernel)) (by decide +kernel), by decide +kernel, by decide +kernel, by decide⟩
theorem mt_X8_costOf : q_mt mX8_costOf 1 := ⟨q_in (List.mem_of_getElem? (i := 502) (by decide +kernel)) (by decide +kernel), q_in (List.mem_of_getElem? (i := 27) (by decide +kernel)) (by decide +kernel), by decide +kernel, by decide +kernel, by decide⟩
theorem mt_X8_directionFrom : q_mt mX8_directionFrom 1 := ⟨q_in (List.mem_of_getElem? (i := 517) (by decide +kernel)) (by decide +kernel), q_in (List.mem_of_getElem? (i := 27) (by decide +kernel)) (by decide +kernel), by decide +kernel, by decide +kernel, by decide⟩
theorem mt_X8_sumFrom : q_mt mX8_sumFrom 2 := ⟨q_in (List.mem_of_getElem? (i := 1033) (by decide +kernel)) (by decide +kernel), q_in (List.mem_of_getElem? (i := 27) (by decide +kernel)) (by decide +kernel), by decide +kernel, by decide +kernel, by decide⟩
theorem mt_X9_init : q_mt mX9_init 0 := ⟨q_in (List.mem_of_getElem? (i := 46) (by decide +kernel)) (by decide +kernel), q_in (List.mem_of_getElem? (i := 24) (by decide +kernel)) (by decide +kernel), by decide +kernel, by decide +kernel, by decide⟩
theorem mt_X9_raise : q_mt mX9_raise 5 := ⟨q_in (List.mem_of_getElem? (i := 945) (by decide +kernel)) (by decide +kernel), q_in (List.mem_of_getElem? (i := 24) (by decide +kernel)) (by decide +kernel), by decide +kernel, by decide +kernel, by decide⟩
theorem mt_X9_pave : q_mt mX9_pave 6 := ⟨q_in (List.mem_of_getElem? (i := 961) (by decide +kernel)) (by decide +kernel), q_in (List.mem_of_getElem? (i := 24) (by decide +kernel)) (by decide +kernel), by decide +kernel, by decide +kernel, by decide⟩
theorem mt_X9_setSlope : q_mt mX9_setSlope 1 := ⟨q_in (List.mem_of_getElem? (i := 970) (by decide +kernel)) (by decide +kernel), q_in (List.mem_of_getElem? (i := 24) (by decide +kernel)) (by decide +kernel), by decide +kernel, by decide +kernel, by decide⟩
theorem mt_X9_way : q_mt mX9_way 5 := ⟨q_in (List.mem_of_getElem? (i := 1025) (by decide +kernel)) (by decide +kernel), q_in (List.mem_of_getElem? (i := 24) (by decide +kernel)) (by decide +kernel), by decide +kernel, by decide +kernel, by decide⟩
theorem mt_X9_addTarget : q_mt mX9_addTarget 4 := ⟨q_in (List.mem_of_getElem? (i := 979) (by decide +kernel)) (by decide +kernel), q_in (List.mem_of_getElem? (i := 24) (by decide +kernel)) (by decide +kernel), by decide +kernel, by decide +kernel, by decide⟩
theorem mt_X9_target : q_mt mX9_target 2 := ⟨q_in (List.mem_of_getElem? (i := 873) (by decide +kernel)) (by decide +kernel), q_in (List.mem_of_getElem? (i := 24) (by decide +kernel)) (by decide +kernel), by decide +kernel, by decide +kernel, by decide⟩
theorem mt_X9_addPass : q_mt mX9_addPass 3 := ⟨q_in (List.mem_of_getElem? (i := 996) (by decide +kernel)) (by decide +kernel), q_in (List.mem_of_getElem? (i := 24) (by decide +kernel)) (by decide +kernel), by decide +kernel, by decide +kernel, by decide⟩
theorem mt_X9_setRover : q_mt mX9_setRover 2 := ⟨q_in (List.mem_of_getElem? (i := 1011) (by decide +kernel)) (by decide +kernel), q_in (List.mem_of_getElem? (i := 24) (by decide +kernel)) (by decide +kernel), by decide +kernel, by decide +kernel, by decide⟩
theorem mt_X9_rover : q_mt mX9_rover 1 := ⟨q_in (List.mem_of_getElem? (i := 358) (by decide +kernel)) (by decide +kernel), q_in (List.mem_of_getElem? (i := 24) (by decide +kernel)) (by decide +kernel), by decide +kernel, by decide +kernel, by decide⟩
theorem mt_X9_piece : q_mt mX9_piece 2 := ⟨q_in (List.mem_of_getElem? (i := 862) (by decide +kernel)) (by decide +kernel), q_in (List.mem_of_getElem? (i := 24) (by decide +kernel)) (by decide +kernel), by decide +kernel, by decide +kernel, by decide⟩
theorem mt_X9_activity : q_mt mX9_activity 2 := ⟨q_in (List.mem_of_getElem? (i := 438) (by decide +kernel)) (by decide +kernel), q_in (List.mem_of_getElem? (i := 24) (by decide +kernel)) (by decide +kernel), by decide +kernel, by decide +kernel, by decide⟩
theorem mt_X9_count : q_mt mX9_count 1 := ⟨q_in (List.mem_of_getElem? (i := 452) (by decide +kernel)) (by decide +kernel), q_in (List.mem_of_getElem? (i := 24) (by decide +kernel)) (by decide +kernel), by decide +kernel, by decide +kernel, by decide⟩
theorem mt_X9_check : q_mt mX9_check 0 := ⟨q_in (List.mem_of_getElem? (i := 460) (by decide +kernel)) (by decide +kernel), q_in (List.mem_of_getElem? (i := 24) (by decide +kernel)) (by decide +kernel), by decide +kernel, by decide +kernel, by decide⟩
theorem mt_X9_foretell : q_mt mX9_foretell 2 := ⟨q_in (List.mem_of_getElem? (i := 638) (by decide +kernel)) (by decide +kernel), q_in (List.mem_of_getElem? (i := 24) (by decide +kernel)) (by decide +kernel), by decide +kernel, by decide +kernel, by decide⟩
theorem mt_X9_run : q_mt mX9_run 1 := ⟨q_in (List.mem_of_getElem? (i := 674) (by decide +kernel)) (by decide +kernel), q_in (List.mem_of_getElem? (i := 24) (by decide +kernel)) (by decide +kernel), by decide +kernel, by decide +kernel, by decide⟩
theorem mt_X9_make : q_mt mX9_make 1 := ⟨q_in (List.mem_of_getElem? (i := 682) (by decide +kernel)) (by decide +kernel), q_in (List.mem_of_getElem? (i := 24) (by decide +kernel)) (by decide +kernel), by decide +kernel, by decide +kernel, by decide⟩
theorem mt_X9_nearest : q_mt mX9_nearest 1 := ⟨q_in (List.mem_of_getElem? (i := 767) (by decide +kernel)) (by decide +kernel), q_in (List.mem_of_getElem? (i := 24) (by decide +kernel)) (by decide +kernel), by decide +kernel, by decide +kernel, by decide⟩
theorem mt_X9_sent : q_mt mX9_sent 0 := ⟨q_in (List.mem_of_getElem? (i := 887) (by decide +kernel)) (by decide +kernel), q_in (List.mem_of_getElem? (i := 24) (by decide +kernel)) (by decide +kernel), by decide +kernel, by decide +kernel, by decide⟩
theorem mt_X9_numberOf : q_mt mX9_numberOf 1 := ⟨q_in (List.mem_of_getElem? (i := 456) (by decide +kernel)) (by decide +kernel), q_in (List.mem_of_getElem? (i := 24) (by decide +kernel)) (by decide +kernel), by decide +kernel, by decide +kernel, by decide⟩
theorem mt_X9_doOnCopy : q_mt mX9_doOnCopy 1 := ⟨q_in (List.mem_of_getElem? (i := 464) (by decide +kernel)) (by decide +kernel), q_in (List.mem_of_getElem? (i := 24) (by decide +kernel)) (by decide +kernel), by decide +kernel, by decide +kernel, by decide⟩
theorem mt_X10_init : q_mt mX10_init 0 := ⟨q_in (List.mem_of_getElem? (i := 903) (by decide +kernel)) (by decide +kernel), q_in (List.mem_of_getElem? (i := 34) (by decide +kernel)) (by decide +kernel), by decide +kernel, by decide +kernel, by decide⟩
theorem mt_X10_light : q_mt mX10_light 0 := ⟨q_in (List.mem_of_getElem? (i := 810) (by decide +kernel)) (by decide +kernel), q_in (List.mem_of_getElem? (i := 34) (by decide +kernel)) (by decide +kernel), by decide +kernel, by decide +kernel, by decide⟩
theorem mt_X10_minute : q_mt mX10_minute 2 := ⟨q_in (List.mem_of_getElem? (i := 806) (by decide +kernel)) (by decide +kernel), q_in (List.mem_of_getElem? (i := 34) (by decide +kernel)) (by decide +kernel), by decide +kernel, by decide +kernel, by decide⟩
theorem mt_X10_minutes : q_mt mX10_minutes 2 := ⟨q_in (List.mem_of_getElem? (i := 802) (by decide +kernel)) (by decide +kernel), q_in (List.mem_of_getElem? (i := 34) (by decide +kernel)) (by decide +kernel), by decide +kernel, by decide +kernel, by decide⟩
theorem mt_X10_units : q_mt mX10_units 0 := ⟨q_in (List.mem_of_getElem? (i := 830) (by decide +kernel)) (by decide +kernel), q_in (List.mem_of_getElem? (i := 34) (by decide +kernel)) (by decide +kernel), by decide +kernel, by decide +kernel, by decide⟩
theorem mt_X10_images : q_mt mX10_images 1 := ⟨q_in (List.mem_of_getElem? (i := 776) (by decide +kernel)) (by decide +kernel), q_in (List.mem_of_getElem? (i := 34) (by decide +kernel)) (by decide +kernel), by decide +kernel, by decide +kernel, by decide⟩
theorem mt_X10_octant : q_mt mX10_octant 1 := ⟨q_in (List.mem_of_getElem? (i := 836) (by decide +kernel)) (by decide +kernel), q_in (List.mem_of_getElem? (i := 34) (by decide +kernel)) (by decide +kernel), by decide +kernel, by decide +kernel, by decide⟩
theorem mt_X10_picture : q_mt mX10_picture 3 := ⟨q_in (List.mem_of_getElem? (i := 820) (by decide +kernel)) (by decide +kernel), q_in (List.mem_of_getElem? (i := 34) (by decide +kernel)) (by decide +kernel), by decide +kernel, by decide +kernel, by decide⟩
theorem mt_X10_unit : q_mt mX10_unit 0 := ⟨q_in (List.mem_of_getElem? (i := 845) (by decide +kernel)) (by decide +kernel), q_in (List.mem_of_getElem? (i := 34) (by decide +kernel)) (by decide +kernel), by decide +kernel, by decide +kernel, by decide⟩
theorem mt_X10_send : q_mt mX10_send 1 := ⟨q_in (List.mem_of_getElem? (i := 841) (by decide +kernel)) (by decide +kernel), q_in (List.mem_of_getElem? (i := 34) (by decide +kernel)) (by decide +kernel), by decide +kernel, by decide +kernel, by decide⟩
theorem mt_X10_drive : q_mt mX10_drive 2 := ⟨q_in (List.mem_of_getElem? (i := 784) (by decide +kernel)) (by decide +kernel), q_in (List.mem_of_getElem? (i := 34) (by decide +kernel)) (by decide +kernel), by decide +kernel, by decide +kernel, by decide⟩
theorem mt_X10_rest : q_mt mX10_rest 2 := ⟨q_in (List.mem_of_getElem? (i := 849) (by decide +kernel)) (by decide +kernel), q_in (List.mem_of_getElem? (i := 34) (by decide +kernel)) (by decide +kernel), by decide +kernel, by decide +kernel, by decide⟩
theorem mt_X10_act : q_mt mX10_act 3 := ⟨q_in (List.mem_of_getElem? (i := 780) (by decide +kernel)) (by decide +kernel), q_in (List.mem_of_getElem? (i := 34) (by decide +kernel)) (by decide +kernel), by decide +kernel, by decide +kernel, by decide⟩
theorem mt_X10_told : q_mt mX10_told 1 := ⟨q_in (List.mem_of_getElem? (i := 858) (by decide +kernel)) (by decide +kernel), q_in (List.mem_of_getElem? (i := 34) (by decide +kernel)) (by decide +kernel), by decide +kernel, by decide +kernel, by decide⟩
theorem mt_X10_isSame : q_mt mX10_isSame 1 := ⟨q_in (List.mem_of_getElem? (i := 853) (by decide +kernel)) (by decide +kernel), q_in (List.mem_of_getElem? (i := 34) (by decide +kernel)) (by decide +kernel), by decide +kernel, by decide +kernel, by decide⟩
theorem mt_J6_compare_7cf53 : q_mt mJ6_compare_7cf53 2 := ⟨q_in (List.mem_of_getElem? (i := 588) (by decide +kernel)) (by decide +kernel), q_in (List.mem_of_getElem? (i := 41) (by decide +kernel)) (by decide +kernel), by decide +kernel, by decide +kernel, by decide⟩
theorem mt_J6_bitCount_0f7a4 : q_mt mJ6_bitCount_0f7a4 1 := ⟨q_in (List.mem_of_getElem? (i := 730) (by decide +kernel)) (by decide +kernel), q_in (List.mem_of_getElem? (i := 41) (by decide +kernel)) (by decide +kernel), by decide +kernel, by decide +kernel, by decide⟩
theorem mt_J9_floorDiv_7cf53 : q_mt mJ9_floorDiv_7cf53 2 := ⟨q_in (List.mem_of_getElem? (i := 573) (by decide +kernel)) (by decide +kernel), q_in (List.mem_of_getElem? (i := 26) (by decide +kernel)) (by decide +kernel), by decide +kernel, by decide +kernel, by decide⟩
theorem mt_J9_floorMod_7cf53 : q_mt mJ9_floorMod_7cf53 2 := ⟨q_in (List.mem_of_getElem? (i := 630) (by decide +kernel)) (by decide +kernel), q_in (List.mem_of_getElem? (i := 26) (by decide +kernel)) (by decide +kernel), by decide +kernel, by decide +kernel, by decide⟩
theorem mt_J9_abs_0f7a4 : q_mt mJ9_abs_0f7a4 1 := ⟨q_in (List.mem_of_getElem? (i := 81) (by decide +kernel)) (by decide +kernel), q_in (List.mem_of_getElem? (i := 26) (by decide +kernel)) (by decide +kernel), by decide +kernel, by decide +kernel, by decide⟩
theorem mt_J9_max_7cf53 : q_mt mJ9_max_7cf53 2 := ⟨q_in (List.mem_of_getElem? (i := 88) (by decide +kernel)) (by decide +kernel), q_in (List.mem_of_getElem? (i := 26) (by decide +kernel)) (by decide +kernel), by decide +kernel, by decide +kernel, by decide⟩
theorem mt_J9_min_7cf53 : q_mt mJ9_min_7cf53 2 := ⟨q_in (List.mem_of_getElem? (i := 535) (by decide +kernel)) (by decide +kernel), q_in (List.mem_of_getElem? (i := 26) (by decide +kernel)) (by decide +kernel), by decide +kernel, by decide +kernel, by decide⟩
theorem mt_L_below : q_mt mL_below 2 := ⟨q_in (List.mem_of_getElem? (i := 890) (by decide +kernel)) (by decide +kernel), q_in (List.mem_of_getElem? (i := 23) (by decide +kernel)) (by decide +kernel), by decide +kernel, by decide +kernel, by decide⟩
theorem mt_L_cell : q_mt mL_cell 2 := ⟨q_in (List.mem_of_getElem? (i := 894) (by decide +kernel)) (by decide +kernel), q_in (List.mem_of_getElem? (i := 23) (by decide +kernel)) (by decide +kernel), by decide +kernel, by decide +kernel, by decide⟩
theorem mt_L_ground : q_mt mL_ground 3 := ⟨q_in (List.mem_of_getElem? (i := 940) (by decide +kernel)) (by decide +kernel), q_in (List.mem_of_getElem? (i := 23) (by decide +kernel)) (by decide +kernel), by decide +kernel, by decide +kernel, by decide⟩
theorem mt_L_step : q_mt mL_step 4 := ⟨q_in (List.mem_of_getElem? (i := 790) (by decide +kernel)) (by decide +kernel), q_in (List.mem_of_getElem? (i := 23) (by decide +kernel)) (by decide +kernel), by decide +kernel, by decide +kernel, by decide⟩
theorem mt_L_costs : q_mt mL_costs 3 := ⟨q_in (List.mem_of_getElem? (i := 787) (by decide +kernel)) (by decide +kernel), q_in (List.mem_of_getElem? (i := 23) (by decide +kernel)) (by decide +kernel), by decide +kernel, by decide +kernel, by decide⟩
theorem mt_L_next : q_mt mL_next 4 := ⟨q_in (List.mem_of_getElem? (i := 797) (by decide +kernel)) (by decide +kernel), q_in (List.mem_of_getElem? (i := 23) (by decide +kernel)) (by decide +kernel), by decide +kernel, by decide +kernel, by decide⟩
theorem mt_L_energy : q_mt mL_energy 4 := ⟨q_in (List.mem_of_getElem? (i := 813) (by decide +kernel)) (by decide +kernel), q_in (List.mem_of_getElem? (i := 23) (by decide +kernel)) (by decide +kernel), by decide +kernel, by decide +kernel, by decide⟩
theorem mt_L_sees : q_mt mL_sees 5 := ⟨q_in (List.mem_of_getElem? (i := 825) (by decide +kernel)) (by decide +kernel), q_in (List.mem_of_getElem? (i := 23) (by decide +kernel)) (by decide +kernel), by decide +kernel, by decide +kernel, by decide⟩
theorem mt_L_build : q_mt mL_build 2 := ⟨q_in (List.mem_of_getElem? (i := 898) (by decide +kernel)) (by decide +kernel), q_in (List.mem_of_getElem? (i := 23) (by decide +kernel)) (by decide +kernel), by decide +kernel, by decide +kernel, by decide⟩
theorem mt_L_worth : q_mt mL_worth 3 := ⟨q_in (List.mem_of_getElem? (i := 1021) (by decide +kernel)) (by decide +kernel), q_in (List.mem_of_getElem? (i := 23) (by decide +kernel)) (by decide +kernel), by decide +kernel, by decide +kernel, by decide⟩
theorem cl_X0 : q_cl 0 RX0 TX0 8 := ⟨rfl, fun w hw => q_in (inX0 w hw) (List.all_eq_true.mp (show (u_ws RX0 TX0 8).all goodWord = true by decide +kernel) w hw)⟩
theorem pf_X0_0 : q_pf TX0 8 0 tyX0 true := ⟨by decide, tyX0_ok, nmX0, rfl⟩
theorem pf_X0_1 : q_pf TX0 8 1 tyX0 true := ⟨by decide, tyX0_ok, nmX0, rfl⟩
theorem pf_X0_2 : q_pf TX0 8 2 tyX0 true := ⟨by decide, tyX0_ok, nmX0, rfl⟩
theorem pf_X0_3 : q_pf TX0 8 3 tyX0 true := ⟨by decide, tyX0_ok, nmX0, rfl⟩
theorem pf_X0_4 : q_pf TX0 8 4 tyX0 true := ⟨by decide, tyX0_ok, nmX0, rfl⟩
theorem pf_X0_5 : q_pf TX0 8 5 tyX0 false := ⟨by decide, tyX0_ok, nmX0, rfl⟩
theorem pf_X0_6 : q_pf TX0 8 6 tyX0 false := ⟨by decide, tyX0_ok, nmX0, rfl⟩
theorem pf_X0_7 : q_pf TX0 8 7 tyX0 false := ⟨by decide, tyX0_ok, nmX0, rfl⟩
theorem cl_X1 : q_cl 1 RX1 TX1 5 := ⟨rfl, fun w hw => q_in (inX1 w hw) (List.all_eq_true.mp (show (u_ws RX1 TX1 5).all goodWord = true by decide +kernel) w hw)⟩
theorem pf_X1_0 : q_pf TX1 5 0 tyX1 true := ⟨by decide, tyX1_ok, nmX1, rfl⟩
theorem pf_X1_1 : q_pf TX1 5 1 tyX1 true := ⟨by decide, tyX1_ok, nmX1, rfl⟩
theorem pf_X1_2 : q_pf TX1 5 2 tyX1 true := ⟨by decide, tyX1_ok, nmX1, rfl⟩
theorem pf_X1_3 : q_pf TX1 5 3 tyX1 true := ⟨by decide, tyX1_ok, nmX1, rfl⟩
theorem pf_X1_4 : q_pf TX1 5 4 tyX1 false := ⟨by decide, tyX1_ok, nmX1, rfl⟩
theorem cl_X2 : q_cl 2 RX2 TX2 5 := ⟨rfl, fun w hw => q_in (inX2 w hw) (List.all_eq_true.mp (show (u_ws RX2 TX2 5).all goodWord = true by decide +kernel) w hw)⟩
theorem pf_X2_0 : q_pf TX2 5 0 tyX2 true := ⟨by decide, tyX2_ok, nmX2, rfl⟩
theorem pf_X2_1 : q_pf TX2 5 1 tyX2 true := ⟨by decide, tyX2_ok, nmX2, rfl⟩
theorem pf_X2_2 : q_pf TX2 5 2 tyX2 true := ⟨by decide, tyX2_ok, nmX2, rfl⟩
theorem pf_X2_3 : q_pf TX2 5 3 tyX2 true := ⟨by decide, tyX2_ok, nmX2, rfl⟩
theorem pf_X2_4 : q_pf TX2 5 4 tyX2 true := ⟨by decide, tyX2_ok, nmX2, rfl⟩
theorem cl_X4 : q_cl 4 RX4 TX4 4 := ⟨rfl, fun w hw => q_in (inX4 w hw) (List.all_eq_true.mp (show (u_ws RX4 TX4 4).all goodWord = true by decide +kernel) w hw)⟩
theorem pf_X4_0 : q_pf TX4 4 0 tyX4 true := ⟨by decide, tyX4_ok, nmX4, rfl⟩
theorem pf_X4_1 : q_pf TX4 4 1 tyX4 true := ⟨by decide, tyX4_ok, nmX4, rfl⟩
theorem pf_X4_2 : q_pf TX4 4 2 tyX4 true := ⟨by decide, tyX4_ok, nmX4, rfl⟩
theorem pf_X4_3 : q_pf TX4 4 3 tyX4 false := ⟨by decide, tyX4_ok, nmX4, rfl⟩
theorem cl_X5 : q_cl 5 RX5 TX5 4 := ⟨rfl, fun w hw => q_in (inX5 w hw) (List.all_eq_true.mp (show (u_ws RX5 TX5 4).all goodWord = true by decide +kernel) w hw)⟩
theorem pf_X5_0 : q_pf TX5 4 0 tyX5 true := ⟨by decide, tyX5_ok, nmX5, rfl⟩
theorem pf_X5_1 : q_pf TX5 4 1 tyX5 true := ⟨by decide, tyX5_ok, nmX5, rfl⟩
theorem pf_X5_2 : q_pf TX5 4 2 tyX5 true := ⟨by decide, tyX5_ok, nmX5, rfl⟩
theorem pf_X5_3 : q_pf TX5 4 3 tyX5 false := ⟨by decide, tyX5_ok, nmX5, rfl⟩
theorem cl_X6 : q_cl 6 RX6 TX6 15 := ⟨rfl, fun w hw => q_in (inX6 w hw) (List.all_eq_true.mp (show (u_ws RX6 TX6 15).all goodWord = true by decide +kernel) w hw)⟩
theorem pf_X6_0 : q_pf TX6 15 0 tyX6 false := ⟨by decide, tyX6_ok, nmX6, rfl⟩
theorem pf_X6_1 : q_pf TX6 15 1 tyX6 false := ⟨by decide, tyX6_ok, nmX6, rfl⟩
theorem pf_X6_2 : q_pf TX6 15 2 tyX6 false := ⟨by decide, tyX6_ok, nmX6, rfl⟩
theorem pf_X6_3 : q_pf TX6 15 3 tyX6 false := ⟨by decide, tyX6_ok, nmX6, rfl⟩
theorem pf_X6_4 : q_pf TX6 15 4 tyX6 false := ⟨by decide, tyX6_ok, nmX6, rfl⟩
theorem pf_X6_5 : q_pf TX6 15 5 tyX6 false := ⟨by decide, tyX6_ok, nmX6, rfl⟩
theorem pf_X6_6 : q_pf TX6 15 6 tyX6 false := ⟨by decide, tyX6_ok, nmX6, rfl⟩
theorem pf_X6_7 : q_pf TX6 15 7 tyX6 false := ⟨by decide, tyX6_ok, nmX6, rfl⟩
theorem pf_X6_8 : q_pf TX6 15 8 tyX6 false := ⟨by decide, tyX6_ok, nmX6, rfl⟩
theorem pf_X6_9 : q_pf TX6 15 9 tyX6 false := ⟨by decide, tyX6_ok, nmX6, rfl⟩
theorem pf_X6_10 : q_pf TX6 15 10 tyX6 true := ⟨by decide, tyX6_ok, nmX6, rfl⟩
theorem pf_X6_11 : q_pf TX6 15 11 tyX6 true := ⟨by decide, tyX6_ok, nmX6, rfl⟩
theorem pf_X6_12 : q_pf TX6 15 12 tyX6 true := ⟨by decide, tyX6_ok, nmX6, rfl⟩
theorem pf_X6_13 : q_pf TX6 15 13 tyX6 true := ⟨by decide, tyX6_ok, nmX6, rfl⟩
theorem pf_X6_14 : q_pf TX6 15 14 tyX6 true := ⟨by decide, tyX6_ok, nmX6, rfl⟩
theorem cl_X7 : q_cl 7 RX7 TX7 5 := ⟨rfl, fun w hw => q_in (inX7 w hw) (List.all_eq_true.mp (show (u_ws RX7 TX7 5).all goodWord = true by decide +kernel) w hw)⟩
theorem pf_X7_0 : q_pf TX7 5 0 tyX7 true := ⟨by decide, tyX7_ok, nmX7, rfl⟩
theorem pf_X7_1 : q_pf TX7 5 1 tyX7 true := ⟨by decide, tyX7_ok, nmX7, rfl⟩
theorem pf_X7_2 : q_pf TX7 5 2 tyX7 true := ⟨by decide, tyX7_ok, nmX7, rfl⟩
theorem pf_X7_3 : q_pf TX7 5 3 tyX7 true := ⟨by decide, tyX7_ok, nmX7, rfl⟩
theorem pf_X7_4 : q_pf TX7 5 4 tyX7 false := ⟨by decide, tyX7_ok, nmX7, rfl⟩
theorem cl_X8 : q_cl 8 RX8 TX8 4 := ⟨rfl, fun w hw => q_in (inX8 w hw) (List.all_eq_true.mp (show (u_ws RX8 TX8 4).all goodWord = true by decide +kernel) w hw)⟩
theorem pf_X8_0 : q_pf TX8 4 0 tyX8 true := ⟨by decide, tyX8_ok, nmX8, rfl⟩
theorem pf_X8_1 : q_pf TX8 4 1 tyX8 true := ⟨by decide, tyX8_ok, nmX8, rfl⟩
theorem pf_X8_2 : q_pf TX8 4 2 tyX8 true := ⟨by decide, tyX8_ok, nmX8, rfl⟩
theorem pf_X8_3 : q_pf TX8 4 3 tyX8 false := ⟨by decide, tyX8_ok, nmX8, rfl⟩
theorem cl_X9 : q_cl 9 RX9 TX9 11 := ⟨rfl, fun w hw => q_in (inX9 w hw) (List.all_eq_true.mp (show (u_ws RX9 TX9 11).all goodWord = true by decide +kernel) w hw)⟩
theorem pf_X9_0 : q_pf TX9 11 0 tyX9 true := ⟨by decide, tyX9_ok, nmX9, rfl⟩
theorem pf_X9_1 : q_pf TX9 11 1 tyX9 true := ⟨by decide, tyX9_ok, nmX9, rfl⟩
theorem pf_X9_2 : q_pf TX9 11 2 tyX9 true := ⟨by decide, tyX9_ok, nmX9, rfl⟩
theorem pf_X9_3 : q_pf TX9 11 3 tyX9 true := ⟨by decide, tyX9_ok, nmX9, rfl⟩
theorem pf_X9_4 : q_pf TX9 11 4 tyX9 true := ⟨by decide, tyX9_ok, nmX9, rfl⟩
theorem pf_X9_5 : q_pf TX9 11 5 tyX9 true := ⟨by decide, tyX9_ok, nmX9, rfl⟩
theorem pf_X9_6 : q_pf TX9 11 6 tyX9 true := ⟨by decide, tyX9_ok, nmX9, rfl⟩
theorem pf_X9_7 : q_pf TX9 11 7 tyX9 true := ⟨by decide, tyX9_ok, nmX9, rfl⟩
theorem pf_X9_8 : q_pf TX9 11 8 tyX9 true := ⟨by decide, tyX9_ok, nmX9, rfl⟩
theorem pf_X9_9 : q_pf TX9 11 9 tyX9 true := ⟨by decide, tyX9_ok, nmX9, rfl⟩
theorem pf_X9_10 : q_pf TX9 11 10 tyX9 false := ⟨by decide, tyX9_ok, nmX9, rfl⟩
theorem cl_X10 : q_cl 10 RX10 TX10 9 := ⟨rfl, fun w hw => q_in (inX10 w hw) (List.all_eq_true.mp (show (u_ws RX10 TX10 9).all goodWord = true by decide +kernel) w hw)⟩
theorem pf_X10_0 : q_pf TX10 9 0 tyX10 false := ⟨by decide, tyX10_ok, nmX10, rfl⟩
theorem pf_X10_1 : q_pf TX10 9 1 tyX10 false := ⟨by decide, tyX10_ok, nmX10, rfl⟩
theorem pf_X10_2 : q_pf TX10 9 2 tyX10 false := ⟨by decide, tyX10_ok, nmX10, rfl⟩
theorem pf_X10_3 : q_pf TX10 9 3 tyX10 false := ⟨by decide, tyX10_ok, nmX10, rfl⟩
theorem pf_X10_4 : q_pf TX10 9 4 tyX10 false := ⟨by decide, tyX10_ok, nmX10, rfl⟩
theorem pf_X10_5 : q_pf TX10 9 5 tyX10 false := ⟨by decide, tyX10_ok, nmX10, rfl⟩
theorem pf_X10_6 : q_pf TX10 9 6 tyX10 false := ⟨by decide, tyX10_ok, nmX10, rfl⟩
theorem pf_X10_7 : q_pf TX10 9 7 tyX10 false := ⟨by decide, tyX10_ok, nmX10, rfl⟩
theorem pf_X10_8 : q_pf TX10 9 8 tyX10 false := ⟨by decide, tyX10_ok, nmX10, rfl⟩
theorem xw_IAE : q_xw "java/lang/IllegalArgumentException" 92 := q_xw_of (by decide +kernel) (by decide +kernel) (q_in (List.mem_of_getElem? (i := 38) (by decide +kernel)) (by decide +kernel)) (by decide +kernel)
theorem xw_IOE : q_xw "java/lang/IndexOutOfBoundsException" 113 := q_xw_of (by decide +kernel) (by decide +kernel) (q_in (List.mem_of_getElem? (i := 39) (by decide +kernel)) (by decide +kernel)) (by decide +kernel)
theorem xw_ISE : q_xw "java/lang/IllegalStateException" 166 := q_xw_of (by decide +kernel) (by decide +kernel) (q_in (List.mem_of_getElem? (i := 40) (by decide +kernel)) (by decide +kernel)) (by decide +kernel)
def dfX10 : List Value := [.null, .null, .null, .null, .int 0, .int 0, .null, .null, .null]
theorem nfX10 : ∀ (g : qG) (ad : Nat → Nat) (j : Nat), j < 9 → defaultValue (tyX10 j) = vp_V (dfX10.map (q_tv g ad)) j
  | _, _, 0, _ => rfl
  | _, _, 1, _ => rfl
  | _, _, 2, _ => rfl
  | _, _, 3, _ => rfl
  | _, _, 4, _ => rfl
  | _, _, 5, _ => rfl
  | _, _, 6, _ => rfl
  | _, _, 7, _ => rfl
  | _, _, 8, _ => rfl
  | _, _, j + 9, h => absurd h (by omega)
