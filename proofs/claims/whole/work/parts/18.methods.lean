abbrev mX0_init : qM := (yX0_init, cX0_init, 5, none)
abbrev mX0_lightAt : qM := (yX0_lightAt, cX0_lightAt, 1, (some .int))
abbrev mX0_airBy : qM := (yX0_airBy, cX0_airBy, 1, (some .int))
abbrev mX0_powerBy : qM := (yX0_powerBy, cX0_powerBy, 2, (some .int))
abbrev mX0_performAll : qM := (yX0_performAll, cX0_performAll, 5, (some .int))
abbrev mX0_perform : qM := (yX0_perform, cX0_perform, 6, (some .int))
abbrev mX0_passMinutes : qM := (yX0_passMinutes, cX0_passMinutes, 9, (some .int))
abbrev mX0_drive : qM := (yX0_drive, cX0_drive, 7, (some .int))
abbrev mX0_step : qM := (yX0_step, cX0_step, 5, (some .int))
abbrev mX0_takeImage : qM := (yX0_takeImage, cX0_takeImage, 7, (some .int))
abbrev mX0_takeTouch : qM := (yX0_takeTouch, cX0_takeTouch, 5, (some .int))
abbrev mX0_useTool : qM := (yX0_useTool, cX0_useTool, 5, (some .int))
abbrev mX0_transmit : qM := (yX0_transmit, cX0_transmit, 5, (some .int))
abbrev mX0_rest : qM := (yX0_rest, cX0_rest, 5, (some .int))
abbrev mX0_clean : qM := (yX0_clean, cX0_clean, 3, (some .int))
abbrev mX1_init : qM := (yX1_init, cX1_init, 1, none)
abbrev mX1_isPlace : qM := (yX1_isPlace, cX1_isPlace, 2, (some .boolean))
abbrev mX1_isRectangle : qM := (yX1_isRectangle, cX1_isRectangle, 4, (some .boolean))
abbrev mX1_placeOf : qM := (yX1_placeOf, cX1_placeOf, 2, (some .int))
abbrev mX1_neighbourOf : qM := (yX1_neighbourOf, cX1_neighbourOf, 4, (some .int))
abbrev mX1_distance : qM := (yX1_distance, cX1_distance, 4, (some .int))
abbrev mX1_octantOf : qM := (yX1_octantOf, cX1_octantOf, 7, (some .int))
abbrev mX1_heightAt : qM := (yX1_heightAt, cX1_heightAt, 3, (some .int))
abbrev mX1_roughAt : qM := (yX1_roughAt, cX1_roughAt, 3, (some .int))
abbrev mX1_isHazardAt : qM := (yX1_isHazardAt, cX1_isHazardAt, 3, (some .boolean))
abbrev mX1_canLift : qM := (yX1_canLift, cX1_canLift, 9, (some .boolean))
abbrev mX1_lift : qM := (yX1_lift, cX1_lift, 9, (some .int))
abbrev mX1_cover : qM := (yX1_cover, cX1_cover, 9, none)
abbrev mX1_limitSlope : qM := (yX1_limitSlope, cX1_limitSlope, 2, none)
abbrev mX1_measureSteps : qM := (yX1_measureSteps, cX1_measureSteps, 3, none)
abbrev mX1_measureStep : qM := (yX1_measureStep, cX1_measureStep, 8, (some .int))
abbrev mX1_minutesOf : qM := (yX1_minutesOf, cX1_minutesOf, 3, (some .int))
abbrev mX1_energyOf : qM := (yX1_energyOf, cX1_energyOf, 6, (some .int))
abbrev mX1_isSeen : qM := (yX1_isSeen, cX1_isSeen, 11, (some .boolean))
abbrev mX2_init : qM := (yX2_init, cX2_init, 5, none)
abbrev mX2_extend : qM := (yX2_extend, cX2_extend, 10, (some .int))
abbrev mX2_choose : qM := (yX2_choose, cX2_choose, 8, (some .int))
abbrev mX2_visit : qM := (yX2_visit, cX2_visit, 9, (some .boolean))
abbrev mX2_nearestPlace : qM := (yX2_nearestPlace, cX2_nearestPlace, 11, (some .int))
abbrev mX2_isNearer : qM := (yX2_isNearer, cX2_isNearer, 4, (some .boolean))
abbrev mX2_serves : qM := (yX2_serves, cX2_serves, 8, (some .boolean))
abbrev mX3_init : qM := (yX3_init, cX3_init, 1, none)
abbrev mX4_init : qM := (yX4_init, cX4_init, 1, none)
abbrev mX4_isFull : qM := (yX4_isFull, cX4_isFull, 1, (some .boolean))
abbrev mX4_append : qM := (yX4_append, cX4_append, 4, (some .int))
abbrev mX4_rateAt : qM := (yX4_rateAt, cX4_rateAt, 4, (some .int))
abbrev mX5_init : qM := (yX5_init, cX5_init, 1, none)
abbrev mX5_has : qM := (yX5_has, cX5_has, 2, (some .boolean))
abbrev mX5_hasRoom : qM := (yX5_hasRoom, cX5_hasRoom, 2, (some .boolean))
abbrev mX5_insert : qM := (yX5_insert, cX5_insert, 6, none)
abbrev mX5_takeOut : qM := (yX5_takeOut, cX5_takeOut, 3, none)
abbrev mX5_tell : qM := (yX5_tell, cX5_tell, 3, (some .int))
abbrev mX5_copyFrom : qM := (yX5_copyFrom, cX5_copyFrom, 3, none)
abbrev mX6_init : qM := (yX6_init, cX6_init, 1, none)
abbrev mX6_copyFrom : qM := (yX6_copyFrom, cX6_copyFrom, 3, none)
abbrev mX6_limitBattery : qM := (yX6_limitBattery, cX6_limitBattery, 2, none)
abbrev mX6_hasPiece : qM := (yX6_hasPiece, cX6_hasPiece, 2, (some .boolean))
abbrev mX6_unitsKept : qM := (yX6_unitsKept, cX6_unitsKept, 3, (some .int))
abbrev mX6_tell : qM := (yX6_tell, cX6_tell, 2, (some .int))
abbrev mX6_tellPiece : qM := (yX6_tellPiece, cX6_tellPiece, 3, (some .int))
abbrev mX6_signsSent : qM := (yX6_signsSent, cX6_signsSent, 2, (some .int))
abbrev mX6_signsOfAll : qM := (yX6_signsOfAll, cX6_signsOfAll, 4, (some .int))
abbrev mX6_isFull : qM := (yX6_isFull, cX6_isFull, 1, (some .boolean))
abbrev mX6_keep : qM := (yX6_keep, cX6_keep, 5, none)
abbrev mX6_sendUnits : qM := (yX6_sendUnits, cX6_sendUnits, 6, none)
abbrev mX6_mostUrgent : qM := (yX6_mostUrgent, cX6_mostUrgent, 3, (some .int))
abbrev mX6_finishPiece : qM := (yX6_finishPiece, cX6_finishPiece, 4, none)
abbrev mX7_init : qM := (yX7_init, cX7_init, 1, none)
abbrev mX7_isFull : qM := (yX7_isFull, cX7_isFull, 1, (some .boolean))
abbrev mX7_has : qM := (yX7_has, cX7_has, 2, (some .boolean))
abbrev mX7_append : qM := (yX7_append, cX7_append, 5, (some .int))
abbrev mX7_xOf : qM := (yX7_xOf, cX7_xOf, 2, (some .int))
abbrev mX7_yOf : qM := (yX7_yOf, cX7_yOf, 2, (some .int))
abbrev mX7_valueOf : qM := (yX7_valueOf, cX7_valueOf, 2, (some .int))
abbrev mX7_needOf : qM := (yX7_needOf, cX7_needOf, 2, (some .int))
abbrev mX7_isMet : qM := (yX7_isMet, cX7_isMet, 4, (some .boolean))
abbrev mX7_tell : qM := (yX7_tell, cX7_tell, 5, (some .int))
abbrev mX7_octantsOf : qM := (yX7_octantsOf, cX7_octantsOf, 1, (some .int))
abbrev mX7_hasTouch : qM := (yX7_hasTouch, cX7_hasTouch, 1, (some .boolean))
abbrev mX8_init : qM := (yX8_init, cX8_init, 2, none)
abbrev mX8_measureTo : qM := (yX8_measureTo, cX8_measureTo, 6, none)
abbrev mX8_measureFrom : qM := (yX8_measureFrom, cX8_measureFrom, 6, none)
abbrev mX8_begin : qM := (yX8_begin, cX8_begin, 3, none)
abbrev mX8_takeCheapest : qM := (yX8_takeCheapest, cX8_takeCheapest, 5, (some .int))
abbrev mX8_reach : qM := (yX8_reach, cX8_reach, 5, none)
abbrev mX8_costOf : qM := (yX8_costOf, cX8_costOf, 2, (some .int))
abbrev mX8_directionFrom : qM := (yX8_directionFrom, cX8_directionFrom, 5, (some .int))
abbrev mX8_sumFrom : qM := (yX8_sumFrom, cX8_sumFrom, 7, (some .int))
abbrev mX9_init : qM := (yX9_init, cX9_init, 1, none)
abbrev mX9_raise : qM := (yX9_raise, cX9_raise, 6, (some .int))
abbrev mX9_pave : qM := (yX9_pave, cX9_pave, 7, (some .int))
abbrev mX9_ground : qM := (yX9_ground, cX9_ground, 4, (some .int))
abbrev mX9_setSlope : qM := (yX9_setSlope, cX9_setSlope, 3, (some .int))
abbrev mX9_way : qM := (yX9_way, cX9_way, 7, (some .int))
abbrev mX9_sees : qM := (yX9_sees, cX9_sees, 5, (some .boolean))
abbrev mX9_addTarget : qM := (yX9_addTarget, cX9_addTarget, 5, (some .int))
abbrev mX9_target : qM := (yX9_target, cX9_target, 3, (some .int))
abbrev mX9_addPass : qM := (yX9_addPass, cX9_addPass, 4, (some .int))
abbrev mX9_rate : qM := (yX9_rate, cX9_rate, 2, (some .int))
abbrev mX9_sky : qM := (yX9_sky, cX9_sky, 4, (some .int))
abbrev mX9_setRover : qM := (yX9_setRover, cX9_setRover, 4, (some .int))
abbrev mX9_rover : qM := (yX9_rover, cX9_rover, 2, (some .int))
abbrev mX9_piece : qM := (yX9_piece, cX9_piece, 3, (some .int))
abbrev mX9_score : qM := (yX9_score, cX9_score, 3, (some .int))
abbrev mX9_put : qM := (yX9_put, cX9_put, 5, (some .int))
abbrev mX9_remove : qM := (yX9_remove, cX9_remove, 3, (some .int))
abbrev mX9_move : qM := (yX9_move, cX9_move, 6, (some .int))
abbrev mX9_activity : qM := (yX9_activity, cX9_activity, 3, (some .int))
abbrev mX9_count : qM := (yX9_count, cX9_count, 2, (some .int))
abbrev mX9_check : qM := (yX9_check, cX9_check, 2, (some .int))
abbrev mX9_reason : qM := (yX9_reason, cX9_reason, 1, (some .int))
abbrev mX9_foretell : qM := (yX9_foretell, cX9_foretell, 3, (some .int))
abbrev mX9_run : qM := (yX9_run, cX9_run, 4, (some .int))
abbrev mX9_make : qM := (yX9_make, cX9_make, 2, (some .int))
abbrev mX9_nearest : qM := (yX9_nearest, cX9_nearest, 3, (some .int))
abbrev mX9_mark : qM := (yX9_mark, cX9_mark, 2, (some .int))
abbrev mX9_back : qM := (yX9_back, cX9_back, 3, (some .int))
abbrev mX9_sent : qM := (yX9_sent, cX9_sent, 1, (some .double))
abbrev mX9_digest : qM := (yX9_digest, cX9_digest, 5, (some .long))
abbrev mX9_numberOf : qM := (yX9_numberOf, cX9_numberOf, 2, (some .int))
abbrev mX9_canBe : qM := (yX9_canBe, cX9_canBe, 4, (some .boolean))
abbrev mX9_doOnCopy : qM := (yX9_doOnCopy, cX9_doOnCopy, 2, (some .int))
abbrev mX10_init : qM := (yX10_init, cX10_init, 1, none)
abbrev mX10_thrown : qM := (yX10_thrown, cX10_thrown, 1, (some .int))
abbrev mX10_fail : qM := (yX10_fail, cX10_fail, 2, (some .int))
abbrev mX10_isIn : qM := (yX10_isIn, cX10_isIn, 3, (some .boolean))
abbrev mX10_isPlace : qM := (yX10_isPlace, cX10_isPlace, 2, (some .boolean))
abbrev mX10_at : qM := (yX10_at, cX10_at, 2, (some .int))
abbrev mX10_isTarget : qM := (yX10_isTarget, cX10_isTarget, 2, (some .boolean))
abbrev mX10_isRectangle : qM := (yX10_isRectangle, cX10_isRectangle, 4, (some .boolean))
abbrev mX10_raise : qM := (yX10_raise, cX10_raise, 11, (some .int))
abbrev mX10_pave : qM := (yX10_pave, cX10_pave, 9, (some .int))
abbrev mX10_ground : qM := (yX10_ground, cX10_ground, 5, (some .int))
abbrev mX10_setSlope : qM := (yX10_setSlope, cX10_setSlope, 3, (some .int))
abbrev mX10_canStep : qM := (yX10_canStep, cX10_canStep, 6, (some .boolean))
abbrev mX10_climb : qM := (yX10_climb, cX10_climb, 4, (some .int))
abbrev mX10_minutes : qM := (yX10_minutes, cX10_minutes, 4, (some .int))
abbrev mX10_energy : qM := (yX10_energy, cX10_energy, 4, (some .int))
abbrev mX10_reckonCosts : qM := (yX10_reckonCosts, cX10_reckonCosts, 14, none)
abbrev mX10_direction : qM := (yX10_direction, cX10_direction, 4, (some .int))
abbrev mX10_way : qM := (yX10_way, cX10_way, 10, (some .int))
abbrev mX10_isSeen : qM := (yX10_isSeen, cX10_isSeen, 12, (some .boolean))
abbrev mX10_distance : qM := (yX10_distance, cX10_distance, 4, (some .int))
abbrev mX10_octant : qM := (yX10_octant, cX10_octant, 5, (some .int))
abbrev mX10_sees : qM := (yX10_sees, cX10_sees, 5, (some .boolean))
abbrev mX10_addTarget : qM := (yX10_addTarget, cX10_addTarget, 6, (some .int))
abbrev mX10_value : qM := (yX10_value, cX10_value, 2, (some .int))
abbrev mX10_need : qM := (yX10_need, cX10_need, 2, (some .int))
abbrev mX10_allOctants : qM := (yX10_allOctants, cX10_allOctants, 4, (some .int))
abbrev mX10_hasTouch : qM := (yX10_hasTouch, cX10_hasTouch, 4, (some .boolean))
abbrev mX10_isMet : qM := (yX10_isMet, cX10_isMet, 4, (some .boolean))
abbrev mX10_targetTold : qM := (yX10_targetTold, cX10_targetTold, 3, (some .int))
abbrev mX10_target : qM := (yX10_target, cX10_target, 3, (some .int))
abbrev mX10_addPass : qM := (yX10_addPass, cX10_addPass, 5, (some .int))
abbrev mX10_rateAt : qM := (yX10_rateAt, cX10_rateAt, 4, (some .int))
abbrev mX10_rate : qM := (yX10_rate, cX10_rate, 2, (some .int))
abbrev mX10_light : qM := (yX10_light, cX10_light, 1, (some .int))
abbrev mX10_air : qM := (yX10_air, cX10_air, 1, (some .int))
abbrev mX10_power : qM := (yX10_power, cX10_power, 2, (some .int))
abbrev mX10_sky : qM := (yX10_sky, cX10_sky, 3, (some .int))
abbrev mX10_units : qM := (yX10_units, cX10_units, 3, (some .int))
abbrev mX10_setRover : qM := (yX10_setRover, cX10_setRover, 4, (some .int))
abbrev mX10_roverTold : qM := (yX10_roverTold, cX10_roverTold, 2, (some .int))
abbrev mX10_rover : qM := (yX10_rover, cX10_rover, 2, (some .int))
abbrev mX10_piece : qM := (yX10_piece, cX10_piece, 3, (some .int))
abbrev mX10_scoreOf : qM := (yX10_scoreOf, cX10_scoreOf, 3, (some .int))
abbrev mX10_score : qM := (yX10_score, cX10_score, 1, (some .int))
abbrev mX10_pass : qM := (yX10_pass, cX10_pass, 6, (some .int))
abbrev mX10_passMany : qM := (yX10_passMany, cX10_passMany, 7, (some .int))
abbrev mX10_drive : qM := (yX10_drive, cX10_drive, 6, (some .int))
abbrev mX10_take : qM := (yX10_take, cX10_take, 11, (some .int))
abbrev mX10_nextPiece : qM := (yX10_nextPiece, cX10_nextPiece, 3, (some .int))
abbrev mX10_isGone : qM := (yX10_isGone, cX10_isGone, 4, none)
abbrev mX10_send : qM := (yX10_send, cX10_send, 8, (some .int))
abbrev mX10_rest : qM := (yX10_rest, cX10_rest, 5, (some .int))
abbrev mX10_clean : qM := (yX10_clean, cX10_clean, 3, (some .int))
abbrev mX10_act : qM := (yX10_act, cX10_act, 6, (some .int))
abbrev mX10_isKind : qM := (yX10_isKind, cX10_isKind, 1, (some .boolean))
abbrev mX10_isRight : qM := (yX10_isRight, cX10_isRight, 6, (some .boolean))
abbrev mX10_isPlanned : qM := (yX10_isPlanned, cX10_isPlanned, 2, (some .boolean))
abbrev mX10_insert : qM := (yX10_insert, cX10_insert, 5, none)
abbrev mX10_takeOut : qM := (yX10_takeOut, cX10_takeOut, 2, none)
abbrev mX10_put : qM := (yX10_put, cX10_put, 5, (some .int))
abbrev mX10_remove : qM := (yX10_remove, cX10_remove, 3, (some .int))
abbrev mX10_move : qM := (yX10_move, cX10_move, 6, (some .int))
abbrev mX10_activity : qM := (yX10_activity, cX10_activity, 3, (some .int))
abbrev mX10_counted : qM := (yX10_counted, cX10_counted, 2, (some .int))
abbrev mX10_count : qM := (yX10_count, cX10_count, 2, (some .int))
abbrev mX10_tryOut : qM := (yX10_tryOut, cX10_tryOut, 3, (some .int))
abbrev mX10_check : qM := (yX10_check, cX10_check, 1, (some .int))
abbrev mX10_reason : qM := (yX10_reason, cX10_reason, 2, (some .int))
abbrev mX10_foretell : qM := (yX10_foretell, cX10_foretell, 3, (some .int))
abbrev mX10_run : qM := (yX10_run, cX10_run, 3, (some .int))
abbrev mX10_serves : qM := (yX10_serves, cX10_serves, 7, (some .boolean))
abbrev mX10_nearestFor : qM := (yX10_nearestFor, cX10_nearestFor, 5, (some .int))
abbrev mX10_makeOne : qM := (yX10_makeOne, cX10_makeOne, 10, (some .boolean))
abbrev mX10_make : qM := (yX10_make, cX10_make, 6, (some .int))
abbrev mX10_nearest : qM := (yX10_nearest, cX10_nearest, 3, (some .int))
abbrev mX10_mark : qM := (yX10_mark, cX10_mark, 1, (some .int))
abbrev mX10_back : qM := (yX10_back, cX10_back, 2, (some .int))
abbrev mX10_sent : qM := (yX10_sent, cX10_sent, 1, (some .double))
abbrev mX10_digest : qM := (yX10_digest, cX10_digest, 5, (some .long))
abbrev mJ6_compare_7cf53 : qM := (yJ6_compare_7cf53, cJ6_compare_7cf53, 2, (some .int))
abbrev mJ6_bitCount_0f7a4 : qM := (yJ6_bitCount_0f7a4, cJ6_bitCount_0f7a4, 1, (some .int))
abbrev mJ6_signum_0f7a4 : qM := (yJ6_signum_0f7a4, cJ6_signum_0f7a4, 1, (some .int))
abbrev mJ9_floorDiv_7cf53 : qM := (yJ9_floorDiv_7cf53, cJ9_floorDiv_7cf53, 3, (some .int))
abbrev mJ9_floorMod_7cf53 : qM := (yJ9_floorMod_7cf53, cJ9_floorMod_7cf53, 3, (some .int))
abbrev mJ9_abs_0f7a4 : qM := (yJ9_abs_0f7a4, cJ9_abs_0f7a4, 1, (some .int))
abbrev mJ9_max_7cf53 : qM := (yJ9_max_7cf53, cJ9_max_7cf53, 2, (some .int))
abbrev mJ9_min_7cf53 : qM := (yJ9_min_7cf53, cJ9_min_7cf53, 2, (some .int))
theorem mt_X0_init : q_mt mX0_init 4 := ⟨q_in (List.mem_of_getElem? (i := 210) (by decide +kernel)) (by decide +kernel), q_in (List.mem_of_getElem? (i := 63) (by decide +kernel)) (by decide +kernel), by decide +kernel, by decide +kernel, by decide⟩
theorem mt_X0_lightAt : q_mt mX0_lightAt 1 := ⟨q_in (List.mem_of_getElem? (i := 509) (by decide +kernel)) (by decide +kernel), q_in (List.mem_of_getElem? (i := 63) (by decide +kernel)) (by decide +kernel), by decide +kernel, by decide +kernel, by decide⟩
theorem mt_X0_airBy : q_mt mX0_airBy 1 := ⟨q_in (List.mem_of_getElem? (i := 518) (by decide +kernel)) (by decide +kernel), q_in (List.mem_of_getElem? (i := 63) (by decide +kernel)) (by decide +kernel), by decide +kernel, by decide +kernel, by decide⟩
theorem mt_X0_powerBy : q_mt mX0_powerBy 2 := ⟨q_in (List.mem_of_getElem? (i := 512) (by decide +kernel)) (by decide +kernel), q_in (List.mem_of_getElem? (i := 63) (by decide +kernel)) (by decide +kernel), by decide +kernel, by decide +kernel, by decide⟩
theorem mt_X0_performAll : q_mt mX0_performAll 3 := ⟨q_in (List.mem_of_getElem? (i := 445) (by decide +kernel)) (by decide +kernel), q_in (List.mem_of_getElem? (i := 63) (by decide +kernel)) (by decide +kernel), by decide +kernel, by decide +kernel, by decide⟩
theorem mt_X0_perform : q_mt mX0_perform 4 := ⟨q_in (List.mem_of_getElem? (i := 458) (by decide +kernel)) (by decide +kernel), q_in (List.mem_of_getElem? (i := 63) (by decide +kernel)) (by decide +kernel), by decide +kernel, by decide +kernel, by decide⟩
theorem mt_X0_passMinutes : q_mt mX0_passMinutes 4 := ⟨q_in (List.mem_of_getElem? (i := 506) (by decide +kernel)) (by decide +kernel), q_in (List.mem_of_getElem? (i := 63) (by decide +kernel)) (by decide +kernel), by decide +kernel, by decide +kernel, by decide⟩
theorem mt_X0_drive : q_mt mX0_drive 3 := ⟨q_in (List.mem_of_getElem? (i := 463) (by decide +kernel)) (by decide +kernel), q_in (List.mem_of_getElem? (i := 63) (by decide +kernel)) (by decide +kernel), by decide +kernel, by decide +kernel, by decide⟩
theorem mt_X0_step : q_mt mX0_step 2 := ⟨q_in (List.mem_of_getElem? (i := 501) (by decide +kernel)) (by decide +kernel), q_in (List.mem_of_getElem? (i := 63) (by decide +kernel)) (by decide +kernel), by decide +kernel, by decide +kernel, by decide⟩
theorem mt_X0_takeImage : q_mt mX0_takeImage 3 := ⟨q_in (List.mem_of_getElem? (i := 530) (by decide +kernel)) (by decide +kernel), q_in (List.mem_of_getElem? (i := 63) (by decide +kernel)) (by decide +kernel), by decide +kernel, by decide +kernel, by decide⟩
theorem mt_X0_takeTouch : q_mt mX0_takeTouch 3 := ⟨q_in (List.mem_of_getElem? (i := 576) (by decide +kernel)) (by decide +kernel), q_in (List.mem_of_getElem? (i := 63) (by decide +kernel)) (by decide +kernel), by decide +kernel, by decide +kernel, by decide⟩
theorem mt_X0_useTool : q_mt mX0_useTool 4 := ⟨q_in (List.mem_of_getElem? (i := 553) (by decide +kernel)) (by decide +kernel), q_in (List.mem_of_getElem? (i := 63) (by decide +kernel)) (by decide +kernel), by decide +kernel, by decide +kernel, by decide⟩
theorem mt_X0_transmit : q_mt mX0_transmit 2 := ⟨q_in (List.mem_of_getElem? (i := 580) (by decide +kernel)) (by decide +kernel), q_in (List.mem_of_getElem? (i := 63) (by decide +kernel)) (by decide +kernel), by decide +kernel, by decide +kernel, by decide⟩
theorem mt_X0_rest : q_mt mX0_rest 3 := ⟨q_in (List.mem_of_getElem? (i := 606) (by decide +kernel)) (by decide +kernel), q_in (List.mem_of_getElem? (i := 63) (by decide +kernel)) (by decide +kernel), by decide +kernel, by decide +kernel, by decide⟩
theorem mt_X0_clean : q_mt mX0_clean 1 := ⟨q_in (List.mem_of_getElem? (i := 613) (by decide +kernel)) (by decide +kernel), q_in (List.mem_of_getElem? (i := 63) (by decide +kernel)) (by decide +kernel), by decide +kernel, by decide +kernel, by decide⟩
theorem mt_X1_init : q_mt mX1_init 0 := ⟨q_in (List.mem_of_getElem? (i := 89) (by decide +kernel)) (by decide +kernel), q_in (List.mem_of_getElem? (i := 58) (by decide +kernel)) (by decide +kernel), by decide +kernel, by decide +kernel, by decide⟩
theorem mt_X1_isPlace : q_mt mX1_isPlace 2 := ⟨q_in (List.mem_of_getElem? (i := 105) (by decide +kernel)) (by decide +kernel), q_in (List.mem_of_getElem? (i := 58) (by decide +kernel)) (by decide +kernel), by decide +kernel, by decide +kernel, by decide⟩
theorem mt_X1_isRectangle : q_mt mX1_isRectangle 4 := ⟨q_in (List.mem_of_getElem? (i := 665) (by decide +kernel)) (by decide +kernel), q_in (List.mem_of_getElem? (i := 58) (by decide +kernel)) (by decide +kernel), by decide +kernel, by decide +kernel, by decide⟩
theorem mt_X1_placeOf : q_mt mX1_placeOf 2 := ⟨q_in (List.mem_of_getElem? (i := 466) (by decide +kernel)) (by decide +kernel), q_in (List.mem_of_getElem? (i := 58) (by decide +kernel)) (by decide +kernel), by decide +kernel, by decide +kernel, by decide⟩
theorem mt_X1_neighbourOf : q_mt mX1_neighbourOf 2 := ⟨q_in (List.mem_of_getElem? (i := 485) (by decide +kernel)) (by decide +kernel), q_in (List.mem_of_getElem? (i := 58) (by decide +kernel)) (by decide +kernel), by decide +kernel, by decide +kernel, by decide⟩
theorem mt_X1_distance : q_mt mX1_distance 4 := ⟨q_in (List.mem_of_getElem? (i := 541) (by decide +kernel)) (by decide +kernel), q_in (List.mem_of_getElem? (i := 58) (by decide +kernel)) (by decide +kernel), by decide +kernel, by decide +kernel, by decide⟩
theorem mt_X1_octantOf : q_mt mX1_octantOf 4 := ⟨q_in (List.mem_of_getElem? (i := 564) (by decide +kernel)) (by decide +kernel), q_in (List.mem_of_getElem? (i := 58) (by decide +kernel)) (by decide +kernel), by decide +kernel, by decide +kernel, by decide⟩
theorem mt_X1_heightAt : q_mt mX1_heightAt 2 := ⟨q_in (List.mem_of_getElem? (i := 113) (by decide +kernel)) (by decide +kernel), q_in (List.mem_of_getElem? (i := 58) (by decide +kernel)) (by decide +kernel), by decide +kernel, by decide +kernel, by decide⟩
theorem mt_X1_roughAt : q_mt mX1_roughAt 2 := ⟨q_in (List.mem_of_getElem? (i := 120) (by decide +kernel)) (by decide +kernel), q_in (List.mem_of_getElem? (i := 58) (by decide +kernel)) (by decide +kernel), by decide +kernel, by decide +kernel, by decide⟩
theorem mt_X1_isHazardAt : q_mt mX1_isHazardAt 2 := ⟨q_in (List.mem_of_getElem? (i := 109) (by decide +kernel)) (by decide +kernel), q_in (List.mem_of_getElem? (i := 58) (by decide +kernel)) (by decide +kernel), by decide +kernel, by decide +kernel, by decide⟩
theorem mt_X1_canLift : q_mt mX1_canLift 5 := ⟨q_in (List.mem_of_getElem? (i := 669) (by decide +kernel)) (by decide +kernel), q_in (List.mem_of_getElem? (i := 58) (by decide +kernel)) (by decide +kernel), by decide +kernel, by decide +kernel, by decide⟩
theorem mt_X1_lift : q_mt mX1_lift 5 := ⟨q_in (List.mem_of_getElem? (i := 741) (by decide +kernel)) (by decide +kernel), q_in (List.mem_of_getElem? (i := 58) (by decide +kernel)) (by decide +kernel), by decide +kernel, by decide +kernel, by decide⟩
theorem mt_X1_cover : q_mt mX1_cover 6 := ⟨q_in (List.mem_of_getElem? (i := 753) (by decide +kernel)) (by decide +kernel), q_in (List.mem_of_getElem? (i := 58) (by decide +kernel)) (by decide +kernel), by decide +kernel, by decide +kernel, by decide⟩
theorem mt_X1_limitSlope : q_mt mX1_limitSlope 1 := ⟨q_in (List.mem_of_getElem? (i := 793) (by decide +kernel)) (by decide +kernel), q_in (List.mem_of_getElem? (i := 58) (by decide +kernel)) (by decide +kernel), by decide +kernel, by decide +kernel, by decide⟩
theorem mt_X1_measureSteps : q_mt mX1_measureSteps 0 := ⟨q_in (List.mem_of_getElem? (i := 94) (by decide +kernel)) (by decide +kernel), q_in (List.mem_of_getElem? (i := 58) (by decide +kernel)) (by decide +kernel), by decide +kernel, by decide +kernel, by decide⟩
theorem mt_X1_measureStep : q_mt mX1_measureStep 3 := ⟨q_in (List.mem_of_getElem? (i := 98) (by decide +kernel)) (by decide +kernel), q_in (List.mem_of_getElem? (i := 58) (by decide +kernel)) (by decide +kernel), by decide +kernel, by decide +kernel, by decide⟩
theorem mt_X1_minutesOf : q_mt mX1_minutesOf 2 := ⟨q_in (List.mem_of_getElem? (i := 489) (by decide +kernel)) (by decide +kernel), q_in (List.mem_of_getElem? (i := 58) (by decide +kernel)) (by decide +kernel), by decide +kernel, by decide +kernel, by decide⟩
theorem mt_X1_energyOf : q_mt mX1_energyOf 2 := ⟨q_in (List.mem_of_getElem? (i := 523) (by decide +kernel)) (by decide +kernel), q_in (List.mem_of_getElem? (i := 58) (by decide +kernel)) (by decide +kernel), by decide +kernel, by decide +kernel, by decide⟩
theorem mt_X1_isSeen : q_mt mX1_isSeen 4 := ⟨q_in (List.mem_of_getElem? (i := 545) (by decide +kernel)) (by decide +kernel), q_in (List.mem_of_getElem? (i := 58) (by decide +kernel)) (by decide +kernel), by decide +kernel, by decide +kernel, by decide⟩
theorem mt_X2_init : q_mt mX2_init 4 := ⟨q_in (List.mem_of_getElem? (i := 314) (by decide +kernel)) (by decide +kernel), q_in (List.mem_of_getElem? (i := 65) (by decide +kernel)) (by decide +kernel), by decide +kernel, by decide +kernel, by decide⟩
theorem mt_X2_extend : q_mt mX2_extend 3 := ⟨q_in (List.mem_of_getElem? (i := 1016) (by decide +kernel)) (by decide +kernel), q_in (List.mem_of_getElem? (i := 65) (by decide +kernel)) (by decide +kernel), by decide +kernel, by decide +kernel, by decide⟩
theorem mt_X2_choose : q_mt mX2_choose 2 := ⟨q_in (List.mem_of_getElem? (i := 1026) (by decide +kernel)) (by decide +kernel), q_in (List.mem_of_getElem? (i := 65) (by decide +kernel)) (by decide +kernel), by decide +kernel, by decide +kernel, by decide⟩
theorem mt_X2_visit : q_mt mX2_visit 5 := ⟨q_in (List.mem_of_getElem? (i := 1053) (by decide +kernel)) (by decide +kernel), q_in (List.mem_of_getElem? (i := 65) (by decide +kernel)) (by decide +kernel), by decide +kernel, by decide +kernel, by decide⟩
theorem mt_X2_nearestPlace : q_mt mX2_nearestPlace 2 := ⟨q_in (List.mem_of_getElem? (i := 1030) (by decide +kernel)) (by decide +kernel), q_in (List.mem_of_getElem? (i := 65) (by decide +kernel)) (by decide +kernel), by decide +kernel, by decide +kernel, by decide⟩
theorem mt_X2_isNearer : q_mt mX2_isNearer 2 := ⟨q_in (List.mem_of_getElem? (i := 1040) (by decide +kernel)) (by decide +kernel), q_in (List.mem_of_getElem? (i := 65) (by decide +kernel)) (by decide +kernel), by decide +kernel, by decide +kernel, by decide⟩
theorem mt_X2_serves : q_mt mX2_serves 4 := ⟨q_in (List.mem_of_getElem? (i := 1045) (by decide +kernel)) (by decide +kernel), q_in (List.mem_of_getElem? (i := 65) (by decide +kernel)) (by decide +kernel), by decide +kernel, by decide +kernel, by decide⟩
theorem mt_X3_init : q_mt mX3_init 0 := ⟨q_in (List.mem_of_getElem? (i := 1078) (by decide +kernel)) (by decide +kernel), q_in (List.mem_of_getElem? (i := 76) (by decide +kernel)) (by decide +kernel), by decide +kernel, by decide +kernel, by decide⟩
theorem mt_X4_init : q_mt mX4_init 0 := ⟨q_in (List.mem_of_getElem? (i := 190) (by decide +kernel)) (by decide +kernel), q_in (List.mem_of_getElem? (i := 62) (by decide +kernel)) (by decide +kernel), by decide +kernel, by decide +kernel, by decide⟩
theorem mt_X4_isFull : q_mt mX4_isFull 0 := ⟨q_in (List.mem_of_getElem? (i := 874) (by decide +kernel)) (by decide +kernel), q_in (List.mem_of_getElem? (i := 62) (by decide +kernel)) (by decide +kernel), by decide +kernel, by decide +kernel, by decide⟩
theorem mt_X4_append : q_mt mX4_append 3 := ⟨q_in (List.mem_of_getElem? (i := 879) (by decide +kernel)) (by decide +kernel), q_in (List.mem_of_getElem? (i := 62) (by decide +kernel)) (by decide +kernel), by decide +kernel, by decide +kernel, by decide⟩
theorem mt_X4_rateAt : q_mt mX4_rateAt 1 := ⟨q_in (List.mem_of_getElem? (i := 584) (by decide +kernel)) (by decide +kernel), q_in (List.mem_of_getElem? (i := 62) (by decide +kernel)) (by decide +kernel), by decide +kernel, by decide +kernel, by decide⟩
theorem mt_X5_init : q_mt mX5_init 0 := ⟨q_in (List.mem_of_getElem? (i := 340) (by decide +kernel)) (by decide +kernel), q_in (List.mem_of_getElem? (i := 66) (by decide +kernel)) (by decide +kernel), by decide +kernel, by decide +kernel, by decide⟩
theorem mt_X5_has : q_mt mX5_has 1 := ⟨q_in (List.mem_of_getElem? (i := 449) (by decide +kernel)) (by decide +kernel), q_in (List.mem_of_getElem? (i := 66) (by decide +kernel)) (by decide +kernel), by decide +kernel, by decide +kernel, by decide⟩
theorem mt_X5_hasRoom : q_mt mX5_hasRoom 1 := ⟨q_in (List.mem_of_getElem? (i := 947) (by decide +kernel)) (by decide +kernel), q_in (List.mem_of_getElem? (i := 66) (by decide +kernel)) (by decide +kernel), by decide +kernel, by decide +kernel, by decide⟩
theorem mt_X5_insert : q_mt mX5_insert 4 := ⟨q_in (List.mem_of_getElem? (i := 952) (by decide +kernel)) (by decide +kernel), q_in (List.mem_of_getElem? (i := 66) (by decide +kernel)) (by decide +kernel), by decide +kernel, by decide +kernel, by decide⟩
theorem mt_X5_takeOut : q_mt mX5_takeOut 1 := ⟨q_in (List.mem_of_getElem? (i := 965) (by decide +kernel)) (by decide +kernel), q_in (List.mem_of_getElem? (i := 66) (by decide +kernel)) (by decide +kernel), by decide +kernel, by decide +kernel, by decide⟩
theorem mt_X5_tell : q_mt mX5_tell 2 := ⟨q_in (List.mem_of_getElem? (i := 453) (by decide +kernel)) (by decide +kernel), q_in (List.mem_of_getElem? (i := 66) (by decide +kernel)) (by decide +kernel), by decide +kernel, by decide +kernel, by decide⟩
theorem mt_X5_copyFrom : q_mt mX5_copyFrom 1 := ⟨q_in (List.mem_of_getElem? (i := 1096) (by decide +kernel)) (by decide +kernel), q_in (List.mem_of_getElem? (i := 66) (by decide +kernel)) (by decide +kernel), by decide +kernel, by decide +kernel, by decide⟩
theorem mt_X6_init : q_mt mX6_init 0 := ⟨q_in (List.mem_of_getElem? (i := 216) (by decide +kernel)) (by decide +kernel), q_in (List.mem_of_getElem? (i := 64) (by decide +kernel)) (by decide +kernel), by decide +kernel, by decide +kernel, by decide⟩
theorem mt_X6_copyFrom : q_mt mX6_copyFrom 1 := ⟨q_in (List.mem_of_getElem? (i := 441) (by decide +kernel)) (by decide +kernel), q_in (List.mem_of_getElem? (i := 64) (by decide +kernel)) (by decide +kernel), by decide +kernel, by decide +kernel, by decide⟩
theorem mt_X6_limitBattery : q_mt mX6_limitBattery 1 := ⟨q_in (List.mem_of_getElem? (i := 913) (by decide +kernel)) (by decide +kernel), q_in (List.mem_of_getElem? (i := 64) (by decide +kernel)) (by decide +kernel), by decide +kernel, by decide +kernel, by decide⟩
theorem mt_X6_hasPiece : q_mt mX6_hasPiece 1 := ⟨q_in (List.mem_of_getElem? (i := 593) (by decide +kernel)) (by decide +kernel), q_in (List.mem_of_getElem? (i := 64) (by decide +kernel)) (by decide +kernel), by decide +kernel, by decide +kernel, by decide⟩
theorem mt_X6_unitsKept : q_mt mX6_unitsKept 0 := ⟨q_in (List.mem_of_getElem? (i := 561) (by decide +kernel)) (by decide +kernel), q_in (List.mem_of_getElem? (i := 64) (by decide +kernel)) (by decide +kernel), by decide +kernel, by decide +kernel, by decide⟩
theorem mt_X6_tell : q_mt mX6_tell 1 := ⟨q_in (List.mem_of_getElem? (i := 631) (by decide +kernel)) (by decide +kernel), q_in (List.mem_of_getElem? (i := 64) (by decide +kernel)) (by decide +kernel), by decide +kernel, by decide +kernel, by decide⟩
theorem mt_X6_tellPiece : q_mt mX6_tellPiece 2 := ⟨q_in (List.mem_of_getElem? (i := 636) (by decide +kernel)) (by decide +kernel), q_in (List.mem_of_getElem? (i := 64) (by decide +kernel)) (by decide +kernel), by decide +kernel, by decide +kernel, by decide⟩
theorem mt_X6_signsSent : q_mt mX6_signsSent 1 := ⟨q_in (List.mem_of_getElem? (i := 401) (by decide +kernel)) (by decide +kernel), q_in (List.mem_of_getElem? (i := 64) (by decide +kernel)) (by decide +kernel), by decide +kernel, by decide +kernel, by decide⟩
theorem mt_X6_signsOfAll : q_mt mX6_signsOfAll 1 := ⟨q_in (List.mem_of_getElem? (i := 646) (by decide +kernel)) (by decide +kernel), q_in (List.mem_of_getElem? (i := 64) (by decide +kernel)) (by decide +kernel), by decide +kernel, by decide +kernel, by decide⟩
theorem mt_X6_isFull : q_mt mX6_isFull 0 := ⟨q_in (List.mem_of_getElem? (i := 557) (by decide +kernel)) (by decide +kernel), q_in (List.mem_of_getElem? (i := 64) (by decide +kernel)) (by decide +kernel), by decide +kernel, by decide +kernel, by decide⟩
theorem mt_X6_keep : q_mt mX6_keep 4 := ⟨q_in (List.mem_of_getElem? (i := 571) (by decide +kernel)) (by decide +kernel), q_in (List.mem_of_getElem? (i := 64) (by decide +kernel)) (by decide +kernel), by decide +kernel, by decide +kernel, by decide⟩
theorem mt_X6_sendUnits : q_mt mX6_sendUnits 1 := ⟨q_in (List.mem_of_getElem? (i := 589) (by decide +kernel)) (by decide +kernel), q_in (List.mem_of_getElem? (i := 64) (by decide +kernel)) (by decide +kernel), by decide +kernel, by decide +kernel, by decide⟩
theorem mt_X6_mostUrgent : q_mt mX6_mostUrgent 0 := ⟨q_in (List.mem_of_getElem? (i := 597) (by decide +kernel)) (by decide +kernel), q_in (List.mem_of_getElem? (i := 64) (by decide +kernel)) (by decide +kernel), by decide +kernel, by decide +kernel, by decide⟩
theorem mt_X6_finishPiece : q_mt mX6_finishPiece 1 := ⟨q_in (List.mem_of_getElem? (i := 602) (by decide +kernel)) (by decide +kernel), q_in (List.mem_of_getElem? (i := 64) (by decide +kernel)) (by decide +kernel), by decide +kernel, by decide +kernel, by decide⟩
theorem mt_X7_init : q_mt mX7_init 0 := ⟨q_in (List.mem_of_getElem? (i := 166) (by decide +kernel)) (by decide +kernel), q_in (List.mem_of_getElem? (i := 61) (by decide +kernel)) (by decide +kernel), by decide +kernel, by decide +kernel, by decide⟩
theorem mt_X7_isFull : q_mt mX7_isFull 0 := ⟨q_in (List.mem_of_getElem? (i := 832) (by decide +kernel)) (by decide +kernel), q_in (List.mem_of_getElem? (i := 61) (by decide +kernel)) (by decide +kernel), by decide +kernel, by decide +kernel, by decide⟩
theorem mt_X7_has : q_mt mX7_has 1 := ⟨q_in (List.mem_of_getElem? (i := 413) (by decide +kernel)) (by decide +kernel), q_in (List.mem_of_getElem? (i := 61) (by decide +kernel)) (by decide +kernel), by decide +kernel, by decide +kernel, by decide⟩
theorem mt_X7_append : q_mt mX7_append 4 := ⟨q_in (List.mem_of_getElem? (i := 852) (by decide +kernel)) (by decide +kernel), q_in (List.mem_of_getElem? (i := 61) (by decide +kernel)) (by decide +kernel), by decide +kernel, by decide +kernel, by decide⟩
theorem mt_X7_xOf : q_mt mX7_xOf 1 := ⟨q_in (List.mem_of_getElem? (i := 534) (by decide +kernel)) (by decide +kernel), q_in (List.mem_of_getElem? (i := 61) (by decide +kernel)) (by decide +kernel), by decide +kernel, by decide +kernel, by decide⟩
theorem mt_X7_yOf : q_mt mX7_yOf 1 := ⟨q_in (List.mem_of_getElem? (i := 538) (by decide +kernel)) (by decide +kernel), q_in (List.mem_of_getElem? (i := 61) (by decide +kernel)) (by decide +kernel), by decide +kernel, by decide +kernel, by decide⟩
theorem mt_X7_valueOf : q_mt mX7_valueOf 1 := ⟨q_in (List.mem_of_getElem? (i := 429) (by decide +kernel)) (by decide +kernel), q_in (List.mem_of_getElem? (i := 61) (by decide +kernel)) (by decide +kernel), by decide +kernel, by decide +kernel, by decide⟩
theorem mt_X7_needOf : q_mt mX7_needOf 1 := ⟨q_in (List.mem_of_getElem? (i := 409) (by decide +kernel)) (by decide +kernel), q_in (List.mem_of_getElem? (i := 61) (by decide +kernel)) (by decide +kernel), by decide +kernel, by decide +kernel, by decide⟩
theorem mt_X7_isMet : q_mt mX7_isMet 2 := ⟨q_in (List.mem_of_getElem? (i := 405) (by decide +kernel)) (by decide +kernel), q_in (List.mem_of_getElem? (i := 61) (by decide +kernel)) (by decide +kernel), by decide +kernel, by decide +kernel, by decide⟩
theorem mt_X7_tell : q_mt mX7_tell 3 := ⟨q_in (List.mem_of_getElem? (i := 640) (by decide +kernel)) (by decide +kernel), q_in (List.mem_of_getElem? (i := 61) (by decide +kernel)) (by decide +kernel), by decide +kernel, by decide +kernel, by decide⟩
theorem mt_X7_octantsOf : q_mt mX7_octantsOf 1 := ⟨q_in (List.mem_of_getElem? (i := 419) (by decide +kernel)) (by decide +kernel), q_in (List.mem_of_getElem? (i := 61) (by decide +kernel)) (by decide +kernel), by decide +kernel, by decide +kernel, by decide⟩
theorem mt_X7_hasTouch : q_mt mX7_hasTouch 1 := ⟨q_in (List.mem_of_getElem? (i := 416) (by decide +kernel)) (by decide +kernel), q_in (List.mem_of_getElem? (i := 61) (by decide +kernel)) (by decide +kernel), by decide +kernel, by decide +kernel, by decide⟩
theorem mt_X8_init : q_mt mX8_init 1 := ⟨q_in (List.mem_of_getElem? (i := 147) (by decide +kernel)) (by decide +kernel), q_in (List.mem_of_getElem? (i := 60) (by decide +kernel)) (by decide +kernel), by decide +kernel, by decide +kernel, by decide⟩
theorem mt_X8_measureTo : q_mt mX8_measureTo 1 := ⟨q_in (List.mem_of_getElem? (i := 470) (by decide +kernel)) (by decide +kernel), q_in (List.mem_of_getElem? (i := 60) (by decide +kernel)) (by decide +kernel), by decide +kernel, by decide +kernel, by decide⟩
theorem mt_X8_measureFrom : q_mt mX8_measureFrom 1 := ⟨q_in (List.mem_of_getElem? (i := 1022) (by decide +kernel)) (by decide +kernel), q_in (List.mem_of_getElem? (i := 60) (by decide +kernel)) (by decide +kernel), by decide +kernel, by decide +kernel, by decide⟩
theorem mt_X8_begin : q_mt mX8_begin 1 := ⟨q_in (List.mem_of_getElem? (i := 474) (by decide +kernel)) (by decide +kernel), q_in (List.mem_of_getElem? (i := 60) (by decide +kernel)) (by decide +kernel), by decide +kernel, by decide +kernel, by decide⟩
theorem mt_X8_takeCheapest : q_mt mX8_takeCheapest 0 := ⟨q_in (List.mem_of_getElem? (i := 478) (by decide +kernel)) (by decide +kernel), q_in (List.mem_of_getElem? (i := 60) (by decide +kernel)) (by decide +kernel), by decide +kernel, by decide +kernel, by decide⟩
theorem mt_X8_reach : q_mt mX8_reach 3 := ⟨q_in (List.mem_of_getElem? (i := 493) (by decide +kernel)) (by decide +kernel), q_in (List.mem_of_getElem? (i := 60) (by decide +kernel)) (by decide +kernel), by decide +kernel, by decide +kernel, by decide⟩
theorem mt_X8_costOf : q_mt mX8_costOf 1 := ⟨q_in (List.mem_of_getElem? (i := 482) (by decide +kernel)) (by decide +kernel), q_in (List.mem_of_getElem? (i := 60) (by decide +kernel)) (by decide +kernel), by decide +kernel, by decide +kernel, by decide⟩
theorem mt_X8_directionFrom : q_mt mX8_directionFrom 1 := ⟨q_in (List.mem_of_getElem? (i := 497) (by decide +kernel)) (by decide +kernel), q_in (List.mem_of_getElem? (i := 60) (by decide +kernel)) (by decide +kernel), by decide +kernel, by decide +kernel, by decide⟩
theorem mt_X8_sumFrom : q_mt mX8_sumFrom 2 := ⟨q_in (List.mem_of_getElem? (i := 808) (by decide +kernel)) (by decide +kernel), q_in (List.mem_of_getElem? (i := 60) (by decide +kernel)) (by decide +kernel), by decide +kernel, by decide +kernel, by decide⟩
theorem mt_X9_init : q_mt mX9_init 0 := ⟨q_in (List.mem_of_getElem? (i := 81) (by decide +kernel)) (by decide +kernel), q_in (List.mem_of_getElem? (i := 57) (by decide +kernel)) (by decide +kernel), by decide +kernel, by decide +kernel, by decide⟩
theorem mt_X9_raise : q_mt mX9_raise 5 := ⟨q_in (List.mem_of_getElem? (i := 662) (by decide +kernel)) (by decide +kernel), q_in (List.mem_of_getElem? (i := 57) (by decide +kernel)) (by decide +kernel), by decide +kernel, by decide +kernel, by decide⟩
theorem mt_X9_pave : q_mt mX9_pave 6 := ⟨q_in (List.mem_of_getElem? (i := 748) (by decide +kernel)) (by decide +kernel), q_in (List.mem_of_getElem? (i := 57) (by decide +kernel)) (by decide +kernel), by decide +kernel, by decide +kernel, by decide⟩
theorem mt_X9_ground : q_mt mX9_ground 3 := ⟨q_in (List.mem_of_getElem? (i := 761) (by decide +kernel)) (by decide +kernel), q_in (List.mem_of_getElem? (i := 57) (by decide +kernel)) (by decide +kernel), by decide +kernel, by decide +kernel, by decide⟩
theorem mt_X9_setSlope : q_mt mX9_setSlope 1 := ⟨q_in (List.mem_of_getElem? (i := 788) (by decide +kernel)) (by decide +kernel), q_in (List.mem_of_getElem? (i := 57) (by decide +kernel)) (by decide +kernel), by decide +kernel, by decide +kernel, by decide⟩
theorem mt_X9_way : q_mt mX9_way 5 := ⟨q_in (List.mem_of_getElem? (i := 800) (by decide +kernel)) (by decide +kernel), q_in (List.mem_of_getElem? (i := 57) (by decide +kernel)) (by decide +kernel), by decide +kernel, by decide +kernel, by decide⟩
theorem mt_X9_sees : q_mt mX9_sees 4 := ⟨q_in (List.mem_of_getElem? (i := 817) (by decide +kernel)) (by decide +kernel), q_in (List.mem_of_getElem? (i := 57) (by decide +kernel)) (by decide +kernel), by decide +kernel, by decide +kernel, by decide⟩
theorem mt_X9_addTarget : q_mt mX9_addTarget 4 := ⟨q_in (List.mem_of_getElem? (i := 827) (by decide +kernel)) (by decide +kernel), q_in (List.mem_of_getElem? (i := 57) (by decide +kernel)) (by decide +kernel), by decide +kernel, by decide +kernel, by decide⟩
theorem mt_X9_target : q_mt mX9_target 2 := ⟨q_in (List.mem_of_getElem? (i := 860) (by decide +kernel)) (by decide +kernel), q_in (List.mem_of_getElem? (i := 57) (by decide +kernel)) (by decide +kernel), by decide +kernel, by decide +kernel, by decide⟩
theorem mt_X9_addPass : q_mt mX9_addPass 3 := ⟨q_in (List.mem_of_getElem? (i := 869) (by decide +kernel)) (by decide +kernel), q_in (List.mem_of_getElem? (i := 57) (by decide +kernel)) (by decide +kernel), by decide +kernel, by decide +kernel, by decide⟩
theorem mt_X9_rate : q_mt mX9_rate 1 := ⟨q_in (List.mem_of_getElem? (i := 887) (by decide +kernel)) (by decide +kernel), q_in (List.mem_of_getElem? (i := 57) (by decide +kernel)) (by decide +kernel), by decide +kernel, by decide +kernel, by decide⟩
theorem mt_X9_sky : q_mt mX9_sky 2 := ⟨q_in (List.mem_of_getElem? (i := 896) (by decide +kernel)) (by decide +kernel), q_in (List.mem_of_getElem? (i := 57) (by decide +kernel)) (by decide +kernel), by decide +kernel, by decide +kernel, by decide⟩
theorem mt_X9_setRover : q_mt mX9_setRover 2 := ⟨q_in (List.mem_of_getElem? (i := 906) (by decide +kernel)) (by decide +kernel), q_in (List.mem_of_getElem? (i := 57) (by decide +kernel)) (by decide +kernel), by decide +kernel, by decide +kernel, by decide⟩
theorem mt_X9_rover : q_mt mX9_rover 1 := ⟨q_in (List.mem_of_getElem? (i := 920) (by decide +kernel)) (by decide +kernel), q_in (List.mem_of_getElem? (i := 57) (by decide +kernel)) (by decide +kernel), by decide +kernel, by decide +kernel, by decide⟩
theorem mt_X9_piece : q_mt mX9_piece 2 := ⟨q_in (List.mem_of_getElem? (i := 928) (by decide +kernel)) (by decide +kernel), q_in (List.mem_of_getElem? (i := 57) (by decide +kernel)) (by decide +kernel), by decide +kernel, by decide +kernel, by decide⟩
theorem mt_X9_score : q_mt mX9_score 0 := ⟨q_in (List.mem_of_getElem? (i := 397) (by decide +kernel)) (by decide +kernel), q_in (List.mem_of_getElem? (i := 57) (by decide +kernel)) (by decide +kernel), by decide +kernel, by decide +kernel, by decide⟩
theorem mt_X9_put : q_mt mX9_put 4 := ⟨q_in (List.mem_of_getElem? (i := 937) (by decide +kernel)) (by decide +kernel), q_in (List.mem_of_getElem? (i := 57) (by decide +kernel)) (by decide +kernel), by decide +kernel, by decide +kernel, by decide⟩
theorem mt_X9_remove : q_mt mX9_remove 1 := ⟨q_in (List.mem_of_getElem? (i := 960) (by decide +kernel)) (by decide +kernel), q_in (List.mem_of_getElem? (i := 57) (by decide +kernel)) (by decide +kernel), by decide +kernel, by decide +kernel, by decide⟩
theorem mt_X9_move : q_mt mX9_move 2 := ⟨q_in (List.mem_of_getElem? (i := 972) (by decide +kernel)) (by decide +kernel), q_in (List.mem_of_getElem? (i := 57) (by decide +kernel)) (by decide +kernel), by decide +kernel, by decide +kernel, by decide⟩
theorem mt_X9_activity : q_mt mX9_activity 2 := ⟨q_in (List.mem_of_getElem? (i := 980) (by decide +kernel)) (by decide +kernel), q_in (List.mem_of_getElem? (i := 57) (by decide +kernel)) (by decide +kernel), by decide +kernel, by decide +kernel, by decide⟩
theorem mt_X9_count : q_mt mX9_count 1 := ⟨q_in (List.mem_of_getElem? (i := 988) (by decide +kernel)) (by decide +kernel), q_in (List.mem_of_getElem? (i := 57) (by decide +kernel)) (by decide +kernel), by decide +kernel, by decide +kernel, by decide⟩
theorem mt_X9_check : q_mt mX9_check 0 := ⟨q_in (List.mem_of_getElem? (i := 433) (by decide +kernel)) (by decide +kernel), q_in (List.mem_of_getElem? (i := 57) (by decide +kernel)) (by decide +kernel), by decide +kernel, by decide +kernel, by decide⟩
theorem mt_X9_reason : q_mt mX9_reason 0 := ⟨q_in (List.mem_of_getElem? (i := 617) (by decide +kernel)) (by decide +kernel), q_in (List.mem_of_getElem? (i := 57) (by decide +kernel)) (by decide +kernel), by decide +kernel, by decide +kernel, by decide⟩
theorem mt_X9_foretell : q_mt mX9_foretell 2 := ⟨q_in (List.mem_of_getElem? (i := 995) (by decide +kernel)) (by decide +kernel), q_in (List.mem_of_getElem? (i := 57) (by decide +kernel)) (by decide +kernel), by decide +kernel, by decide +kernel, by decide⟩
theorem mt_X9_run : q_mt mX9_run 1 := ⟨q_in (List.mem_of_getElem? (i := 1004) (by decide +kernel)) (by decide +kernel), q_in (List.mem_of_getElem? (i := 57) (by decide +kernel)) (by decide +kernel), by decide +kernel, by decide +kernel, by decide⟩
theorem mt_X9_make : q_mt mX9_make 1 := ⟨q_in (List.mem_of_getElem? (i := 1011) (by decide +kernel)) (by decide +kernel), q_in (List.mem_of_getElem? (i := 57) (by decide +kernel)) (by decide +kernel), by decide +kernel, by decide +kernel, by decide⟩
theorem mt_X9_nearest : q_mt mX9_nearest 1 := ⟨q_in (List.mem_of_getElem? (i := 1063) (by decide +kernel)) (by decide +kernel), q_in (List.mem_of_getElem? (i := 57) (by decide +kernel)) (by decide +kernel), by decide +kernel, by decide +kernel, by decide⟩
theorem mt_X9_mark : q_mt mX9_mark 0 := ⟨q_in (List.mem_of_getElem? (i := 1073) (by decide +kernel)) (by decide +kernel), q_in (List.mem_of_getElem? (i := 57) (by decide +kernel)) (by decide +kernel), by decide +kernel, by decide +kernel, by decide⟩
theorem mt_X9_back : q_mt mX9_back 1 := ⟨q_in (List.mem_of_getElem? (i := 1103) (by decide +kernel)) (by decide +kernel), q_in (List.mem_of_getElem? (i := 57) (by decide +kernel)) (by decide +kernel), by decide +kernel, by decide +kernel, by decide⟩
theorem mt_X9_sent : q_mt mX9_sent 0 := ⟨q_in (List.mem_of_getElem? (i := 621) (by decide +kernel)) (by decide +kernel), q_in (List.mem_of_getElem? (i := 57) (by decide +kernel)) (by decide +kernel), by decide +kernel, by decide +kernel, by decide⟩
theorem mt_X9_digest : q_mt mX9_digest 0 := ⟨q_in (List.mem_of_getElem? (i := 625) (by decide +kernel)) (by decide +kernel), q_in (List.mem_of_getElem? (i := 57) (by decide +kernel)) (by decide +kernel), by decide +kernel, by decide +kernel, by decide⟩
theorem mt_X9_numberOf : q_mt mX9_numberOf 1 := ⟨q_in (List.mem_of_getElem? (i := 653) (by decide +kernel)) (by decide +kernel), q_in (List.mem_of_getElem? (i := 57) (by decide +kernel)) (by decide +kernel), by decide +kernel, by decide +kernel, by decide⟩
theorem mt_X9_canBe : q_mt mX9_canBe 3 := ⟨q_in (List.mem_of_getElem? (i := 942) (by decide +kernel)) (by decide +kernel), q_in (List.mem_of_getElem? (i := 57) (by decide +kernel)) (by decide +kernel), by decide +kernel, by decide +kernel, by decide⟩
theorem mt_X9_doOnCopy : q_mt mX9_doOnCopy 1 := ⟨q_in (List.mem_of_getElem? (i := 437) (by decide +kernel)) (by decide +kernel), q_in (List.mem_of_getElem? (i := 57) (by decide +kernel)) (by decide +kernel), by decide +kernel, by decide +kernel, by decide⟩
theorem mt_X10_init : q_mt mX10_init 0 := ⟨q_in (List.mem_of_getElem? (i := 1109) (by decide +kernel)) (by decide +kernel), q_in (List.mem_of_getElem? (i := 67) (by decide +kernel)) (by decide +kernel), by decide +kernel, by decide +kernel, by decide⟩
theorem mt_X10_thrown : q_mt mX10_thrown 0 := ⟨q_in (List.mem_of_getElem? (i := 1192) (by decide +kernel)) (by decide +kernel), q_in (List.mem_of_getElem? (i := 67) (by decide +kernel)) (by decide +kernel), by decide +kernel, by decide +kernel, by decide⟩
theorem mt_X10_fail : q_mt mX10_fail 1 := ⟨q_in (List.mem_of_getElem? (i := 1209) (by decide +kernel)) (by decide +kernel), q_in (List.mem_of_getElem? (i := 67) (by decide +kernel)) (by decide +kernel), by decide +kernel, by decide +kernel, by decide⟩
theorem mt_X10_isIn : q_mt mX10_isIn 3 := ⟨q_in (List.mem_of_getElem? (i := 1205) (by decide +kernel)) (by decide +kernel), q_in (List.mem_of_getElem? (i := 67) (by decide +kernel)) (by decide +kernel), by decide +kernel, by decide +kernel, by decide⟩
theorem mt_X10_isPlace : q_mt mX10_isPlace 2 := ⟨q_in (List.mem_of_getElem? (i := 1202) (by decide +kernel)) (by decide +kernel), q_in (List.mem_of_getElem? (i := 67) (by decide +kernel)) (by decide +kernel), by decide +kernel, by decide +kernel, by decide⟩
theorem mt_X10_at : q_mt mX10_at 2 := ⟨q_in (List.mem_of_getElem? (i := 1212) (by decide +kernel)) (by decide +kernel), q_in (List.mem_of_getElem? (i := 67) (by decide +kernel)) (by decide +kernel), by decide +kernel, by decide +kernel, by decide⟩
theorem mt_X10_isTarget : q_mt mX10_isTarget 1 := ⟨q_in (List.mem_of_getElem? (i := 1288) (by decide +kernel)) (by decide +kernel), q_in (List.mem_of_getElem? (i := 67) (by decide +kernel)) (by decide +kernel), by decide +kernel, by decide +kernel, by decide⟩
theorem mt_X10_isRectangle : q_mt mX10_isRectangle 4 := ⟨q_in (List.mem_of_getElem? (i := 1199) (by decide +kernel)) (by decide +kernel), q_in (List.mem_of_getElem? (i := 67) (by decide +kernel)) (by decide +kernel), by decide +kernel, by decide +kernel, by decide⟩
theorem mt_X10_raise : q_mt mX10_raise 5 := ⟨q_in (List.mem_of_getElem? (i := 1196) (by decide +kernel)) (by decide +kernel), q_in (List.mem_of_getElem? (i := 67) (by decide +kernel)) (by decide +kernel), by decide +kernel, by decide +kernel, by decide⟩
theorem mt_X10_pave : q_mt mX10_pave 6 := ⟨q_in (List.mem_of_getElem? (i := 1219) (by decide +kernel)) (by decide +kernel), q_in (List.mem_of_getElem? (i := 67) (by decide +kernel)) (by decide +kernel), by decide +kernel, by decide +kernel, by decide⟩
theorem mt_X10_ground : q_mt mX10_ground 3 := ⟨q_in (List.mem_of_getElem? (i := 1223) (by decide +kernel)) (by decide +kernel), q_in (List.mem_of_getElem? (i := 67) (by decide +kernel)) (by decide +kernel), by decide +kernel, by decide +kernel, by decide⟩
theorem mt_X10_setSlope : q_mt mX10_setSlope 1 := ⟨q_in (List.mem_of_getElem? (i := 1227) (by decide +kernel)) (by decide +kernel), q_in (List.mem_of_getElem? (i := 67) (by decide +kernel)) (by decide +kernel), by decide +kernel, by decide +kernel, by decide⟩
theorem mt_X10_canStep : q_mt mX10_canStep 3 := ⟨q_in (List.mem_of_getElem? (i := 1244) (by decide +kernel)) (by decide +kernel), q_in (List.mem_of_getElem? (i := 67) (by decide +kernel)) (by decide +kernel), by decide +kernel, by decide +kernel, by decide⟩
theorem mt_X10_climb : q_mt mX10_climb 3 := ⟨q_in (List.mem_of_getElem? (i := 1253) (by decide +kernel)) (by decide +kernel), q_in (List.mem_of_getElem? (i := 67) (by decide +kernel)) (by decide +kernel), by decide +kernel, by decide +kernel, by decide⟩
theorem mt_X10_minutes : q_mt mX10_minutes 3 := ⟨q_in (List.mem_of_getElem? (i := 1249) (by decide +kernel)) (by decide +kernel), q_in (List.mem_of_getElem? (i := 67) (by decide +kernel)) (by decide +kernel), by decide +kernel, by decide +kernel, by decide⟩
theorem mt_X10_energy : q_mt mX10_energy 3 := ⟨q_in (List.mem_of_getElem? (i := 1261) (by decide +kernel)) (by decide +kernel), q_in (List.mem_of_getElem? (i := 67) (by decide +kernel)) (by decide +kernel), by decide +kernel, by decide +kernel, by decide⟩
theorem mt_X10_reckonCosts : q_mt mX10_reckonCosts 3 := ⟨q_in (List.mem_of_getElem? (i := 1235) (by decide +kernel)) (by decide +kernel), q_in (List.mem_of_getElem? (i := 67) (by decide +kernel)) (by decide +kernel), by decide +kernel, by decide +kernel, by decide⟩
theorem mt_X10_direction : q_mt mX10_direction 2 := ⟨q_in (List.mem_of_getElem? (i := 1257) (by decide +kernel)) (by decide +kernel), q_in (List.mem_of_getElem? (i := 67) (by decide +kernel)) (by decide +kernel), by decide +kernel, by decide +kernel, by decide⟩
theorem mt_X10_way : q_mt mX10_way 5 := ⟨q_in (List.mem_of_getElem? (i := 1231) (by decide +kernel)) (by decide +kernel), q_in (List.mem_of_getElem? (i := 67) (by decide +kernel)) (by decide +kernel), by decide +kernel, by decide +kernel, by decide⟩
theorem mt_X10_isSeen : q_mt mX10_isSeen 4 := ⟨q_in (List.mem_of_getElem? (i := 1269) (by decide +kernel)) (by decide +kernel), q_in (List.mem_of_getElem? (i := 67) (by decide +kernel)) (by decide +kernel), by decide +kernel, by decide +kernel, by decide⟩
theorem mt_X10_distance : q_mt mX10_distance 4 := ⟨q_in (List.mem_of_getElem? (i := 1272) (by decide +kernel)) (by decide +kernel), q_in (List.mem_of_getElem? (i := 67) (by decide +kernel)) (by decide +kernel), by decide +kernel, by decide +kernel, by decide⟩
theorem mt_X10_octant : q_mt mX10_octant 4 := ⟨q_in (List.mem_of_getElem? (i := 1437) (by decide +kernel)) (by decide +kernel), q_in (List.mem_of_getElem? (i := 67) (by decide +kernel)) (by decide +kernel), by decide +kernel, by decide +kernel, by decide⟩
theorem mt_X10_sees : q_mt mX10_sees 4 := ⟨q_in (List.mem_of_getElem? (i := 1265) (by decide +kernel)) (by decide +kernel), q_in (List.mem_of_getElem? (i := 67) (by decide +kernel)) (by decide +kernel), by decide +kernel, by decide +kernel, by decide⟩
theorem mt_X10_addTarget : q_mt mX10_addTarget 4 := ⟨q_in (List.mem_of_getElem? (i := 1277) (by decide +kernel)) (by decide +kernel), q_in (List.mem_of_getElem? (i := 67) (by decide +kernel)) (by decide +kernel), by decide +kernel, by decide +kernel, by decide⟩
theorem mt_X10_value : q_mt mX10_value 1 := ⟨q_in (List.mem_of_getElem? (i := 1296) (by decide +kernel)) (by decide +kernel), q_in (List.mem_of_getElem? (i := 67) (by decide +kernel)) (by decide +kernel), by decide +kernel, by decide +kernel, by decide⟩
theorem mt_X10_need : q_mt mX10_need 1 := ⟨q_in (List.mem_of_getElem? (i := 1300) (by decide +kernel)) (by decide +kernel), q_in (List.mem_of_getElem? (i := 67) (by decide +kernel)) (by decide +kernel), by decide +kernel, by decide +kernel, by decide⟩
theorem mt_X10_allOctants : q_mt mX10_allOctants 2 := ⟨q_in (List.mem_of_getElem? (i := 1304) (by decide +kernel)) (by decide +kernel), q_in (List.mem_of_getElem? (i := 67) (by decide +kernel)) (by decide +kernel), by decide +kernel, by decide +kernel, by decide⟩
theorem mt_X10_hasTouch : q_mt mX10_hasTouch 2 := ⟨q_in (List.mem_of_getElem? (i := 1311) (by decide +kernel)) (by decide +kernel), q_in (List.mem_of_getElem? (i := 67) (by decide +kernel)) (by decide +kernel), by decide +kernel, by decide +kernel, by decide⟩
theorem mt_X10_isMet : q_mt mX10_isMet 3 := ⟨q_in (List.mem_of_getElem? (i := 1308) (by decide +kernel)) (by decide +kernel), q_in (List.mem_of_getElem? (i := 67) (by decide +kernel)) (by decide +kernel), by decide +kernel, by decide +kernel, by decide⟩
theorem mt_X10_targetTold : q_mt mX10_targetTold 2 := ⟨q_in (List.mem_of_getElem? (i := 1292) (by decide +kernel)) (by decide +kernel), q_in (List.mem_of_getElem? (i := 67) (by decide +kernel)) (by decide +kernel), by decide +kernel, by decide +kernel, by decide⟩
theorem mt_X10_target : q_mt mX10_target 2 := ⟨q_in (List.mem_of_getElem? (i := 1284) (by decide +kernel)) (by decide +kernel), q_in (List.mem_of_getElem? (i := 67) (by decide +kernel)) (by decide +kernel), by decide +kernel, by decide +kernel, by decide⟩
theorem mt_X10_addPass : q_mt mX10_addPass 3 := ⟨q_in (List.mem_of_getElem? (i := 1315) (by decide +kernel)) (by decide +kernel), q_in (List.mem_of_getElem? (i := 67) (by decide +kernel)) (by decide +kernel), by decide +kernel, by decide +kernel, by decide⟩
theorem mt_X10_rateAt : q_mt mX10_rateAt 1 := ⟨q_in (List.mem_of_getElem? (i := 1323) (by decide +kernel)) (by decide +kernel), q_in (List.mem_of_getElem? (i := 67) (by decide +kernel)) (by decide +kernel), by decide +kernel, by decide +kernel, by decide⟩
theorem mt_X10_rate : q_mt mX10_rate 1 := ⟨q_in (List.mem_of_getElem? (i := 1319) (by decide +kernel)) (by decide +kernel), q_in (List.mem_of_getElem? (i := 67) (by decide +kernel)) (by decide +kernel), by decide +kernel, by decide +kernel, by decide⟩
theorem mt_X10_light : q_mt mX10_light 1 := ⟨q_in (List.mem_of_getElem? (i := 1333) (by decide +kernel)) (by decide +kernel), q_in (List.mem_of_getElem? (i := 67) (by decide +kernel)) (by decide +kernel), by decide +kernel, by decide +kernel, by decide⟩
theorem mt_X10_air : q_mt mX10_air 1 := ⟨q_in (List.mem_of_getElem? (i := 1330) (by decide +kernel)) (by decide +kernel), q_in (List.mem_of_getElem? (i := 67) (by decide +kernel)) (by decide +kernel), by decide +kernel, by decide +kernel, by decide⟩
theorem mt_X10_power : q_mt mX10_power 2 := ⟨q_in (List.mem_of_getElem? (i := 1336) (by decide +kernel)) (by decide +kernel), q_in (List.mem_of_getElem? (i := 67) (by decide +kernel)) (by decide +kernel), by decide +kernel, by decide +kernel, by decide⟩
theorem mt_X10_sky : q_mt mX10_sky 2 := ⟨q_in (List.mem_of_getElem? (i := 1327) (by decide +kernel)) (by decide +kernel), q_in (List.mem_of_getElem? (i := 67) (by decide +kernel)) (by decide +kernel), by decide +kernel, by decide +kernel, by decide⟩
theorem mt_X10_units : q_mt mX10_units 1 := ⟨q_in (List.mem_of_getElem? (i := 1343) (by decide +kernel)) (by decide +kernel), q_in (List.mem_of_getElem? (i := 67) (by decide +kernel)) (by decide +kernel), by decide +kernel, by decide +kernel, by decide⟩
theorem mt_X10_setRover : q_mt mX10_setRover 2 := ⟨q_in (List.mem_of_getElem? (i := 1340) (by decide +kernel)) (by decide +kernel), q_in (List.mem_of_getElem? (i := 67) (by decide +kernel)) (by decide +kernel), by decide +kernel, by decide +kernel, by decide⟩
theorem mt_X10_roverTold : q_mt mX10_roverTold 2 := ⟨q_in (List.mem_of_getElem? (i := 1351) (by decide +kernel)) (by decide +kernel), q_in (List.mem_of_getElem? (i := 67) (by decide +kernel)) (by decide +kernel), by decide +kernel, by decide +kernel, by decide⟩
theorem mt_X10_rover : q_mt mX10_rover 1 := ⟨q_in (List.mem_of_getElem? (i := 1348) (by decide +kernel)) (by decide +kernel), q_in (List.mem_of_getElem? (i := 67) (by decide +kernel)) (by decide +kernel), by decide +kernel, by decide +kernel, by decide⟩
theorem mt_X10_piece : q_mt mX10_piece 2 := ⟨q_in (List.mem_of_getElem? (i := 1355) (by decide +kernel)) (by decide +kernel), q_in (List.mem_of_getElem? (i := 67) (by decide +kernel)) (by decide +kernel), by decide +kernel, by decide +kernel, by decide⟩
theorem mt_X10_scoreOf : q_mt mX10_scoreOf 0 := ⟨q_in (List.mem_of_getElem? (i := 1363) (by decide +kernel)) (by decide +kernel), q_in (List.mem_of_getElem? (i := 67) (by decide +kernel)) (by decide +kernel), by decide +kernel, by decide +kernel, by decide⟩
theorem mt_X10_score : q_mt mX10_score 0 := ⟨q_in (List.mem_of_getElem? (i := 1359) (by decide +kernel)) (by decide +kernel), q_in (List.mem_of_getElem? (i := 67) (by decide +kernel)) (by decide +kernel), by decide +kernel, by decide +kernel, by decide⟩
theorem mt_X10_pass : q_mt mX10_pass 3 := ⟨q_in (List.mem_of_getElem? (i := 1430) (by decide +kernel)) (by decide +kernel), q_in (List.mem_of_getElem? (i := 67) (by decide +kernel)) (by decide +kernel), by decide +kernel, by decide +kernel, by decide⟩
theorem mt_X10_passMany : q_mt mX10_passMany 4 := ⟨q_in (List.mem_of_getElem? (i := 1426) (by decide +kernel)) (by decide +kernel), q_in (List.mem_of_getElem? (i := 67) (by decide +kernel)) (by decide +kernel), by decide +kernel, by decide +kernel, by decide⟩
theorem mt_X10_drive : q_mt mX10_drive 3 := ⟨q_in (List.mem_of_getElem? (i := 1422) (by decide +kernel)) (by decide +kernel), q_in (List.mem_of_getElem? (i := 67) (by decide +kernel)) (by decide +kernel), by decide +kernel, by decide +kernel, by decide⟩
theorem mt_X10_take : q_mt mX10_take 4 := ⟨q_in (List.mem_of_getElem? (i := 1434) (by decide +kernel)) (by decide +kernel), q_in (List.mem_of_getElem? (i := 67) (by decide +kernel)) (by decide +kernel), by decide +kernel, by decide +kernel, by decide⟩
theorem mt_X10_nextPiece : q_mt mX10_nextPiece 1 := ⟨q_in (List.mem_of_getElem? (i := 1447) (by decide +kernel)) (by decide +kernel), q_in (List.mem_of_getElem? (i := 67) (by decide +kernel)) (by decide +kernel), by decide +kernel, by decide +kernel, by decide⟩
theorem mt_X10_isGone : q_mt mX10_isGone 2 := ⟨q_in (List.mem_of_getElem? (i := 1450) (by decide +kernel)) (by decide +kernel), q_in (List.mem_of_getElem? (i := 67) (by decide +kernel)) (by decide +kernel), by decide +kernel, by decide +kernel, by decide⟩
theorem mt_X10_send : q_mt mX10_send 2 := ⟨q_in (List.mem_of_getElem? (i := 1444) (by decide +kernel)) (by decide +kernel), q_in (List.mem_of_getElem? (i := 67) (by decide +kernel)) (by decide +kernel), by decide +kernel, by decide +kernel, by decide⟩
theorem mt_X10_rest : q_mt mX10_rest 3 := ⟨q_in (List.mem_of_getElem? (i := 1454) (by decide +kernel)) (by decide +kernel), q_in (List.mem_of_getElem? (i := 67) (by decide +kernel)) (by decide +kernel), by decide +kernel, by decide +kernel, by decide⟩
theorem mt_X10_clean : q_mt mX10_clean 1 := ⟨q_in (List.mem_of_getElem? (i := 1458) (by decide +kernel)) (by decide +kernel), q_in (List.mem_of_getElem? (i := 67) (by decide +kernel)) (by decide +kernel), by decide +kernel, by decide +kernel, by decide⟩
theorem mt_X10_act : q_mt mX10_act 4 := ⟨q_in (List.mem_of_getElem? (i := 1418) (by decide +kernel)) (by decide +kernel), q_in (List.mem_of_getElem? (i := 67) (by decide +kernel)) (by decide +kernel), by decide +kernel, by decide +kernel, by decide⟩
theorem mt_X10_isKind : q_mt mX10_isKind 1 := ⟨q_in (List.mem_of_getElem? (i := 1370) (by decide +kernel)) (by decide +kernel), q_in (List.mem_of_getElem? (i := 67) (by decide +kernel)) (by decide +kernel), by decide +kernel, by decide +kernel, by decide⟩
theorem mt_X10_isRight : q_mt mX10_isRight 3 := ⟨q_in (List.mem_of_getElem? (i := 1374) (by decide +kernel)) (by decide +kernel), q_in (List.mem_of_getElem? (i := 67) (by decide +kernel)) (by decide +kernel), by decide +kernel, by decide +kernel, by decide⟩
theorem mt_X10_isPlanned : q_mt mX10_isPlanned 1 := ⟨q_in (List.mem_of_getElem? (i := 1386) (by decide +kernel)) (by decide +kernel), q_in (List.mem_of_getElem? (i := 67) (by decide +kernel)) (by decide +kernel), by decide +kernel, by decide +kernel, by decide⟩
theorem mt_X10_insert : q_mt mX10_insert 4 := ⟨q_in (List.mem_of_getElem? (i := 1378) (by decide +kernel)) (by decide +kernel), q_in (List.mem_of_getElem? (i := 67) (by decide +kernel)) (by decide +kernel), by decide +kernel, by decide +kernel, by decide⟩
theorem mt_X10_takeOut : q_mt mX10_takeOut 1 := ⟨q_in (List.mem_of_getElem? (i := 1390) (by decide +kernel)) (by decide +kernel), q_in (List.mem_of_getElem? (i := 67) (by decide +kernel)) (by decide +kernel), by decide +kernel, by decide +kernel, by decide⟩
theorem mt_X10_put : q_mt mX10_put 4 := ⟨q_in (List.mem_of_getElem? (i := 1367) (by decide +kernel)) (by decide +kernel), q_in (List.mem_of_getElem? (i := 67) (by decide +kernel)) (by decide +kernel), by decide +kernel, by decide +kernel, by decide⟩
theorem mt_X10_remove : q_mt mX10_remove 1 := ⟨q_in (List.mem_of_getElem? (i := 1382) (by decide +kernel)) (by decide +kernel), q_in (List.mem_of_getElem? (i := 67) (by decide +kernel)) (by decide +kernel), by decide +kernel, by decide +kernel, by decide⟩
theorem mt_X10_move : q_mt mX10_move 2 := ⟨q_in (List.mem_of_getElem? (i := 1394) (by decide +kernel)) (by decide +kernel), q_in (List.mem_of_getElem? (i := 67) (by decide +kernel)) (by decide +kernel), by decide +kernel, by decide +kernel, by decide⟩
theorem mt_X10_activity : q_mt mX10_activity 2 := ⟨q_in (List.mem_of_getElem? (i := 1398) (by decide +kernel)) (by decide +kernel), q_in (List.mem_of_getElem? (i := 67) (by decide +kernel)) (by decide +kernel), by decide +kernel, by decide +kernel, by decide⟩
theorem mt_X10_counted : q_mt mX10_counted 1 := ⟨q_in (List.mem_of_getElem? (i := 1406) (by decide +kernel)) (by decide +kernel), q_in (List.mem_of_getElem? (i := 67) (by decide +kernel)) (by decide +kernel), by decide +kernel, by decide +kernel, by decide⟩
theorem mt_X10_count : q_mt mX10_count 1 := ⟨q_in (List.mem_of_getElem? (i := 1402) (by decide +kernel)) (by decide +kernel), q_in (List.mem_of_getElem? (i := 67) (by decide +kernel)) (by decide +kernel), by decide +kernel, by decide +kernel, by decide⟩
theorem mt_X10_tryOut : q_mt mX10_tryOut 1 := ⟨q_in (List.mem_of_getElem? (i := 1414) (by decide +kernel)) (by decide +kernel), q_in (List.mem_of_getElem? (i := 67) (by decide +kernel)) (by decide +kernel), by decide +kernel, by decide +kernel, by decide⟩
theorem mt_X10_check : q_mt mX10_check 0 := ⟨q_in (List.mem_of_getElem? (i := 1410) (by decide +kernel)) (by decide +kernel), q_in (List.mem_of_getElem? (i := 67) (by decide +kernel)) (by decide +kernel), by decide +kernel, by decide +kernel, by decide⟩
theorem mt_X10_reason : q_mt mX10_reason 0 := ⟨q_in (List.mem_of_getElem? (i := 1462) (by decide +kernel)) (by decide +kernel), q_in (List.mem_of_getElem? (i := 67) (by decide +kernel)) (by decide +kernel), by decide +kernel, by decide +kernel, by decide⟩
theorem mt_X10_foretell : q_mt mX10_foretell 2 := ⟨q_in (List.mem_of_getElem? (i := 1466) (by decide +kernel)) (by decide +kernel), q_in (List.mem_of_getElem? (i := 67) (by decide +kernel)) (by decide +kernel), by decide +kernel, by decide +kernel, by decide⟩
theorem mt_X10_run : q_mt mX10_run 1 := ⟨q_in (List.mem_of_getElem? (i := 1470) (by decide +kernel)) (by decide +kernel), q_in (List.mem_of_getElem? (i := 67) (by decide +kernel)) (by decide +kernel), by decide +kernel, by decide +kernel, by decide⟩
theorem mt_X10_serves : q_mt mX10_serves 4 := ⟨q_in (List.mem_of_getElem? (i := 1486) (by decide +kernel)) (by decide +kernel), q_in (List.mem_of_getElem? (i := 67) (by decide +kernel)) (by decide +kernel), by decide +kernel, by decide +kernel, by decide⟩
theorem mt_X10_nearestFor : q_mt mX10_nearestFor 2 := ⟨q_in (List.mem_of_getElem? (i := 1482) (by decide +kernel)) (by decide +kernel), q_in (List.mem_of_getElem? (i := 67) (by decide +kernel)) (by decide +kernel), by decide +kernel, by decide +kernel, by decide⟩
theorem mt_X10_makeOne : q_mt mX10_makeOne 3 := ⟨q_in (List.mem_of_getElem? (i := 1478) (by decide +kernel)) (by decide +kernel), q_in (List.mem_of_getElem? (i := 67) (by decide +kernel)) (by decide +kernel), by decide +kernel, by decide +kernel, by decide⟩
theorem mt_X10_make : q_mt mX10_make 1 := ⟨q_in (List.mem_of_getElem? (i := 1474) (by decide +kernel)) (by decide +kernel), q_in (List.mem_of_getElem? (i := 67) (by decide +kernel)) (by decide +kernel), by decide +kernel, by decide +kernel, by decide⟩
theorem mt_X10_nearest : q_mt mX10_nearest 1 := ⟨q_in (List.mem_of_getElem? (i := 1490) (by decide +kernel)) (by decide +kernel), q_in (List.mem_of_getElem? (i := 67) (by decide +kernel)) (by decide +kernel), by decide +kernel, by decide +kernel, by decide⟩
theorem mt_X10_mark : q_mt mX10_mark 0 := ⟨q_in (List.mem_of_getElem? (i := 1494) (by decide +kernel)) (by decide +kernel), q_in (List.mem_of_getElem? (i := 67) (by decide +kernel)) (by decide +kernel), by decide +kernel, by decide +kernel, by decide⟩
theorem mt_X10_back : q_mt mX10_back 1 := ⟨q_in (List.mem_of_getElem? (i := 1498) (by decide +kernel)) (by decide +kernel), q_in (List.mem_of_getElem? (i := 67) (by decide +kernel)) (by decide +kernel), by decide +kernel, by decide +kernel, by decide⟩
theorem mt_X10_sent : q_mt mX10_sent 0 := ⟨q_in (List.mem_of_getElem? (i := 1502) (by decide +kernel)) (by decide +kernel), q_in (List.mem_of_getElem? (i := 67) (by decide +kernel)) (by decide +kernel), by decide +kernel, by decide +kernel, by decide⟩
theorem mt_X10_digest : q_mt mX10_digest 0 := ⟨q_in (List.mem_of_getElem? (i := 1506) (by decide +kernel)) (by decide +kernel), q_in (List.mem_of_getElem? (i := 67) (by decide +kernel)) (by decide +kernel), by decide +kernel, by decide +kernel, by decide⟩
theorem mt_J6_compare_7cf53 : q_mt mJ6_compare_7cf53 2 := ⟨q_in (List.mem_of_getElem? (i := 567) (by decide +kernel)) (by decide +kernel), q_in (List.mem_of_getElem? (i := 75) (by decide +kernel)) (by decide +kernel), by decide +kernel, by decide +kernel, by decide⟩
theorem mt_J6_bitCount_0f7a4 : q_mt mJ6_bitCount_0f7a4 1 := ⟨q_in (List.mem_of_getElem? (i := 422) (by decide +kernel)) (by decide +kernel), q_in (List.mem_of_getElem? (i := 75) (by decide +kernel)) (by decide +kernel), by decide +kernel, by decide +kernel, by decide⟩
theorem mt_J6_signum_0f7a4 : q_mt mJ6_signum_0f7a4 1 := ⟨q_in (List.mem_of_getElem? (i := 1440) (by decide +kernel)) (by decide +kernel), q_in (List.mem_of_getElem? (i := 75) (by decide +kernel)) (by decide +kernel), by decide +kernel, by decide +kernel, by decide⟩
theorem mt_J9_floorDiv_7cf53 : q_mt mJ9_floorDiv_7cf53 2 := ⟨q_in (List.mem_of_getElem? (i := 549) (by decide +kernel)) (by decide +kernel), q_in (List.mem_of_getElem? (i := 59) (by decide +kernel)) (by decide +kernel), by decide +kernel, by decide +kernel, by decide⟩
theorem mt_J9_floorMod_7cf53 : q_mt mJ9_floorMod_7cf53 2 := ⟨q_in (List.mem_of_getElem? (i := 609) (by decide +kernel)) (by decide +kernel), q_in (List.mem_of_getElem? (i := 59) (by decide +kernel)) (by decide +kernel), by decide +kernel, by decide +kernel, by decide⟩
theorem mt_J9_abs_0f7a4 : q_mt mJ9_abs_0f7a4 1 := ⟨q_in (List.mem_of_getElem? (i := 116) (by decide +kernel)) (by decide +kernel), q_in (List.mem_of_getElem? (i := 59) (by decide +kernel)) (by decide +kernel), by decide +kernel, by decide +kernel, by decide⟩
theorem mt_J9_max_7cf53 : q_mt mJ9_max_7cf53 2 := ⟨q_in (List.mem_of_getElem? (i := 123) (by decide +kernel)) (by decide +kernel), q_in (List.mem_of_getElem? (i := 59) (by decide +kernel)) (by decide +kernel), by decide +kernel, by decide +kernel, by decide⟩
theorem mt_J9_min_7cf53 : q_mt mJ9_min_7cf53 2 := ⟨q_in (List.mem_of_getElem? (i := 515) (by decide +kernel)) (by decide +kernel), q_in (List.mem_of_getElem? (i := 59) (by decide +kernel)) (by decide +kernel), by decide +kernel, by decide +kernel, by decide⟩
theorem cl_X0 : q_cl 0 RX0 TX0 8 := ⟨rfl, fun w hw => q_in (inX0 w hw) (List.all_eq_true.mp (show (u_ws RX0 TX0 8).all goodWord = true by decide +kernel) w hw)⟩
theorem pf_X0_0 : q_pf TX0 8 0 tyX0 true := ⟨by decide, tyX0_ok, nmX0, rfl⟩
theorem pf_X0_1 : q_pf TX0 8 1 tyX0 true := ⟨by decide, tyX0_ok, nmX0, rfl⟩
theorem pf_X0_2 : q_pf TX0 8 2 tyX0 true := ⟨by decide, tyX0_ok, nmX0, rfl⟩
theorem pf_X0_3 : q_pf TX0 8 3 tyX0 true := ⟨by decide, tyX0_ok, nmX0, rfl⟩
theorem pf_X0_4 : q_pf TX0 8 4 tyX0 true := ⟨by decide, tyX0_ok, nmX0, rfl⟩
theorem pf_X0_5 : q_pf TX0 8 5 tyX0 false := ⟨by decide, tyX0_ok, nmX0, rfl⟩
theorem pf_X0_6 : q_pf TX0 8 6 tyX0 false := ⟨by decide, tyX0_ok, nmX0, rfl⟩
theorem pf_X0_7 : q_pf TX0 8 7 tyX0 false := ⟨by decide, tyX0_ok, nmX0, rfl⟩
theorem cl_X1 : q_cl 1 RX1 TX1 5 := ⟨rfl, fun w hw => q_in (inX1 w hw) (List.all_eq_true.mp (show (u_ws RX1 TX1 5).all goodWord = true by decide +kernel) w hw)⟩
theorem pf_X1_0 : q_pf TX1 5 0 tyX1 true := ⟨by decide, tyX1_ok, nmX1, rfl⟩
theorem pf_X1_1 : q_pf TX1 5 1 tyX1 true := ⟨by decide, tyX1_ok, nmX1, rfl⟩
theorem pf_X1_2 : q_pf TX1 5 2 tyX1 true := ⟨by decide, tyX1_ok, nmX1, rfl⟩
theorem pf_X1_3 : q_pf TX1 5 3 tyX1 true := ⟨by decide, tyX1_ok, nmX1, rfl⟩
theorem pf_X1_4 : q_pf TX1 5 4 tyX1 false := ⟨by decide, tyX1_ok, nmX1, rfl⟩
theorem cl_X2 : q_cl 2 RX2 TX2 5 := ⟨rfl, fun w hw => q_in (inX2 w hw) (List.all_eq_true.mp (show (u_ws RX2 TX2 5).all goodWord = true by decide +kernel) w hw)⟩
theorem pf_X2_0 : q_pf TX2 5 0 tyX2 true := ⟨by decide, tyX2_ok, nmX2, rfl⟩
theorem pf_X2_1 : q_pf TX2 5 1 tyX2 true := ⟨by decide, tyX2_ok, nmX2, rfl⟩
theorem pf_X2_2 : q_pf TX2 5 2 tyX2 true := ⟨by decide, tyX2_ok, nmX2, rfl⟩
theorem pf_X2_3 : q_pf TX2 5 3 tyX2 true := ⟨by decide, tyX2_ok, nmX2, rfl⟩
theorem pf_X2_4 : q_pf TX2 5 4 tyX2 true := ⟨by decide, tyX2_ok, nmX2, rfl⟩
theorem cl_X3 : q_cl 3 RX3 TX3 2 := ⟨rfl, fun w hw => q_in (inX3 w hw) (List.all_eq_true.mp (show (u_ws RX3 TX3 2).all goodWord = true by decide +kernel) w hw)⟩
theorem pf_X3_0 : q_pf TX3 2 0 tyX3 true := ⟨by decide, tyX3_ok, nmX3, rfl⟩
theorem pf_X3_1 : q_pf TX3 2 1 tyX3 true := ⟨by decide, tyX3_ok, nmX3, rfl⟩
theorem cl_X4 : q_cl 4 RX4 TX4 4 := ⟨rfl, fun w hw => q_in (inX4 w hw) (List.all_eq_true.mp (show (u_ws RX4 TX4 4).all goodWord = true by decide +kernel) w hw)⟩
theorem pf_X4_0 : q_pf TX4 4 0 tyX4 true := ⟨by decide, tyX4_ok, nmX4, rfl⟩
theorem pf_X4_1 : q_pf TX4 4 1 tyX4 true := ⟨by decide, tyX4_ok, nmX4, rfl⟩
theorem pf_X4_2 : q_pf TX4 4 2 tyX4 true := ⟨by decide, tyX4_ok, nmX4, rfl⟩
theorem pf_X4_3 : q_pf TX4 4 3 tyX4 false := ⟨by decide, tyX4_ok, nmX4, rfl⟩
theorem cl_X5 : q_cl 5 RX5 TX5 4 := ⟨rfl, fun w hw => q_in (inX5 w hw) (List.all_eq_true.mp (show (u_ws RX5 TX5 4).all goodWord = true by decide +kernel) w hw)⟩
theorem pf_X5_0 : q_pf TX5 4 0 tyX5 true := ⟨by decide, tyX5_ok, nmX5, rfl⟩
theorem pf_X5_1 : q_pf TX5 4 1 tyX5 true := ⟨by decide, tyX5_ok, nmX5, rfl⟩
theorem pf_X5_2 : q_pf TX5 4 2 tyX5 true := ⟨by decide, tyX5_ok, nmX5, rfl⟩
theorem pf_X5_3 : q_pf TX5 4 3 tyX5 false := ⟨by decide, tyX5_ok, nmX5, rfl⟩
theorem cl_X6 : q_cl 6 RX6 TX6 15 := ⟨rfl, fun w hw => q_in (inX6 w hw) (List.all_eq_true.mp (show (u_ws RX6 TX6 15).all goodWord = true by decide +kernel) w hw)⟩
theorem pf_X6_0 : q_pf TX6 15 0 tyX6 false := ⟨by decide, tyX6_ok, nmX6, rfl⟩
theorem pf_X6_1 : q_pf TX6 15 1 tyX6 false := ⟨by decide, tyX6_ok, nmX6, rfl⟩
theorem pf_X6_2 : q_pf TX6 15 2 tyX6 false := ⟨by decide, tyX6_ok, nmX6, rfl⟩
theorem pf_X6_3 : q_pf TX6 15 3 tyX6 false := ⟨by decide, tyX6_ok, nmX6, rfl⟩
theorem pf_X6_4 : q_pf TX6 15 4 tyX6 false := ⟨by decide, tyX6_ok, nmX6, rfl⟩
theorem pf_X6_5 : q_pf TX6 15 5 tyX6 false := ⟨by decide, tyX6_ok, nmX6, rfl⟩
theorem pf_X6_6 : q_pf TX6 15 6 tyX6 false := ⟨by decide, tyX6_ok, nmX6, rfl⟩
theorem pf_X6_7 : q_pf TX6 15 7 tyX6 false := ⟨by decide, tyX6_ok, nmX6, rfl⟩
theorem pf_X6_8 : q_pf TX6 15 8 tyX6 false := ⟨by decide, tyX6_ok, nmX6, rfl⟩
theorem pf_X6_9 : q_pf TX6 15 9 tyX6 false := ⟨by decide, tyX6_ok, nmX6, rfl⟩
theorem pf_X6_10 : q_pf TX6 15 10 tyX6 true := ⟨by decide, tyX6_ok, nmX6, rfl⟩
theorem pf_X6_11 : q_pf TX6 15 11 tyX6 true := ⟨by decide, tyX6_ok, nmX6, rfl⟩
theorem pf_X6_12 : q_pf TX6 15 12 tyX6 true := ⟨by decide, tyX6_ok, nmX6, rfl⟩
theorem pf_X6_13 : q_pf TX6 15 13 tyX6 true := ⟨by decide, tyX6_ok, nmX6, rfl⟩
theorem pf_X6_14 : q_pf TX6 15 14 tyX6 true := ⟨by decide, tyX6_ok, nmX6, rfl⟩
theorem cl_X7 : q_cl 7 RX7 TX7 5 := ⟨rfl, fun w hw => q_in (inX7 w hw) (List.all_eq_true.mp (show (u_ws RX7 TX7 5).all goodWord = true by decide +kernel) w hw)⟩
theorem pf_X7_0 : q_pf TX7 5 0 tyX7 true := ⟨by decide, tyX7_ok, nmX7, rfl⟩
theorem pf_X7_1 : q_pf TX7 5 1 tyX7 true := ⟨by decide, tyX7_ok, nmX7, rfl⟩
theorem pf_X7_2 : q_pf TX7 5 2 tyX7 true := ⟨by decide, tyX7_ok, nmX7, rfl⟩
theorem pf_X7_3 : q_pf TX7 5 3 tyX7 true := ⟨by decide, tyX7_ok, nmX7, rfl⟩
theorem pf_X7_4 : q_pf TX7 5 4 tyX7 false := ⟨by decide, tyX7_ok, nmX7, rfl⟩
theorem cl_X8 : q_cl 8 RX8 TX8 4 := ⟨rfl, fun w hw => q_in (inX8 w hw) (List.all_eq_true.mp (show (u_ws RX8 TX8 4).all goodWord = true by decide +kernel) w hw)⟩
theorem pf_X8_0 : q_pf TX8 4 0 tyX8 true := ⟨by decide, tyX8_ok, nmX8, rfl⟩
theorem pf_X8_1 : q_pf TX8 4 1 tyX8 true := ⟨by decide, tyX8_ok, nmX8, rfl⟩
theorem pf_X8_2 : q_pf TX8 4 2 tyX8 true := ⟨by decide, tyX8_ok, nmX8, rfl⟩
theorem pf_X8_3 : q_pf TX8 4 3 tyX8 false := ⟨by decide, tyX8_ok, nmX8, rfl⟩
theorem cl_X9 : q_cl 9 RX9 TX9 11 := ⟨rfl, fun w hw => q_in (inX9 w hw) (List.all_eq_true.mp (show (u_ws RX9 TX9 11).all goodWord = true by decide +kernel) w hw)⟩
theorem pf_X9_0 : q_pf TX9 11 0 tyX9 true := ⟨by decide, tyX9_ok, nmX9, rfl⟩
theorem pf_X9_1 : q_pf TX9 11 1 tyX9 true := ⟨by decide, tyX9_ok, nmX9, rfl⟩
theorem pf_X9_2 : q_pf TX9 11 2 tyX9 true := ⟨by decide, tyX9_ok, nmX9, rfl⟩
theorem pf_X9_3 : q_pf TX9 11 3 tyX9 true := ⟨by decide, tyX9_ok, nmX9, rfl⟩
theorem pf_X9_4 : q_pf TX9 11 4 tyX9 true := ⟨by decide, tyX9_ok, nmX9, rfl⟩
theorem pf_X9_5 : q_pf TX9 11 5 tyX9 true := ⟨by decide, tyX9_ok, nmX9, rfl⟩
theorem pf_X9_6 : q_pf TX9 11 6 tyX9 true := ⟨by decide, tyX9_ok, nmX9, rfl⟩
theorem pf_X9_7 : q_pf TX9 11 7 tyX9 true := ⟨by decide, tyX9_ok, nmX9, rfl⟩
theorem pf_X9_8 : q_pf TX9 11 8 tyX9 true := ⟨by decide, tyX9_ok, nmX9, rfl⟩
theorem pf_X9_9 : q_pf TX9 11 9 tyX9 true := ⟨by decide, tyX9_ok, nmX9, rfl⟩
theorem pf_X9_10 : q_pf TX9 11 10 tyX9 false := ⟨by decide, tyX9_ok, nmX9, rfl⟩
theorem cl_X10 : q_cl 10 RX10 TX10 25 := ⟨rfl, fun w hw => q_in (inX10 w hw) (List.all_eq_true.mp (show (u_ws RX10 TX10 25).all goodWord = true by decide +kernel) w hw)⟩
theorem pf_X10_0 : q_pf TX10 25 0 tyX10 false := ⟨by decide, tyX10_ok, nmX10, rfl⟩
theorem pf_X10_1 : q_pf TX10 25 1 tyX10 true := ⟨by decide, tyX10_ok, nmX10, rfl⟩
theorem pf_X10_2 : q_pf TX10 25 2 tyX10 true := ⟨by decide, tyX10_ok, nmX10, rfl⟩
theorem pf_X10_3 : q_pf TX10 25 3 tyX10 true := ⟨by decide, tyX10_ok, nmX10, rfl⟩
theorem pf_X10_4 : q_pf TX10 25 4 tyX10 false := ⟨by decide, tyX10_ok, nmX10, rfl⟩
theorem pf_X10_5 : q_pf TX10 25 5 tyX10 false := ⟨by decide, tyX10_ok, nmX10, rfl⟩
theorem pf_X10_6 : q_pf TX10 25 6 tyX10 true := ⟨by decide, tyX10_ok, nmX10, rfl⟩
theorem pf_X10_7 : q_pf TX10 25 7 tyX10 false := ⟨by decide, tyX10_ok, nmX10, rfl⟩
theorem pf_X10_8 : q_pf TX10 25 8 tyX10 true := ⟨by decide, tyX10_ok, nmX10, rfl⟩
theorem pf_X10_9 : q_pf TX10 25 9 tyX10 false := ⟨by decide, tyX10_ok, nmX10, rfl⟩
theorem pf_X10_10 : q_pf TX10 25 10 tyX10 false := ⟨by decide, tyX10_ok, nmX10, rfl⟩
theorem pf_X10_11 : q_pf TX10 25 11 tyX10 true := ⟨by decide, tyX10_ok, nmX10, rfl⟩
theorem pf_X10_12 : q_pf TX10 25 12 tyX10 true := ⟨by decide, tyX10_ok, nmX10, rfl⟩
theorem pf_X10_13 : q_pf TX10 25 13 tyX10 false := ⟨by decide, tyX10_ok, nmX10, rfl⟩
theorem pf_X10_14 : q_pf TX10 25 14 tyX10 true := ⟨by decide, tyX10_ok, nmX10, rfl⟩
theorem pf_X10_15 : q_pf TX10 25 15 tyX10 false := ⟨by decide, tyX10_ok, nmX10, rfl⟩
theorem pf_X10_16 : q_pf TX10 25 16 tyX10 true := ⟨by decide, tyX10_ok, nmX10, rfl⟩
theorem pf_X10_17 : q_pf TX10 25 17 tyX10 true := ⟨by decide, tyX10_ok, nmX10, rfl⟩
theorem pf_X10_18 : q_pf TX10 25 18 tyX10 true := ⟨by decide, tyX10_ok, nmX10, rfl⟩
theorem pf_X10_19 : q_pf TX10 25 19 tyX10 true := ⟨by decide, tyX10_ok, nmX10, rfl⟩
theorem pf_X10_20 : q_pf TX10 25 20 tyX10 true := ⟨by decide, tyX10_ok, nmX10, rfl⟩
theorem pf_X10_21 : q_pf TX10 25 21 tyX10 true := ⟨by decide, tyX10_ok, nmX10, rfl⟩
theorem pf_X10_22 : q_pf TX10 25 22 tyX10 true := ⟨by decide, tyX10_ok, nmX10, rfl⟩
theorem pf_X10_23 : q_pf TX10 25 23 tyX10 false := ⟨by decide, tyX10_ok, nmX10, rfl⟩
theorem pf_X10_24 : q_pf TX10 25 24 tyX10 true := ⟨by decide, tyX10_ok, nmX10, rfl⟩
theorem xw_IAE : q_xw "java/lang/IllegalArgumentException" 92 := q_xw_of (by decide +kernel) (by decide +kernel) (q_in (List.mem_of_getElem? (i := 71) (by decide +kernel)) (by decide +kernel)) (by decide +kernel)
theorem xw_IOE : q_xw "java/lang/IndexOutOfBoundsException" 113 := q_xw_of (by decide +kernel) (by decide +kernel) (q_in (List.mem_of_getElem? (i := 72) (by decide +kernel)) (by decide +kernel)) (by decide +kernel)
theorem xw_ISE : q_xw "java/lang/IllegalStateException" 166 := q_xw_of (by decide +kernel) (by decide +kernel) (q_in (List.mem_of_getElem? (i := 73) (by decide +kernel)) (by decide +kernel)) (by decide +kernel)
