/-! the methods of the table -/
def xm_m0 : List (MethodName × ByteArray × Nat × Option FieldType) := [(yX0_lesserKnot, cX0_lesserKnot, 1, (some .int)), (yX0_greaterKnot, cX0_greaterKnot, 1, (some .int)), (yX0_endsOf, cX0_endsOf, 2, (some .int)), (yX0_between, cX0_between, 4, (some .int)), (yX0_meshesBeside, cX0_meshesBeside, 4, (some .int)), (yX0_spread, cX0_spread, 8, (some .int)), (yX0_threadsAt, cX0_threadsAt, 4, (some .int)), (yX0_knotsOf, cX0_knotsOf, 3, (some .int)), (yX0_oddKnots, cX0_oddKnots, 3, (some .int)), (yX0_firstOf, cX0_firstOf, 2, (some .int)), (yX0_firstHole, cX0_firstHole, 2, (some .int)), (yX0_holesIn, cX0_holesIn, 4, (some .int)), (yX0_holeAt, cX0_holeAt, 4, (some .int)), (yX0_greatestOpening, cX0_greatestOpening, 3, (some .int)), (yX1_init, cX1_init, 1, none), (yX1_plan, cX1_plan, 9, none)]
def xm_m1 : List (MethodName × ByteArray × Nat × Option FieldType) := [(yX1_minutesOfTried, cX1_minutesOfTried, 6, (some .int)), (yX2_above, cX2_above, 1, (some .int)), (yX2_isUnder, cX2_isUnder, 4, (some .boolean)), (yX2_takesOf, cX2_takesOf, 1, (some .int)), (yX3_init, cX3_init, 1, none), (yX3_isThere, cX3_isThere, 1, (some .boolean)), (yX3_forget, cX3_forget, 1, none), (yX3_become, cX3_become, 2, none), (yX3_add, cX3_add, 2, none), (yX3_worth, cX3_worth, 7, (some .int)), (yX3_valueOf, cX3_valueOf, 4, (some .int)), (yX3_join, cX3_join, 3, (some .int)), (yX4_init, cX4_init, 1, none), (yX4_isOneRun, cX4_isOneRun, 1, (some .boolean)), (yX4_isOneRunBy, cX4_isOneRunBy, 3, (some .boolean)), (yX4_fewestCuts, cX4_fewestCuts, 4, (some .int))]
def xm_m2 : List (MethodName × ByteArray × Nat × Option FieldType) := [(yX4_choose, cX4_choose, 7, (some .boolean)), (yX4_wayKnot, cX4_wayKnot, 8, (some .int)), (yX4_nextKnot, cX4_nextKnot, 5, (some .int)), (yX5_init, cX5_init, 2, none), (yX5_become, cX5_become, 2, none), (yX5_lawOf, cX5_lawOf, 2, (some (.object "NetMender$Law"))), (yX5_tieAnew, cX5_tieAnew, 3, none), (yX5_holdsOf, cX5_holdsOf, 8, (some .int)), (yX5_wearsOf, cX5_wearsOf, 2, (some .int)), (yX5_strengthOf, cX5_strengthOf, 2, (some .int)), (yX5_threadFact, cX5_threadFact, 3, (some .int)), (yX5_isMissing, cX5_isMissing, 2, (some .boolean)), (yX5_missingThreads, cX5_missingThreads, 1, (some .int)), (yX5_firstThreads, cX5_firstThreads, 3, (some .int)), (yX5_wornInAll, cX5_wornInAll, 3, (some .int)), (yX5_lose, cX5_lose, 2, none)]
def xm_m3 : List (MethodName × ByteArray × Nat × Option FieldType) := [(yX5_renew, cX5_renew, 2, none), (yX5_renewAll, cX5_renewAll, 2, none), (yX5_passDays, cX5_passDays, 3, none), (yX5_passDay, cX5_passDay, 3, none), (yX5_runStops, cX5_runStops, 5, (some .int)), (yX5_ellsOfRun, cX5_ellsOfRun, 5, (some .int)), (yX5_mendRun, cX5_mendRun, 5, none), (yX6_init, cX6_init, 2, none), (yX6_become, cX6_become, 2, none), (yX6_nextDraw, cX6_nextDraw, 1, (some .int)), (yX7_init, cX7_init, 1, none), (yX7_isMissing, cX7_isMissing, 1, (some .boolean)), (yX7_begin, cX7_begin, 4, none), (yX7_write, cX7_write, 3, none), (yX7_hasStretch, cX7_hasStretch, 3, (some .boolean)), (yX8_init, cX8_init, 1, none)]
def xm_m4 : List (MethodName × ByteArray × Nat × Option FieldType) := [(yX8_read, cX8_read, 6, (some .int)), (yX8_takeValue, cX8_takeValue, 8, (some .int)), (yX8_takeSign, cX8_takeSign, 3, (some .int)), (yX8_push, cX8_push, 2, none), (yX8_endValue, cX8_endValue, 1, none), (yX8_settle, cX8_settle, 2, none), (yX8_isDigit, cX8_isDigit, 1, (some .boolean)), (yX8_rankOf, cX8_rankOf, 1, (some .int)), (yX8_nameOf, cX8_nameOf, 3, (some .int)), (yX9_init, cX9_init, 1, none), (yX9_hear, cX9_hear, 6, (some .int)), (yX9_speak, cX9_speak, 8, (some .int)), (yX9_bodySays, cX9_bodySays, 7, (some .int)), (yX10_init, cX10_init, 2, none), (yX10_tie, cX10_tie, 6, (some .int)), (yX10_knotIs, cX10_knotIs, 4, (some .int))]
def xm_m5 : List (MethodName × ByteArray × Nat × Option FieldType) := [(yX10_as, cX10_as, 3, (some .int)), (yX10_threadIs, cX10_threadIs, 3, (some .int)), (yX10_cut, cX10_cut, 2, (some .int)), (yX10_wear, cX10_wear, 4, (some .int)), (yX10_twine, cX10_twine, 3, (some .int)), (yX10_speed, cX10_speed, 4, (some .int)), (yX10_feed, cX10_feed, 5, (some .int)), (yX10_text, cX10_text, 3, (some .int)), (yX10_untell, cX10_untell, 4, (some .int)), (yX10_run, cX10_run, 6, (some .int)), (yX10_odd, cX10_odd, 2, (some .int)), (yX10_cuts, cX10_cuts, 3, (some .int)), (yX10_way, cX10_way, 2, (some .int)), (yX10_hole, cX10_hole, 3, (some .int)), (yX10_open, cX10_open, 1, (some .int)), (yX10_minutes, cX10_minutes, 3, (some .int))]
def xm_m6 : List (MethodName × ByteArray × Nat × Option FieldType) := [(yX10_days, cX10_days, 3, (some .int)), (yX10_draws, cX10_draws, 4, (some .int)), (yX10_seed, cX10_seed, 3, (some .int)), (yX10_then, cX10_then, 4, (some .int)), (yX10_goes, cX10_goes, 5, (some .int)), (yX10_mendAhead, cX10_mendAhead, 7, (some .int)), (yX10_hands, cX10_hands, 5, (some .int)), (yX10_swimsOut, cX10_swimsOut, 4, (some .long)), (yX10_voice, cX10_voice, 5, (some .int)), (yX10_body, cX10_body, 2, (some .int)), (yX10_sheet, cX10_sheet, 4, (some .int)), (yX10_put, cX10_put, 5, (some .int)), (yX10_move, cX10_move, 8, (some .int)), (yX10_cutAll, cX10_cutAll, 6, (some .int)), (yX10_judge, cX10_judge, 5, (some .int)), (yX10_image, cX10_image, 1, (some .int))]
def xm_m7 : List (MethodName × ByteArray × Nat × Option FieldType) := [(yX10_restore, cX10_restore, 1, (some .int)), (yX10_tell, cX10_tell, 2, (some .int)), (yX10_check, cX10_check, 3, (some .int)), (yX10_count, cX10_count, 2, (some .int)), (yX10_told, cX10_told, 2, (some .int)), (yX10_isBelow, cX10_isBelow, 2, (some .boolean)), (yX10_isWithin, cX10_isWithin, 3, (some .boolean)), (yX10_heldWithin, cX10_heldWithin, 3, (some .int)), (yX10_refuse, cX10_refuse, 3, (some .int)), (yX10_daysError, cX10_daysError, 2, (some .int)), (yX10_readingError, cX10_readingError, 2, (some .int)), (yX11_init, cX11_init, 2, none), (yX11_error, cX11_error, 2, (some .int)), (yX11_in, cX11_in, 3, (some .boolean)), (yX11_held, cX11_held, 3, (some .int)), (yX11_carry, cX11_carry, 4, none)]
def xm_m8 : List (MethodName × ByteArray × Nat × Option FieldType) := [(yX11_layDown, cX11_layDown, 1, none), (yX11_layBack, cX11_layBack, 1, none), (yX11_isKnot, cX11_isKnot, 1, (some .boolean)), (yX11_isThread, cX11_isThread, 1, (some .boolean)), (yX11_isHand, cX11_isHand, 1, (some .boolean)), (yX11_its, cX11_its, 3, (some .int)), (yX11_of, cX11_of, 3, (some .int)), (yX11_isMissing, cX11_isMissing, 2, (some .boolean)), (yX11_lessOf, cX11_lessOf, 1, (some .int)), (yX11_otherOf, cX11_otherOf, 1, (some .int)), (yX11_ends, cX11_ends, 2, (some .boolean)), (yX11_between, cX11_between, 4, (some .int)), (yX11_change1, cX11_change1, 4, (some .int)), (yX11_missing, cX11_missing, 3, (some .int)), (yX11_gone, cX11_gone, 3, (some .int)), (yX11_isIn, cX11_isIn, 2, (some .boolean))]
def xm_m9 : List (MethodName × ByteArray × Nat × Option FieldType) := [(yX11_feed, cX11_feed, 5, (some .int)), (yX11_look, cX11_look, 1, (some .int)), (yX11_isName, cX11_isName, 2, (some .boolean)), (yX11_step1, cX11_step1, 3, none), (yX11_whole, cX11_whole, 1, (some .boolean)), (yX11_both, cX11_both, 1, (some .boolean)), (yX11_compared, cX11_compared, 2, (some .boolean)), (yX11_sum, cX11_sum, 2, (some .boolean)), (yX11_product, cX11_product, 2, (some .boolean)), (yX11_opens, cX11_opens, 1, (some .boolean)), (yX11_one, cX11_one, 4, (some .boolean)), (yX11_hasText, cX11_hasText, 2, (some .boolean)), (yX11_text, cX11_text, 5, (some .int)), (yX11_untell, cX11_untell, 3, (some .int)), (yX11_joined, cX11_joined, 3, (some .int)), (yX11_worked, cX11_worked, 7, (some .int))]
def xm_m10 : List (MethodName × ByteArray × Nat × Option FieldType) := [(yX11_holdsTold, cX11_holdsTold, 2, (some .int)), (yX11_slipped, cX11_slipped, 2, (some .int)), (yX11_holds, cX11_holds, 4, (some .int)), (yX11_takes, cX11_takes, 3, (some .int)), (yX11_strength, cX11_strength, 2, (some .int)), (yX11_endsAt, cX11_endsAt, 4, (some .int)), (yX11_tiedBy, cX11_tiedBy, 3, none), (yX11_tie, cX11_tie, 5, (some .int)), (yX11_knotIs, cX11_knotIs, 3, (some .int)), (yX11_isUnder, cX11_isUnder, 2, (some .boolean)), (yX11_as, cX11_as, 3, (some .int)), (yX11_toldThread, cX11_toldThread, 3, (some .int)), (yX11_threadIs, cX11_threadIs, 3, (some .int)), (yX11_loses, cX11_loses, 2, none), (yX11_renews, cX11_renews, 2, none), (yX11_cut, cX11_cut, 2, (some .int))]
def xm_m11 : List (MethodName × ByteArray × Nat × Option FieldType) := [(yX11_wear, cX11_wear, 3, (some .int)), (yX11_twine, cX11_twine, 2, (some .int)), (yX11_speed, cX11_speed, 3, (some .int)), (yX11_run, cX11_run, 9, (some .int)), (yX11_oddOnes, cX11_oddOnes, 3, (some .int)), (yX11_hangs, cX11_hangs, 7, (some .int)), (yX11_least, cX11_least, 2, (some .int)), (yX11_isOneRun, cX11_isOneRun, 1, (some .boolean)), (yX11_odd, cX11_odd, 2, (some .int)), (yX11_cutsTo, cX11_cutsTo, 6, (some .boolean)), (yX11_cuts, cX11_cuts, 5, (some .int)), (yX11_goesOn, cX11_goesOn, 4, (some .boolean)), (yX11_way, cX11_way, 8, (some .int)), (yX11_findHoles, cX11_findHoles, 5, (some .int)), (yX11_hole, cX11_hole, 3, (some .int)), (yX11_meshes, cX11_meshes, 3, (some .int))]
def xm_m12 : List (MethodName × ByteArray × Nat × Option FieldType) := [(yX11_bitsOf, cX11_bitsOf, 3, (some .int)), (yX11_open, cX11_open, 8, (some .int)), (yX11_minutesBy, cX11_minutesBy, 5, (some .int)), (yX11_threes, cX11_threes, 3, (some .int)), (yX11_minutes, cX11_minutes, 5, (some .int)), (yX11_wears, cX11_wears, 3, (some .int)), (yX11_day, cX11_day, 2, none), (yX11_go, cX11_go, 3, none), (yX11_days, cX11_days, 2, (some .int)), (yX11_draw, cX11_draw, 1, (some .int)), (yX11_draws, cX11_draws, 3, (some .int)), (yX11_seed, cX11_seed, 2, (some .int)), (yX11_then, cX11_then, 5, (some .int)), (yX11_goes, cX11_goes, 6, (some .int)), (yX11_mendAhead, cX11_mendAhead, 7, (some .int)), (yX11_hands, cX11_hands, 5, (some .int))]
def xm_m13 : List (MethodName × ByteArray × Nat × Option FieldType) := [(yX11_swimsOut, cX11_swimsOut, 7, (some .long)), (yX11_begins, cX11_begins, 2, none), (yX11_above, cX11_above, 1, (some .int)), (yX11_kindNow, cX11_kindNow, 1, (some .int)), (yX11_mNow, cX11_mNow, 1, (some .int)), (yX11_holdsAs, cX11_holdsAs, 3, (some .int)), (yX11_slipsAs, cX11_slipsAs, 3, (some .int)), (yX11_tiesAs, cX11_tiesAs, 3, (some .int)), (yX11_partsAs, cX11_partsAs, 5, (some .int)), (yX11_voice, cX11_voice, 6, (some .int)), (yX11_body, cX11_body, 2, (some .int)), (yX11_isSheet, cX11_isSheet, 1, (some .boolean)), (yX11_sheet, cX11_sheet, 5, (some .int)), (yX11_put, cX11_put, 5, (some .int)), (yX11_move, cX11_move, 7, (some .int)), (yX11_lacks, cX11_lacks, 2, (some .int))]
def xm_m14 : List (MethodName × ByteArray × Nat × Option FieldType) := [(yX11_cutAll, cX11_cutAll, 4, (some .int)), (yX11_judge, cX11_judge, 4, (some .int)), (yX11_image, cX11_image, 1, (some .int)), (yX11_restore, cX11_restore, 1, (some .int)), (yX11_tell, cX11_tell, 2, (some .int)), (yX11_check, cX11_check, 4, (some .int)), (yX11_count, cX11_count, 5, (some .int)), (yX11_told, cX11_told, 2, (some .int)), (yJ6_bitCount_0f7a4, cJ6_bitCount_0f7a4, 1, (some .int)), (x, code, 4, (some .boolean))]
def xm_mis : List (List (MethodName × ByteArray × Nat × Option FieldType)) := [xm_m0, xm_m1, xm_m2, xm_m3, xm_m4, xm_m5, xm_m6, xm_m7, xm_m8, xm_m9, xm_m10, xm_m11, xm_m12, xm_m13, xm_m14]
def xm_mi (k : Nat) : MethodName × ByteArray × Nat × Option FieldType := (xm_mis.getD (k / 16) []).getD (k % 16) (yX0_lesserKnot, cX0_lesserKnot, 1, some .int)
theorem xk0_e : xm_mi 0 = (yX0_lesserKnot, cX0_lesserKnot, 1, (some .int)) := rfl
theorem xk0_0 : Cond.code (xm_mi 0).1 (xm_mi 0).2.1 (xm_mi 0).2.2.1 (xm_mi 0).2.2.2 ∈ xw_ALL := by rw [xk0_e]; exact ww_336
theorem xk0_2 : Cond.initialized (xm_mi 0).1.cls ∈ xw_ALL := by rw [xk0_e]; exact ww_13
theorem xk0_m : (xm_mi 0).2.2.1 ≤ 21 := by rw [xk0_e]; decide
theorem xk0_d : (xm_mi 0).1.cls ≠ "java/lang/invoke/MethodHandle" ∧ (xm_mi 0).1.cls ≠ "java/lang/invoke/VarHandle" ∧ (parseMethodDescriptor (xm_mi 0).1.desc).map (fun d => d.parameters.length) = some 1 := by rw [xk0_e]; decide +kernel
theorem xk0_3 : Cond.static (xm_mi 0).1 ∈ xw_ALL := by rw [xk0_e]; exact ww_335
theorem xk1_e : xm_mi 1 = (yX0_greaterKnot, cX0_greaterKnot, 1, (some .int)) := rfl
theorem xk1_0 : Cond.code (xm_mi 1).1 (xm_mi 1).2.1 (xm_mi 1).2.2.1 (xm_mi 1).2.2.2 ∈ xw_ALL := by rw [xk1_e]; exact ww_374
theorem xk1_2 : Cond.initialized (xm_mi 1).1.cls ∈ xw_ALL := by rw [xk1_e]; exact ww_13
theorem xk1_m : (xm_mi 1).2.2.1 ≤ 21 := by rw [xk1_e]; decide
theorem xk1_d : (xm_mi 1).1.cls ≠ "java/lang/invoke/MethodHandle" ∧ (xm_mi 1).1.cls ≠ "java/lang/invoke/VarHandle" ∧ (parseMethodDescriptor (xm_mi 1).1.desc).map (fun d => d.parameters.length) = some 1 := by rw [xk1_e]; decide +kernel
theorem xk1_3 : Cond.static (xm_mi 1).1 ∈ xw_ALL := by rw [xk1_e]; exact ww_373
theorem xk2_e : xm_mi 2 = (yX0_endsOf, cX0_endsOf, 2, (some .int)) := rfl
theorem xk2_0 : Cond.code (xm_mi 2).1 (xm_mi 2).2.1 (xm_mi 2).2.2.1 (xm_mi 2).2.2.2 ∈ xw_ALL := by rw [xk2_e]; exact ww_333
theorem xk2_2 : Cond.initialized (xm_mi 2).1.cls ∈ xw_ALL := by rw [xk2_e]; exact ww_13
theorem xk2_m : (xm_mi 2).2.2.1 ≤ 21 := by rw [xk2_e]; decide
theorem xk2_d : (xm_mi 2).1.cls ≠ "java/lang/invoke/MethodHandle" ∧ (xm_mi 2).1.cls ≠ "java/lang/invoke/VarHandle" ∧ (parseMethodDescriptor (xm_mi 2).1.desc).map (fun d => d.parameters.length) = some 1 := by rw [xk2_e]; decide +kernel
theorem xk2_3 : Cond.static (xm_mi 2).1 ∈ xw_ALL := by rw [xk2_e]; exact ww_332
theorem xk3_e : xm_mi 3 = (yX0_between, cX0_between, 4, (some .int)) := rfl
theorem xk3_0 : Cond.code (xm_mi 3).1 (xm_mi 3).2.1 (xm_mi 3).2.2.1 (xm_mi 3).2.2.2 ∈ xw_ALL := by rw [xk3_e]; exact ww_485
theorem xk3_2 : Cond.initialized (xm_mi 3).1.cls ∈ xw_ALL := by rw [xk3_e]; exact ww_13
theorem xk3_m : (xm_mi 3).2.2.1 ≤ 21 := by rw [xk3_e]; decide
theorem xk3_d : (xm_mi 3).1.cls ≠ "java/lang/invoke/MethodHandle" ∧ (xm_mi 3).1.cls ≠ "java/lang/invoke/VarHandle" ∧ (parseMethodDescriptor (xm_mi 3).1.desc).map (fun d => d.parameters.length) = some 2 := by rw [xk3_e]; decide +kernel
theorem xk3_3 : Cond.static (xm_mi 3).1 ∈ xw_ALL := by rw [xk3_e]; exact ww_484
theorem xk4_e : xm_mi 4 = (yX0_meshesBeside, cX0_meshesBeside, 4, (some .int)) := rfl
theorem xk4_0 : Cond.code (xm_mi 4).1 (xm_mi 4).2.1 (xm_mi 4).2.2.1 (xm_mi 4).2.2.2 ∈ xw_ALL := by rw [xk4_e]; exact ww_528
theorem xk4_2 : Cond.initialized (xm_mi 4).1.cls ∈ xw_ALL := by rw [xk4_e]; exact ww_13
theorem xk4_m : (xm_mi 4).2.2.1 ≤ 21 := by rw [xk4_e]; decide
theorem xk4_d : (xm_mi 4).1.cls ≠ "java/lang/invoke/MethodHandle" ∧ (xm_mi 4).1.cls ≠ "java/lang/invoke/VarHandle" ∧ (parseMethodDescriptor (xm_mi 4).1.desc).map (fun d => d.parameters.length) = some 1 := by rw [xk4_e]; decide +kernel
theorem xk4_3 : Cond.static (xm_mi 4).1 ∈ xw_ALL := by rw [xk4_e]; exact ww_527
theorem xk5_e : xm_mi 5 = (yX0_spread, cX0_spread, 8, (some .int)) := rfl
theorem xk5_0 : Cond.code (xm_mi 5).1 (xm_mi 5).2.1 (xm_mi 5).2.2.1 (xm_mi 5).2.2.2 ∈ xw_ALL := by rw [xk5_e]; exact ww_525
theorem xk5_2 : Cond.initialized (xm_mi 5).1.cls ∈ xw_ALL := by rw [xk5_e]; exact ww_13
theorem xk5_m : (xm_mi 5).2.2.1 ≤ 21 := by rw [xk5_e]; decide
theorem xk5_d : (xm_mi 5).1.cls ≠ "java/lang/invoke/MethodHandle" ∧ (xm_mi 5).1.cls ≠ "java/lang/invoke/VarHandle" ∧ (parseMethodDescriptor (xm_mi 5).1.desc).map (fun d => d.parameters.length) = some 3 := by rw [xk5_e]; decide +kernel
theorem xk5_3 : Cond.static (xm_mi 5).1 ∈ xw_ALL := by rw [xk5_e]; exact ww_524
theorem xk6_e : xm_mi 6 = (yX0_threadsAt, cX0_threadsAt, 4, (some .int)) := rfl
theorem xk6_0 : Cond.code (xm_mi 6).1 (xm_mi 6).2.1 (xm_mi 6).2.2.1 (xm_mi 6).2.2.2 ∈ xw_ALL := by rw [xk6_e]; exact ww_330
theorem xk6_2 : Cond.initialized (xm_mi 6).1.cls ∈ xw_ALL := by rw [xk6_e]; exact ww_13
theorem xk6_m : (xm_mi 6).2.2.1 ≤ 21 := by rw [xk6_e]; decide
theorem xk6_d : (xm_mi 6).1.cls ≠ "java/lang/invoke/MethodHandle" ∧ (xm_mi 6).1.cls ≠ "java/lang/invoke/VarHandle" ∧ (parseMethodDescriptor (xm_mi 6).1.desc).map (fun d => d.parameters.length) = some 2 := by rw [xk6_e]; decide +kernel
theorem xk6_3 : Cond.static (xm_mi 6).1 ∈ xw_ALL := by rw [xk6_e]; exact ww_329
theorem xk7_e : xm_mi 7 = (yX0_knotsOf, cX0_knotsOf, 3, (some .int)) := rfl
theorem xk7_0 : Cond.code (xm_mi 7).1 (xm_mi 7).2.1 (xm_mi 7).2.2.1 (xm_mi 7).2.2.2 ∈ xw_ALL := by rw [xk7_e]; exact ww_551
theorem xk7_2 : Cond.initialized (xm_mi 7).1.cls ∈ xw_ALL := by rw [xk7_e]; exact ww_13
theorem xk7_m : (xm_mi 7).2.2.1 ≤ 21 := by rw [xk7_e]; decide
theorem xk7_d : (xm_mi 7).1.cls ≠ "java/lang/invoke/MethodHandle" ∧ (xm_mi 7).1.cls ≠ "java/lang/invoke/VarHandle" ∧ (parseMethodDescriptor (xm_mi 7).1.desc).map (fun d => d.parameters.length) = some 1 := by rw [xk7_e]; decide +kernel
theorem xk7_3 : Cond.static (xm_mi 7).1 ∈ xw_ALL := by rw [xk7_e]; exact ww_550
theorem xk8_e : xm_mi 8 = (yX0_oddKnots, cX0_oddKnots, 3, (some .int)) := rfl
theorem xk8_0 : Cond.code (xm_mi 8).1 (xm_mi 8).2.1 (xm_mi 8).2.2.1 (xm_mi 8).2.2.2 ∈ xw_ALL := by rw [xk8_e]; exact ww_508
theorem xk8_2 : Cond.initialized (xm_mi 8).1.cls ∈ xw_ALL := by rw [xk8_e]; exact ww_13
theorem xk8_m : (xm_mi 8).2.2.1 ≤ 21 := by rw [xk8_e]; decide
theorem xk8_d : (xm_mi 8).1.cls ≠ "java/lang/invoke/MethodHandle" ∧ (xm_mi 8).1.cls ≠ "java/lang/invoke/VarHandle" ∧ (parseMethodDescriptor (xm_mi 8).1.desc).map (fun d => d.parameters.length) = some 1 := by rw [xk8_e]; decide +kernel
theorem xk8_3 : Cond.static (xm_mi 8).1 ∈ xw_ALL := by rw [xk8_e]; exact ww_507
theorem xk9_e : xm_mi 9 = (yX0_firstOf, cX0_firstOf, 2, (some .int)) := rfl
theorem xk9_0 : Cond.code (xm_mi 9).1 (xm_mi 9).2.1 (xm_mi 9).2.2.1 (xm_mi 9).2.2.2 ∈ xw_ALL := by rw [xk9_e]; exact ww_522
theorem xk9_2 : Cond.initialized (xm_mi 9).1.cls ∈ xw_ALL := by rw [xk9_e]; exact ww_13
theorem xk9_m : (xm_mi 9).2.2.1 ≤ 21 := by rw [xk9_e]; decide
theorem xk9_d : (xm_mi 9).1.cls ≠ "java/lang/invoke/MethodHandle" ∧ (xm_mi 9).1.cls ≠ "java/lang/invoke/VarHandle" ∧ (parseMethodDescriptor (xm_mi 9).1.desc).map (fun d => d.parameters.length) = some 1 := by rw [xk9_e]; decide +kernel
theorem xk9_3 : Cond.static (xm_mi 9).1 ∈ xw_ALL := by rw [xk9_e]; exact ww_521
theorem xk10_e : xm_mi 10 = (yX0_firstHole, cX0_firstHole, 2, (some .int)) := rfl
theorem xk10_0 : Cond.code (xm_mi 10).1 (xm_mi 10).2.1 (xm_mi 10).2.2.1 (xm_mi 10).2.2.2 ∈ xw_ALL := by rw [xk10_e]; exact ww_519
theorem xk10_2 : Cond.initialized (xm_mi 10).1.cls ∈ xw_ALL := by rw [xk10_e]; exact ww_13
theorem xk10_m : (xm_mi 10).2.2.1 ≤ 21 := by rw [xk10_e]; decide
theorem xk10_d : (xm_mi 10).1.cls ≠ "java/lang/invoke/MethodHandle" ∧ (xm_mi 10).1.cls ≠ "java/lang/invoke/VarHandle" ∧ (parseMethodDescriptor (xm_mi 10).1.desc).map (fun d => d.parameters.length) = some 1 := by rw [xk10_e]; decide +kernel
theorem xk10_3 : Cond.static (xm_mi 10).1 ∈ xw_ALL := by rw [xk10_e]; exact ww_518
theorem xk11_e : xm_mi 11 = (yX0_holesIn, cX0_holesIn, 4, (some .int)) := rfl
theorem xk11_0 : Cond.code (xm_mi 11).1 (xm_mi 11).2.1 (xm_mi 11).2.2.1 (xm_mi 11).2.2.2 ∈ xw_ALL := by rw [xk11_e]; exact ww_565
theorem xk11_2 : Cond.initialized (xm_mi 11).1.cls ∈ xw_ALL := by rw [xk11_e]; exact ww_13
theorem xk11_m : (xm_mi 11).2.2.1 ≤ 21 := by rw [xk11_e]; decide
theorem xk11_d : (xm_mi 11).1.cls ≠ "java/lang/invoke/MethodHandle" ∧ (xm_mi 11).1.cls ≠ "java/lang/invoke/VarHandle" ∧ (parseMethodDescriptor (xm_mi 11).1.desc).map (fun d => d.parameters.length) = some 1 := by rw [xk11_e]; decide +kernel
theorem xk11_3 : Cond.static (xm_mi 11).1 ∈ xw_ALL := by rw [xk11_e]; exact ww_564
theorem xk12_e : xm_mi 12 = (yX0_holeAt, cX0_holeAt, 4, (some .int)) := rfl
theorem xk12_0 : Cond.code (xm_mi 12).1 (xm_mi 12).2.1 (xm_mi 12).2.2.1 (xm_mi 12).2.2.2 ∈ xw_ALL := by rw [xk12_e]; exact ww_569
theorem xk12_2 : Cond.initialized (xm_mi 12).1.cls ∈ xw_ALL := by rw [xk12_e]; exact ww_13
theorem xk12_m : (xm_mi 12).2.2.1 ≤ 21 := by rw [xk12_e]; decide
theorem xk12_d : (xm_mi 12).1.cls ≠ "java/lang/invoke/MethodHandle" ∧ (xm_mi 12).1.cls ≠ "java/lang/invoke/VarHandle" ∧ (parseMethodDescriptor (xm_mi 12).1.desc).map (fun d => d.parameters.length) = some 2 := by rw [xk12_e]; decide +kernel
theorem xk12_3 : Cond.static (xm_mi 12).1 ∈ xw_ALL := by rw [xk12_e]; exact ww_568
theorem xk13_e : xm_mi 13 = (yX0_greatestOpening, cX0_greatestOpening, 3, (some .int)) := rfl
theorem xk13_0 : Cond.code (xm_mi 13).1 (xm_mi 13).2.1 (xm_mi 13).2.2.1 (xm_mi 13).2.2.2 ∈ xw_ALL := by rw [xk13_e]; exact ww_576
theorem xk13_2 : Cond.initialized (xm_mi 13).1.cls ∈ xw_ALL := by rw [xk13_e]; exact ww_13
theorem xk13_m : (xm_mi 13).2.2.1 ≤ 21 := by rw [xk13_e]; decide
theorem xk13_d : (xm_mi 13).1.cls ≠ "java/lang/invoke/MethodHandle" ∧ (xm_mi 13).1.cls ≠ "java/lang/invoke/VarHandle" ∧ (parseMethodDescriptor (xm_mi 13).1.desc).map (fun d => d.parameters.length) = some 1 := by rw [xk13_e]; decide +kernel
theorem xk13_3 : Cond.static (xm_mi 13).1 ∈ xw_ALL := by rw [xk13_e]; exact ww_575
theorem xk14_e : xm_mi 14 = (yX1_init, cX1_init, 1, none) := rfl
theorem xk14_0 : Cond.code (xm_mi 14).1 (xm_mi 14).2.1 (xm_mi 14).2.2.1 (xm_mi 14).2.2.2 ∈ xw_ALL := by rw [xk14_e]; exact ww_169
theorem xk14_2 : Cond.initialized (xm_mi 14).1.cls ∈ xw_ALL := by rw [xk14_e]; exact ww_7
theorem xk14_m : (xm_mi 14).2.2.1 ≤ 21 := by rw [xk14_e]; decide
theorem xk14_d : (xm_mi 14).1.cls ≠ "java/lang/invoke/MethodHandle" ∧ (xm_mi 14).1.cls ≠ "java/lang/invoke/VarHandle" ∧ (parseMethodDescriptor (xm_mi 14).1.desc).map (fun d => d.parameters.length) = some 0 := by rw [xk14_e]; decide +kernel
theorem xk14_3 : Cond.instanceMethod (xm_mi 14).1 ∈ xw_ALL := by rw [xk14_e]; exact ww_168
theorem xk14_c : vwCl[0]? = some ((xm_mi 14).1.cls, TX1, 5) := by rw [xk14_e]; rfl
theorem xk14_r : (xm_mi 14).2.2.2 = none := by rw [xk14_e]
theorem xk14_n : (xm_mi 14).1.name = "<init>" := by rw [xk14_e]; rfl
theorem xk15_e : xm_mi 15 = (yX1_plan, cX1_plan, 9, none) := rfl
theorem xk15_0 : Cond.code (xm_mi 15).1 (xm_mi 15).2.1 (xm_mi 15).2.2.1 (xm_mi 15).2.2.2 ∈ xw_ALL := by rw [xk15_e]; exact ww_585
theorem xk15_2 : Cond.initialized (xm_mi 15).1.cls ∈ xw_ALL := by rw [xk15_e]; exact ww_7
theorem xk15_m : (xm_mi 15).2.2.1 ≤ 21 := by rw [xk15_e]; decide
theorem xk15_d : (xm_mi 15).1.cls ≠ "java/lang/invoke/MethodHandle" ∧ (xm_mi 15).1.cls ≠ "java/lang/invoke/VarHandle" ∧ (parseMethodDescriptor (xm_mi 15).1.desc).map (fun d => d.parameters.length) = some 3 := by rw [xk15_e]; decide +kernel
theorem xk15_3 : Cond.instanceMethod (xm_mi 15).1 ∈ xw_ALL := by rw [xk15_e]; exact ww_583
theorem xk15_4 : Cond.selects (xm_mi 15).1.cls (xm_mi 15).1 (xm_mi 15).1 ∈ xw_ALL := by rw [xk15_e]; exact ww_584
theorem xk15_c : vwCl[0]? = some ((xm_mi 15).1.cls, TX1, 5) := by rw [xk15_e]; rfl
theorem xk16_e : xm_mi 16 = (yX1_minutesOfTried, cX1_minutesOfTried, 6, (some .int)) := rfl
theorem xk16_0 : Cond.code (xm_mi 16).1 (xm_mi 16).2.1 (xm_mi 16).2.2.1 (xm_mi 16).2.2.2 ∈ xw_ALL := by rw [xk16_e]; exact ww_592
theorem xk16_2 : Cond.initialized (xm_mi 16).1.cls ∈ xw_ALL := by rw [xk16_e]; exact ww_7
theorem xk16_m : (xm_mi 16).2.2.1 ≤ 21 := by rw [xk16_e]; decide
theorem xk16_d : (xm_mi 16).1.cls ≠ "java/lang/invoke/MethodHandle" ∧ (xm_mi 16).1.cls ≠ "java/lang/invoke/VarHandle" ∧ (parseMethodDescriptor (xm_mi 16).1.desc).map (fun d => d.parameters.length) = some 2 := by rw [xk16_e]; decide +kernel
theorem xk16_3 : Cond.instanceMethod (xm_mi 16).1 ∈ xw_ALL := by rw [xk16_e]; exact ww_591
theorem xk16_4 : Cond.selects (xm_mi 16).1.cls (xm_mi 16).1 (xm_mi 16).1 ∈ xw_ALL := by rw [xk16_e]; exact wp_6
theorem xk16_c : vwCl[0]? = some ((xm_mi 16).1.cls, TX1, 5) := by rw [xk16_e]; rfl
theorem xk17_e : xm_mi 17 = (yX2_above, cX2_above, 1, (some .int)) := rfl
theorem xk17_0 : Cond.code (xm_mi 17).1 (xm_mi 17).2.1 (xm_mi 17).2.2.1 (xm_mi 17).2.2.2 ∈ xw_ALL := by rw [xk17_e]; exact ww_352
theorem xk17_2 : Cond.initialized (xm_mi 17).1.cls ∈ xw_ALL := by rw [xk17_e]; exact ww_12
theorem xk17_m : (xm_mi 17).2.2.1 ≤ 21 := by rw [xk17_e]; decide
theorem xk17_d : (xm_mi 17).1.cls ≠ "java/lang/invoke/MethodHandle" ∧ (xm_mi 17).1.cls ≠ "java/lang/invoke/VarHandle" ∧ (parseMethodDescriptor (xm_mi 17).1.desc).map (fun d => d.parameters.length) = some 1 := by rw [xk17_e]; decide +kernel
theorem xk17_3 : Cond.static (xm_mi 17).1 ∈ xw_ALL := by rw [xk17_e]; exact ww_351
theorem xk18_e : xm_mi 18 = (yX2_isUnder, cX2_isUnder, 4, (some .boolean)) := rfl
theorem xk18_0 : Cond.code (xm_mi 18).1 (xm_mi 18).2.1 (xm_mi 18).2.2.1 (xm_mi 18).2.2.2 ∈ xw_ALL := by rw [xk18_e]; exact ww_349
theorem xk18_2 : Cond.initialized (xm_mi 18).1.cls ∈ xw_ALL := by rw [xk18_e]; exact ww_12
theorem xk18_m : (xm_mi 18).2.2.1 ≤ 21 := by rw [xk18_e]; decide
theorem xk18_d : (xm_mi 18).1.cls ≠ "java/lang/invoke/MethodHandle" ∧ (xm_mi 18).1.cls ≠ "java/lang/invoke/VarHandle" ∧ (parseMethodDescriptor (xm_mi 18).1.desc).map (fun d => d.parameters.length) = some 2 := by rw [xk18_e]; decide +kernel
theorem xk18_3 : Cond.static (xm_mi 18).1 ∈ xw_ALL := by rw [xk18_e]; exact ww_348
theorem xk19_e : xm_mi 19 = (yX2_takesOf, cX2_takesOf, 1, (some .int)) := rfl
theorem xk19_0 : Cond.code (xm_mi 19).1 (xm_mi 19).2.1 (xm_mi 19).2.2.1 (xm_mi 19).2.2.2 ∈ xw_ALL := by rw [xk19_e]; exact ww_327
theorem xk19_2 : Cond.initialized (xm_mi 19).1.cls ∈ xw_ALL := by rw [xk19_e]; exact ww_12
theorem xk19_m : (xm_mi 19).2.2.1 ≤ 21 := by rw [xk19_e]; decide
theorem xk19_d : (xm_mi 19).1.cls ≠ "java/lang/invoke/MethodHandle" ∧ (xm_mi 19).1.cls ≠ "java/lang/invoke/VarHandle" ∧ (parseMethodDescriptor (xm_mi 19).1.desc).map (fun d => d.parameters.length) = some 1 := by rw [xk19_e]; decide +kernel
theorem xk19_3 : Cond.static (xm_mi 19).1 ∈ xw_ALL := by rw [xk19_e]; exact ww_326
theorem xk20_e : xm_mi 20 = (yX3_init, cX3_init, 1, none) := rfl
theorem xk20_0 : Cond.code (xm_mi 20).1 (xm_mi 20).2.1 (xm_mi 20).2.2.1 (xm_mi 20).2.2.2 ∈ xw_ALL := by rw [xk20_e]; exact ww_40
theorem xk20_2 : Cond.initialized (xm_mi 20).1.cls ∈ xw_ALL := by rw [xk20_e]; exact ww_4
theorem xk20_m : (xm_mi 20).2.2.1 ≤ 21 := by rw [xk20_e]; decide
theorem xk20_d : (xm_mi 20).1.cls ≠ "java/lang/invoke/MethodHandle" ∧ (xm_mi 20).1.cls ≠ "java/lang/invoke/VarHandle" ∧ (parseMethodDescriptor (xm_mi 20).1.desc).map (fun d => d.parameters.length) = some 0 := by rw [xk20_e]; decide +kernel
theorem xk20_3 : Cond.instanceMethod (xm_mi 20).1 ∈ xw_ALL := by rw [xk20_e]; exact ww_39
theorem xk20_c : vwCl[1]? = some ((xm_mi 20).1.cls, TX3, 3) := by rw [xk20_e]; rfl
theorem xk20_r : (xm_mi 20).2.2.2 = none := by rw [xk20_e]
theorem xk20_n : (xm_mi 20).1.name = "<init>" := by rw [xk20_e]; rfl
theorem xk21_e : xm_mi 21 = (yX3_isThere, cX3_isThere, 1, (some .boolean)) := rfl
theorem xk21_0 : Cond.code (xm_mi 21).1 (xm_mi 21).2.1 (xm_mi 21).2.2.1 (xm_mi 21).2.2.2 ∈ xw_ALL := by rw [xk21_e]; exact ww_307
theorem xk21_2 : Cond.initialized (xm_mi 21).1.cls ∈ xw_ALL := by rw [xk21_e]; exact ww_4
theorem xk21_m : (xm_mi 21).2.2.1 ≤ 21 := by rw [xk21_e]; decide
theorem xk21_d : (xm_mi 21).1.cls ≠ "java/lang/invoke/MethodHandle" ∧ (xm_mi 21).1.cls ≠ "java/lang/invoke/VarHandle" ∧ (parseMethodDescriptor (xm_mi 21).1.desc).map (fun d => d.parameters.length) = some 0 := by rw [xk21_e]; decide +kernel
theorem xk21_3 : Cond.instanceMethod (xm_mi 21).1 ∈ xw_ALL := by rw [xk21_e]; exact ww_305
theorem xk21_4 : Cond.selects (xm_mi 21).1.cls (xm_mi 21).1 (xm_mi 21).1 ∈ xw_ALL := by rw [xk21_e]; exact ww_306
theorem xk21_c : vwCl[1]? = some ((xm_mi 21).1.cls, TX3, 3) := by rw [xk21_e]; rfl
theorem xk22_e : xm_mi 22 = (yX3_forget, cX3_forget, 1, none) := rfl
theorem xk22_0 : Cond.code (xm_mi 22).1 (xm_mi 22).2.1 (xm_mi 22).2.2.1 (xm_mi 22).2.2.2 ∈ xw_ALL := by rw [xk22_e]; exact ww_418
theorem xk22_2 : Cond.initialized (xm_mi 22).1.cls ∈ xw_ALL := by rw [xk22_e]; exact ww_4
theorem xk22_m : (xm_mi 22).2.2.1 ≤ 21 := by rw [xk22_e]; decide
theorem xk22_d : (xm_mi 22).1.cls ≠ "java/lang/invoke/MethodHandle" ∧ (xm_mi 22).1.cls ≠ "java/lang/invoke/VarHandle" ∧ (parseMethodDescriptor (xm_mi 22).1.desc).map (fun d => d.parameters.length) = some 0 := by rw [xk22_e]; decide +kernel
theorem xk22_3 : Cond.instanceMethod (xm_mi 22).1 ∈ xw_ALL := by rw [xk22_e]; exact ww_416
theorem xk22_4 : Cond.selects (xm_mi 22).1.cls (xm_mi 22).1 (xm_mi 22).1 ∈ xw_ALL := by rw [xk22_e]; exact ww_417
theorem xk22_c : vwCl[1]? = some ((xm_mi 22).1.cls, TX3, 3) := by rw [xk22_e]; rfl
theorem xk23_e : xm_mi 23 = (yX3_become, cX3_become, 2, none) := rfl
theorem xk23_0 : Cond.code (xm_mi 23).1 (xm_mi 23).2.1 (xm_mi 23).2.2.1 (xm_mi 23).2.2.2 ∈ xw_ALL := by rw [xk23_e]; exact ww_459
theorem xk23_2 : Cond.initialized (xm_mi 23).1.cls ∈ xw_ALL := by rw [xk23_e]; exact ww_4
theorem xk23_m : (xm_mi 23).2.2.1 ≤ 21 := by rw [xk23_e]; decide
theorem xk23_d : (xm_mi 23).1.cls ≠ "java/lang/invoke/MethodHandle" ∧ (xm_mi 23).1.cls ≠ "java/lang/invoke/VarHandle" ∧ (parseMethodDescriptor (xm_mi 23).1.desc).map (fun d => d.parameters.length) = some 1 := by rw [xk23_e]; decide +kernel
theorem xk23_3 : Cond.instanceMethod (xm_mi 23).1 ∈ xw_ALL := by rw [xk23_e]; exact ww_457
theorem xk23_4 : Cond.selects (xm_mi 23).1.cls (xm_mi 23).1 (xm_mi 23).1 ∈ xw_ALL := by rw [xk23_e]; exact ww_458
theorem xk23_c : vwCl[1]? = some ((xm_mi 23).1.cls, TX3, 3) := by rw [xk23_e]; rfl
theorem xk24_e : xm_mi 24 = (yX3_add, cX3_add, 2, none) := rfl
theorem xk24_0 : Cond.code (xm_mi 24).1 (xm_mi 24).2.1 (xm_mi 24).2.2.1 (xm_mi 24).2.2.2 ∈ xw_ALL := by rw [xk24_e]; exact ww_436
theorem xk24_2 : Cond.initialized (xm_mi 24).1.cls ∈ xw_ALL := by rw [xk24_e]; exact ww_4
theorem xk24_m : (xm_mi 24).2.2.1 ≤ 21 := by rw [xk24_e]; decide
theorem xk24_d : (xm_mi 24).1.cls ≠ "java/lang/invoke/MethodHandle" ∧ (xm_mi 24).1.cls ≠ "java/lang/invoke/VarHandle" ∧ (parseMethodDescriptor (xm_mi 24).1.desc).map (fun d => d.parameters.length) = some 1 := by rw [xk24_e]; decide +kernel
theorem xk24_3 : Cond.instanceMethod (xm_mi 24).1 ∈ xw_ALL := by rw [xk24_e]; exact ww_434
theorem xk24_4 : Cond.selects (xm_mi 24).1.cls (xm_mi 24).1 (xm_mi 24).1 ∈ xw_ALL := by rw [xk24_e]; exact ww_435
theorem xk24_c : vwCl[1]? = some ((xm_mi 24).1.cls, TX3, 3) := by rw [xk24_e]; rfl
theorem xk25_e : xm_mi 25 = (yX3_worth, cX3_worth, 7, (some .int)) := rfl
theorem xk25_0 : Cond.code (xm_mi 25).1 (xm_mi 25).2.1 (xm_mi 25).2.2.1 (xm_mi 25).2.2.2 ∈ xw_ALL := by rw [xk25_e]; exact ww_311
theorem xk25_2 : Cond.initialized (xm_mi 25).1.cls ∈ xw_ALL := by rw [xk25_e]; exact ww_4
theorem xk25_m : (xm_mi 25).2.2.1 ≤ 21 := by rw [xk25_e]; decide
theorem xk25_d : (xm_mi 25).1.cls ≠ "java/lang/invoke/MethodHandle" ∧ (xm_mi 25).1.cls ≠ "java/lang/invoke/VarHandle" ∧ (parseMethodDescriptor (xm_mi 25).1.desc).map (fun d => d.parameters.length) = some 3 := by rw [xk25_e]; decide +kernel
theorem xk25_3 : Cond.instanceMethod (xm_mi 25).1 ∈ xw_ALL := by rw [xk25_e]; exact ww_309
theorem xk25_4 : Cond.selects (xm_mi 25).1.cls (xm_mi 25).1 (xm_mi 25).1 ∈ xw_ALL := by rw [xk25_e]; exact ww_310
theorem xk25_c : vwCl[1]? = some ((xm_mi 25).1.cls, TX3, 3) := by rw [xk25_e]; rfl
theorem xk26_e : xm_mi 26 = (yX3_valueOf, cX3_valueOf, 4, (some .int)) := rfl
theorem xk26_0 : Cond.code (xm_mi 26).1 (xm_mi 26).2.1 (xm_mi 26).2.2.1 (xm_mi 26).2.2.2 ∈ xw_ALL := by rw [xk26_e]; exact ww_314
theorem xk26_2 : Cond.initialized (xm_mi 26).1.cls ∈ xw_ALL := by rw [xk26_e]; exact ww_4
theorem xk26_m : (xm_mi 26).2.2.1 ≤ 21 := by rw [xk26_e]; decide
theorem xk26_d : (xm_mi 26).1.cls ≠ "java/lang/invoke/MethodHandle" ∧ (xm_mi 26).1.cls ≠ "java/lang/invoke/VarHandle" ∧ (parseMethodDescriptor (xm_mi 26).1.desc).map (fun d => d.parameters.length) = some 4 := by rw [xk26_e]; decide +kernel
theorem xk26_3 : Cond.static (xm_mi 26).1 ∈ xw_ALL := by rw [xk26_e]; exact ww_313
theorem xk27_e : xm_mi 27 = (yX3_join, cX3_join, 3, (some .int)) := rfl
theorem xk27_0 : Cond.code (xm_mi 27).1 (xm_mi 27).2.1 (xm_mi 27).2.2.1 (xm_mi 27).2.2.2 ∈ xw_ALL := by rw [xk27_e]; exact ww_317
theorem xk27_2 : Cond.initialized (xm_mi 27).1.cls ∈ xw_ALL := by rw [xk27_e]; exact ww_4
theorem xk27_m : (xm_mi 27).2.2.1 ≤ 21 := by rw [xk27_e]; decide
theorem xk27_d : (xm_mi 27).1.cls ≠ "java/lang/invoke/MethodHandle" ∧ (xm_mi 27).1.cls ≠ "java/lang/invoke/VarHandle" ∧ (parseMethodDescriptor (xm_mi 27).1.desc).map (fun d => d.parameters.length) = some 3 := by rw [xk27_e]; decide +kernel
theorem xk27_3 : Cond.static (xm_mi 27).1 ∈ xw_ALL := by rw [xk27_e]; exact ww_316
theorem xk28_e : xm_mi 28 = (yX4_init, cX4_init, 1, none) := rfl
theorem xk28_0 : Cond.code (xm_mi 28).1 (xm_mi 28).2.1 (xm_mi 28).2.2.1 (xm_mi 28).2.2.2 ∈ xw_ALL := by rw [xk28_e]; exact ww_158
theorem xk28_2 : Cond.initialized (xm_mi 28).1.cls ∈ xw_ALL := by rw [xk28_e]; exact ww_6
theorem xk28_m : (xm_mi 28).2.2.1 ≤ 21 := by rw [xk28_e]; decide
theorem xk28_d : (xm_mi 28).1.cls ≠ "java/lang/invoke/MethodHandle" ∧ (xm_mi 28).1.cls ≠ "java/lang/invoke/VarHandle" ∧ (parseMethodDescriptor (xm_mi 28).1.desc).map (fun d => d.parameters.length) = some 0 := by rw [xk28_e]; decide +kernel
theorem xk28_3 : Cond.instanceMethod (xm_mi 28).1 ∈ xw_ALL := by rw [xk28_e]; exact ww_157
theorem xk28_c : vwCl[2]? = some ((xm_mi 28).1.cls, TX4, 1) := by rw [xk28_e]; rfl
theorem xk28_r : (xm_mi 28).2.2.2 = none := by rw [xk28_e]
theorem xk28_n : (xm_mi 28).1.name = "<init>" := by rw [xk28_e]; rfl
theorem xk29_e : xm_mi 29 = (yX4_isOneRun, cX4_isOneRun, 1, (some .boolean)) := rfl
theorem xk29_0 : Cond.code (xm_mi 29).1 (xm_mi 29).2.1 (xm_mi 29).2.2.1 (xm_mi 29).2.2.2 ∈ xw_ALL := by rw [xk29_e]; exact ww_511
theorem xk29_2 : Cond.initialized (xm_mi 29).1.cls ∈ xw_ALL := by rw [xk29_e]; exact ww_6
theorem xk29_m : (xm_mi 29).2.2.1 ≤ 21 := by rw [xk29_e]; decide
theorem xk29_d : (xm_mi 29).1.cls ≠ "java/lang/invoke/MethodHandle" ∧ (xm_mi 29).1.cls ≠ "java/lang/invoke/VarHandle" ∧ (parseMethodDescriptor (xm_mi 29).1.desc).map (fun d => d.parameters.length) = some 1 := by rw [xk29_e]; decide +kernel
theorem xk29_3 : Cond.static (xm_mi 29).1 ∈ xw_ALL := by rw [xk29_e]; exact ww_510
theorem xk30_e : xm_mi 30 = (yX4_isOneRunBy, cX4_isOneRunBy, 3, (some .boolean)) := rfl
theorem xk30_0 : Cond.code (xm_mi 30).1 (xm_mi 30).2.1 (xm_mi 30).2.2.1 (xm_mi 30).2.2.2 ∈ xw_ALL := by rw [xk30_e]; exact ww_515
theorem xk30_2 : Cond.initialized (xm_mi 30).1.cls ∈ xw_ALL := by rw [xk30_e]; exact ww_6
theorem xk30_m : (xm_mi 30).2.2.1 ≤ 21 := by rw [xk30_e]; decide
theorem xk30_d : (xm_mi 30).1.cls ≠ "java/lang/invoke/MethodHandle" ∧ (xm_mi 30).1.cls ≠ "java/lang/invoke/VarHandle" ∧ (parseMethodDescriptor (xm_mi 30).1.desc).map (fun d => d.parameters.length) = some 2 := by rw [xk30_e]; decide +kernel
theorem xk30_3 : Cond.static (xm_mi 30).1 ∈ xw_ALL := by rw [xk30_e]; exact ww_514
theorem xk31_e : xm_mi 31 = (yX4_fewestCuts, cX4_fewestCuts, 4, (some .int)) := rfl
theorem xk31_0 : Cond.code (xm_mi 31).1 (xm_mi 31).2.1 (xm_mi 31).2.2.1 (xm_mi 31).2.2.2 ∈ xw_ALL := by rw [xk31_e]; exact ww_537
theorem xk31_2 : Cond.initialized (xm_mi 31).1.cls ∈ xw_ALL := by rw [xk31_e]; exact ww_6
theorem xk31_m : (xm_mi 31).2.2.1 ≤ 21 := by rw [xk31_e]; decide
theorem xk31_d : (xm_mi 31).1.cls ≠ "java/lang/invoke/MethodHandle" ∧ (xm_mi 31).1.cls ≠ "java/lang/invoke/VarHandle" ∧ (parseMethodDescriptor (xm_mi 31).1.desc).map (fun d => d.parameters.length) = some 1 := by rw [xk31_e]; decide +kernel
theorem xk31_3 : Cond.instanceMethod (xm_mi 31).1 ∈ xw_ALL := by rw [xk31_e]; exact ww_535
theorem xk31_4 : Cond.selects (xm_mi 31).1.cls (xm_mi 31).1 (xm_mi 31).1 ∈ xw_ALL := by rw [xk31_e]; exact ww_536
theorem xk31_c : vwCl[2]? = some ((xm_mi 31).1.cls, TX4, 1) := by rw [xk31_e]; rfl
theorem xk32_e : xm_mi 32 = (yX4_choose, cX4_choose, 7, (some .boolean)) := rfl
theorem xk32_0 : Cond.code (xm_mi 32).1 (xm_mi 32).2.1 (xm_mi 32).2.2.1 (xm_mi 32).2.2.2 ∈ xw_ALL := by rw [xk32_e]; exact ww_540
theorem xk32_2 : Cond.initialized (xm_mi 32).1.cls ∈ xw_ALL := by rw [xk32_e]; exact ww_6
theorem xk32_m : (xm_mi 32).2.2.1 ≤ 21 := by rw [xk32_e]; decide
theorem xk32_d : (xm_mi 32).1.cls ≠ "java/lang/invoke/MethodHandle" ∧ (xm_mi 32).1.cls ≠ "java/lang/invoke/VarHandle" ∧ (parseMethodDescriptor (xm_mi 32).1.desc).map (fun d => d.parameters.length) = some 6 := by rw [xk32_e]; decide +kernel
theorem xk32_3 : Cond.static (xm_mi 32).1 ∈ xw_ALL := by rw [xk32_e]; exact ww_539
theorem xk33_e : xm_mi 33 = (yX4_wayKnot, cX4_wayKnot, 8, (some .int)) := rfl
theorem xk33_0 : Cond.code (xm_mi 33).1 (xm_mi 33).2.1 (xm_mi 33).2.2.1 (xm_mi 33).2.2.2 ∈ xw_ALL := by rw [xk33_e]; exact ww_548
theorem xk33_2 : Cond.initialized (xm_mi 33).1.cls ∈ xw_ALL := by rw [xk33_e]; exact ww_6
theorem xk33_m : (xm_mi 33).2.2.1 ≤ 21 := by rw [xk33_e]; decide
theorem xk33_d : (xm_mi 33).1.cls ≠ "java/lang/invoke/MethodHandle" ∧ (xm_mi 33).1.cls ≠ "java/lang/invoke/VarHandle" ∧ (parseMethodDescriptor (xm_mi 33).1.desc).map (fun d => d.parameters.length) = some 2 := by rw [xk33_e]; decide +kernel
theorem xk33_3 : Cond.static (xm_mi 33).1 ∈ xw_ALL := by rw [xk33_e]; exact ww_547
theorem xk34_e : xm_mi 34 = (yX4_nextKnot, cX4_nextKnot, 5, (some .int)) := rfl
theorem xk34_0 : Cond.code (xm_mi 34).1 (xm_mi 34).2.1 (xm_mi 34).2.2.1 (xm_mi 34).2.2.2 ∈ xw_ALL := by rw [xk34_e]; exact ww_555
theorem xk34_2 : Cond.initialized (xm_mi 34).1.cls ∈ xw_ALL := by rw [xk34_e]; exact ww_6
theorem xk34_m : (xm_mi 34).2.2.1 ≤ 21 := by rw [xk34_e]; decide
theorem xk34_d : (xm_mi 34).1.cls ≠ "java/lang/invoke/MethodHandle" ∧ (xm_mi 34).1.cls ≠ "java/lang/invoke/VarHandle" ∧ (parseMethodDescriptor (xm_mi 34).1.desc).map (fun d => d.parameters.length) = some 2 := by rw [xk34_e]; decide +kernel
theorem xk34_3 : Cond.static (xm_mi 34).1 ∈ xw_ALL := by rw [xk34_e]; exact ww_554
theorem xk35_e : xm_mi 35 = (yX5_init, cX5_init, 2, none) := rfl
theorem xk35_0 : Cond.code (xm_mi 35).1 (xm_mi 35).2.1 (xm_mi 35).2.2.1 (xm_mi 35).2.2.2 ∈ xw_ALL := by rw [xk35_e]; exact ww_34
theorem xk35_2 : Cond.initialized (xm_mi 35).1.cls ∈ xw_ALL := by rw [xk35_e]; exact ww_3
theorem xk35_m : (xm_mi 35).2.2.1 ≤ 21 := by rw [xk35_e]; decide
theorem xk35_d : (xm_mi 35).1.cls ≠ "java/lang/invoke/MethodHandle" ∧ (xm_mi 35).1.cls ≠ "java/lang/invoke/VarHandle" ∧ (parseMethodDescriptor (xm_mi 35).1.desc).map (fun d => d.parameters.length) = some 0 := by rw [xk35_e]; decide +kernel
theorem xk35_3 : Cond.instanceMethod (xm_mi 35).1 ∈ xw_ALL := by rw [xk35_e]; exact ww_33
theorem xk35_c : vwCl[3]? = some ((xm_mi 35).1.cls, TX5, 11) := by rw [xk35_e]; rfl
theorem xk35_r : (xm_mi 35).2.2.2 = none := by rw [xk35_e]
theorem xk35_n : (xm_mi 35).1.name = "<init>" := by rw [xk35_e]; rfl
theorem xk36_e : xm_mi 36 = (yX5_become, cX5_become, 2, none) := rfl
theorem xk36_0 : Cond.code (xm_mi 36).1 (xm_mi 36).2.1 (xm_mi 36).2.2.1 (xm_mi 36).2.2.2 ∈ xw_ALL := by rw [xk36_e]; exact ww_637
theorem xk36_2 : Cond.initialized (xm_mi 36).1.cls ∈ xw_ALL := by rw [xk36_e]; exact ww_3
theorem xk36_m : (xm_mi 36).2.2.1 ≤ 21 := by rw [xk36_e]; decide
theorem xk36_d : (xm_mi 36).1.cls ≠ "java/lang/invoke/MethodHandle" ∧ (xm_mi 36).1.cls ≠ "java/lang/invoke/VarHandle" ∧ (parseMethodDescriptor (xm_mi 36).1.desc).map (fun d => d.parameters.length) = some 1 := by rw [xk36_e]; decide +kernel
theorem xk36_3 : Cond.instanceMethod (xm_mi 36).1 ∈ xw_ALL := by rw [xk36_e]; exact ww_635
theorem xk36_4 : Cond.selects (xm_mi 36).1.cls (xm_mi 36).1 (xm_mi 36).1 ∈ xw_ALL := by rw [xk36_e]; exact ww_636
theorem xk36_c : vwCl[3]? = some ((xm_mi 36).1.cls, TX5, 11) := by rw [xk36_e]; rfl
theorem xk37_e : xm_mi 37 = (yX5_lawOf, cX5_lawOf, 2, (some (.object "NetMender$Law"))) := rfl
theorem xk37_0 : Cond.code (xm_mi 37).1 (xm_mi 37).2.1 (xm_mi 37).2.2.1 (xm_mi 37).2.2.2 ∈ xw_ALL := by rw [xk37_e]; exact ww_455
theorem xk37_2 : Cond.initialized (xm_mi 37).1.cls ∈ xw_ALL := by rw [xk37_e]; exact ww_3
theorem xk37_m : (xm_mi 37).2.2.1 ≤ 21 := by rw [xk37_e]; decide
theorem xk37_d : (xm_mi 37).1.cls ≠ "java/lang/invoke/MethodHandle" ∧ (xm_mi 37).1.cls ≠ "java/lang/invoke/VarHandle" ∧ (parseMethodDescriptor (xm_mi 37).1.desc).map (fun d => d.parameters.length) = some 1 := by rw [xk37_e]; decide +kernel
theorem xk37_3 : Cond.instanceMethod (xm_mi 37).1 ∈ xw_ALL := by rw [xk37_e]; exact ww_453
theorem xk37_4 : Cond.selects (xm_mi 37).1.cls (xm_mi 37).1 (xm_mi 37).1 ∈ xw_ALL := by rw [xk37_e]; exact ww_454
theorem xk37_c : vwCl[3]? = some ((xm_mi 37).1.cls, TX5, 11) := by rw [xk37_e]; rfl
theorem xk38_e : xm_mi 38 = (yX5_tieAnew, cX5_tieAnew, 3, none) := rfl
theorem xk38_0 : Cond.code (xm_mi 38).1 (xm_mi 38).2.1 (xm_mi 38).2.2.1 (xm_mi 38).2.2.2 ∈ xw_ALL := by rw [xk38_e]; exact ww_292
theorem xk38_2 : Cond.initialized (xm_mi 38).1.cls ∈ xw_ALL := by rw [xk38_e]; exact ww_3
theorem xk38_m : (xm_mi 38).2.2.1 ≤ 21 := by rw [xk38_e]; decide
theorem xk38_d : (xm_mi 38).1.cls ≠ "java/lang/invoke/MethodHandle" ∧ (xm_mi 38).1.cls ≠ "java/lang/invoke/VarHandle" ∧ (parseMethodDescriptor (xm_mi 38).1.desc).map (fun d => d.parameters.length) = some 2 := by rw [xk38_e]; decide +kernel
theorem xk38_3 : Cond.instanceMethod (xm_mi 38).1 ∈ xw_ALL := by rw [xk38_e]; exact ww_290
theorem xk38_4 : Cond.selects (xm_mi 38).1.cls (xm_mi 38).1 (xm_mi 38).1 ∈ xw_ALL := by rw [xk38_e]; exact ww_291
theorem xk38_c : vwCl[3]? = some ((xm_mi 38).1.cls, TX5, 11) := by rw [xk38_e]; rfl
theorem xk39_e : xm_mi 39 = (yX5_holdsOf, cX5_holdsOf, 8, (some .int)) := rfl
theorem xk39_0 : Cond.code (xm_mi 39).1 (xm_mi 39).2.1 (xm_mi 39).2.2.1 (xm_mi 39).2.2.2 ∈ xw_ALL := by rw [xk39_e]; exact ww_300
theorem xk39_2 : Cond.initialized (xm_mi 39).1.cls ∈ xw_ALL := by rw [xk39_e]; exact ww_3
theorem xk39_m : (xm_mi 39).2.2.1 ≤ 21 := by rw [xk39_e]; decide
theorem xk39_d : (xm_mi 39).1.cls ≠ "java/lang/invoke/MethodHandle" ∧ (xm_mi 39).1.cls ≠ "java/lang/invoke/VarHandle" ∧ (parseMethodDescriptor (xm_mi 39).1.desc).map (fun d => d.parameters.length) = some 1 := by rw [xk39_e]; decide +kernel
theorem xk39_3 : Cond.instanceMethod (xm_mi 39).1 ∈ xw_ALL := by rw [xk39_e]; exact ww_298
theorem xk39_4 : Cond.selects (xm_mi 39).1.cls (xm_mi 39).1 (xm_mi 39).1 ∈ xw_ALL := by rw [xk39_e]; exact ww_299
theorem xk39_c : vwCl[3]? = some ((xm_mi 39).1.cls, TX5, 11) := by rw [xk39_e]; rfl
theorem xk40_e : xm_mi 40 = (yX5_wearsOf, cX5_wearsOf, 2, (some .int)) := rfl
theorem xk40_0 : Cond.code (xm_mi 40).1 (xm_mi 40).2.1 (xm_mi 40).2.2.1 (xm_mi 40).2.2.2 ∈ xw_ALL := by rw [xk40_e]; exact ww_614
theorem xk40_2 : Cond.initialized (xm_mi 40).1.cls ∈ xw_ALL := by rw [xk40_e]; exact ww_3
theorem xk40_m : (xm_mi 40).2.2.1 ≤ 21 := by rw [xk40_e]; decide
theorem xk40_d : (xm_mi 40).1.cls ≠ "java/lang/invoke/MethodHandle" ∧ (xm_mi 40).1.cls ≠ "java/lang/invoke/VarHandle" ∧ (parseMethodDescriptor (xm_mi 40).1.desc).map (fun d => d.parameters.length) = some 1 := by rw [xk40_e]; decide +kernel
theorem xk40_3 : Cond.instanceMethod (xm_mi 40).1 ∈ xw_ALL := by rw [xk40_e]; exact ww_612
theorem xk40_4 : Cond.selects (xm_mi 40).1.cls (xm_mi 40).1 (xm_mi 40).1 ∈ xw_ALL := by rw [xk40_e]; exact ww_613
theorem xk40_c : vwCl[3]? = some ((xm_mi 40).1.cls, TX5, 11) := by rw [xk40_e]; rfl
theorem xk41_e : xm_mi 41 = (yX5_strengthOf, cX5_strengthOf, 2, (some .int)) := rfl
theorem xk41_0 : Cond.code (xm_mi 41).1 (xm_mi 41).2.1 (xm_mi 41).2.2.1 (xm_mi 41).2.2.2 ∈ xw_ALL := by rw [xk41_e]; exact ww_369
theorem xk41_2 : Cond.initialized (xm_mi 41).1.cls ∈ xw_ALL := by rw [xk41_e]; exact ww_3
theorem xk41_m : (xm_mi 41).2.2.1 ≤ 21 := by rw [xk41_e]; decide
theorem xk41_d : (xm_mi 41).1.cls ≠ "java/lang/invoke/MethodHandle" ∧ (xm_mi 41).1.cls ≠ "java/lang/invoke/VarHandle" ∧ (parseMethodDescriptor (xm_mi 41).1.desc).map (fun d => d.parameters.length) = some 1 := by rw [xk41_e]; decide +kernel
theorem xk41_3 : Cond.instanceMethod (xm_mi 41).1 ∈ xw_ALL := by rw [xk41_e]; exact ww_367
theorem xk41_4 : Cond.selects (xm_mi 41).1.cls (xm_mi 41).1 (xm_mi 41).1 ∈ xw_ALL := by rw [xk41_e]; exact ww_368
theorem xk41_c : vwCl[3]? = some ((xm_mi 41).1.cls, TX5, 11) := by rw [xk41_e]; rfl
theorem xk42_e : xm_mi 42 = (yX5_threadFact, cX5_threadFact, 3, (some .int)) := rfl
theorem xk42_0 : Cond.code (xm_mi 42).1 (xm_mi 42).2.1 (xm_mi 42).2.2.1 (xm_mi 42).2.2.2 ∈ xw_ALL := by rw [xk42_e]; exact ww_361
theorem xk42_2 : Cond.initialized (xm_mi 42).1.cls ∈ xw_ALL := by rw [xk42_e]; exact ww_3
theorem xk42_m : (xm_mi 42).2.2.1 ≤ 21 := by rw [xk42_e]; decide
theorem xk42_d : (xm_mi 42).1.cls ≠ "java/lang/invoke/MethodHandle" ∧ (xm_mi 42).1.cls ≠ "java/lang/invoke/VarHandle" ∧ (parseMethodDescriptor (xm_mi 42).1.desc).map (fun d => d.parameters.length) = some 2 := by rw [xk42_e]; decide +kernel
theorem xk42_3 : Cond.instanceMethod (xm_mi 42).1 ∈ xw_ALL := by rw [xk42_e]; exact ww_359
theorem xk42_4 : Cond.selects (xm_mi 42).1.cls (xm_mi 42).1 (xm_mi 42).1 ∈ xw_ALL := by rw [xk42_e]; exact ww_360
theorem xk42_c : vwCl[3]? = some ((xm_mi 42).1.cls, TX5, 11) := by rw [xk42_e]; rfl
theorem xk43_e : xm_mi 43 = (yX5_isMissing, cX5_isMissing, 2, (some .boolean)) := rfl
theorem xk43_0 : Cond.code (xm_mi 43).1 (xm_mi 43).2.1 (xm_mi 43).2.2.1 (xm_mi 43).2.2.2 ∈ xw_ALL := by rw [xk43_e]; exact ww_365
theorem xk43_2 : Cond.initialized (xm_mi 43).1.cls ∈ xw_ALL := by rw [xk43_e]; exact ww_3
theorem xk43_m : (xm_mi 43).2.2.1 ≤ 21 := by rw [xk43_e]; decide
theorem xk43_d : (xm_mi 43).1.cls ≠ "java/lang/invoke/MethodHandle" ∧ (xm_mi 43).1.cls ≠ "java/lang/invoke/VarHandle" ∧ (parseMethodDescriptor (xm_mi 43).1.desc).map (fun d => d.parameters.length) = some 1 := by rw [xk43_e]; decide +kernel
theorem xk43_3 : Cond.instanceMethod (xm_mi 43).1 ∈ xw_ALL := by rw [xk43_e]; exact ww_363
theorem xk43_4 : Cond.selects (xm_mi 43).1.cls (xm_mi 43).1 (xm_mi 43).1 ∈ xw_ALL := by rw [xk43_e]; exact ww_364
theorem xk43_c : vwCl[3]? = some ((xm_mi 43).1.cls, TX5, 11) := by rw [xk43_e]; rfl
theorem xk44_e : xm_mi 44 = (yX5_missingThreads, cX5_missingThreads, 1, (some .int)) := rfl
theorem xk44_0 : Cond.code (xm_mi 44).1 (xm_mi 44).2.1 (xm_mi 44).2.2.1 (xm_mi 44).2.2.2 ∈ xw_ALL := by rw [xk44_e]; exact ww_388
theorem xk44_2 : Cond.initialized (xm_mi 44).1.cls ∈ xw_ALL := by rw [xk44_e]; exact ww_3
theorem xk44_m : (xm_mi 44).2.2.1 ≤ 21 := by rw [xk44_e]; decide
theorem xk44_d : (xm_mi 44).1.cls ≠ "java/lang/invoke/MethodHandle" ∧ (xm_mi 44).1.cls ≠ "java/lang/invoke/VarHandle" ∧ (parseMethodDescriptor (xm_mi 44).1.desc).map (fun d => d.parameters.length) = some 0 := by rw [xk44_e]; decide +kernel
theorem xk44_3 : Cond.instanceMethod (xm_mi 44).1 ∈ xw_ALL := by rw [xk44_e]; exact ww_386
theorem xk44_4 : Cond.selects (xm_mi 44).1.cls (xm_mi 44).1 (xm_mi 44).1 ∈ xw_ALL := by rw [xk44_e]; exact ww_387
theorem xk44_c : vwCl[3]? = some ((xm_mi 44).1.cls, TX5, 11) := by rw [xk44_e]; rfl
theorem xk45_e : xm_mi 45 = (yX5_firstThreads, cX5_firstThreads, 3, (some .int)) := rfl
theorem xk45_0 : Cond.code (xm_mi 45).1 (xm_mi 45).2.1 (xm_mi 45).2.2.1 (xm_mi 45).2.2.2 ∈ xw_ALL := by rw [xk45_e]; exact ww_752
theorem xk45_2 : Cond.initialized (xm_mi 45).1.cls ∈ xw_ALL := by rw [xk45_e]; exact ww_3
theorem xk45_m : (xm_mi 45).2.2.1 ≤ 21 := by rw [xk45_e]; decide
theorem xk45_d : (xm_mi 45).1.cls ≠ "java/lang/invoke/MethodHandle" ∧ (xm_mi 45).1.cls ≠ "java/lang/invoke/VarHandle" ∧ (parseMethodDescriptor (xm_mi 45).1.desc).map (fun d => d.parameters.length) = some 0 := by rw [xk45_e]; decide +kernel
theorem xk45_3 : Cond.instanceMethod (xm_mi 45).1 ∈ xw_ALL := by rw [xk45_e]; exact ww_750
theorem xk45_4 : Cond.selects (xm_mi 45).1.cls (xm_mi 45).1 (xm_mi 45).1 ∈ xw_ALL := by rw [xk45_e]; exact ww_751
theorem xk45_c : vwCl[3]? = some ((xm_mi 45).1.cls, TX5, 11) := by rw [xk45_e]; rfl
theorem xk46_e : xm_mi 46 = (yX5_wornInAll, cX5_wornInAll, 3, (some .int)) := rfl
theorem xk46_0 : Cond.code (xm_mi 46).1 (xm_mi 46).2.1 (xm_mi 46).2.2.1 (xm_mi 46).2.2.2 ∈ xw_ALL := by rw [xk46_e]; exact ww_756
theorem xk46_2 : Cond.initialized (xm_mi 46).1.cls ∈ xw_ALL := by rw [xk46_e]; exact ww_3
theorem xk46_m : (xm_mi 46).2.2.1 ≤ 21 := by rw [xk46_e]; decide
theorem xk46_d : (xm_mi 46).1.cls ≠ "java/lang/invoke/MethodHandle" ∧ (xm_mi 46).1.cls ≠ "java/lang/invoke/VarHandle" ∧ (parseMethodDescriptor (xm_mi 46).1.desc).map (fun d => d.parameters.length) = some 0 := by rw [xk46_e]; decide +kernel
theorem xk46_3 : Cond.instanceMethod (xm_mi 46).1 ∈ xw_ALL := by rw [xk46_e]; exact ww_754
theorem xk46_4 : Cond.selects (xm_mi 46).1.cls (xm_mi 46).1 (xm_mi 46).1 ∈ xw_ALL := by rw [xk46_e]; exact ww_755
theorem xk46_c : vwCl[3]? = some ((xm_mi 46).1.cls, TX5, 11) := by rw [xk46_e]; rfl
theorem xk47_e : xm_mi 47 = (yX5_lose, cX5_lose, 2, none) := rfl
theorem xk47_0 : Cond.code (xm_mi 47).1 (xm_mi 47).2.1 (xm_mi 47).2.2.1 (xm_mi 47).2.2.2 ∈ xw_ALL := by rw [xk47_e]; exact ww_384
theorem xk47_2 : Cond.initialized (xm_mi 47).1.cls ∈ xw_ALL := by rw [xk47_e]; exact ww_3
theorem xk47_m : (xm_mi 47).2.2.1 ≤ 21 := by rw [xk47_e]; decide
theorem xk47_d : (xm_mi 47).1.cls ≠ "java/lang/invoke/MethodHandle" ∧ (xm_mi 47).1.cls ≠ "java/lang/invoke/VarHandle" ∧ (parseMethodDescriptor (xm_mi 47).1.desc).map (fun d => d.parameters.length) = some 1 := by rw [xk47_e]; decide +kernel
theorem xk47_3 : Cond.instanceMethod (xm_mi 47).1 ∈ xw_ALL := by rw [xk47_e]; exact ww_382
theorem xk47_4 : Cond.selects (xm_mi 47).1.cls (xm_mi 47).1 (xm_mi 47).1 ∈ xw_ALL := by rw [xk47_e]; exact ww_383
theorem xk47_c : vwCl[3]? = some ((xm_mi 47).1.cls, TX5, 11) := by rw [xk47_e]; rfl
theorem xk48_e : xm_mi 48 = (yX5_renew, cX5_renew, 2, none) := rfl
theorem xk48_0 : Cond.code (xm_mi 48).1 (xm_mi 48).2.1 (xm_mi 48).2.2.1 (xm_mi 48).2.2.2 ∈ xw_ALL := by rw [xk48_e]; exact ww_500
theorem xk48_2 : Cond.initialized (xm_mi 48).1.cls ∈ xw_ALL := by rw [xk48_e]; exact ww_3
theorem xk48_m : (xm_mi 48).2.2.1 ≤ 21 := by rw [xk48_e]; decide
theorem xk48_d : (xm_mi 48).1.cls ≠ "java/lang/invoke/MethodHandle" ∧ (xm_mi 48).1.cls ≠ "java/lang/invoke/VarHandle" ∧ (parseMethodDescriptor (xm_mi 48).1.desc).map (fun d => d.parameters.length) = some 1 := by rw [xk48_e]; decide +kernel
theorem xk48_3 : Cond.instanceMethod (xm_mi 48).1 ∈ xw_ALL := by rw [xk48_e]; exact ww_498
theorem xk48_4 : Cond.selects (xm_mi 48).1.cls (xm_mi 48).1 (xm_mi 48).1 ∈ xw_ALL := by rw [xk48_e]; exact ww_499
theorem xk48_c : vwCl[3]? = some ((xm_mi 48).1.cls, TX5, 11) := by rw [xk48_e]; rfl
theorem xk49_e : xm_mi 49 = (yX5_renewAll, cX5_renewAll, 2, none) := rfl
theorem xk49_0 : Cond.code (xm_mi 49).1 (xm_mi 49).2.1 (xm_mi 49).2.2.1 (xm_mi 49).2.2.2 ∈ xw_ALL := by rw [xk49_e]; exact ww_652
theorem xk49_2 : Cond.initialized (xm_mi 49).1.cls ∈ xw_ALL := by rw [xk49_e]; exact ww_3
theorem xk49_m : (xm_mi 49).2.2.1 ≤ 21 := by rw [xk49_e]; decide
theorem xk49_d : (xm_mi 49).1.cls ≠ "java/lang/invoke/MethodHandle" ∧ (xm_mi 49).1.cls ≠ "java/lang/invoke/VarHandle" ∧ (parseMethodDescriptor (xm_mi 49).1.desc).map (fun d => d.parameters.length) = some 0 := by rw [xk49_e]; decide +kernel
theorem xk49_3 : Cond.instanceMethod (xm_mi 49).1 ∈ xw_ALL := by rw [xk49_e]; exact ww_650
theorem xk49_4 : Cond.selects (xm_mi 49).1.cls (xm_mi 49).1 (xm_mi 49).1 ∈ xw_ALL := by rw [xk49_e]; exact ww_651
theorem xk49_c : vwCl[3]? = some ((xm_mi 49).1.cls, TX5, 11) := by rw [xk49_e]; rfl
theorem xk50_e : xm_mi 50 = (yX5_passDays, cX5_passDays, 3, none) := rfl
theorem xk50_0 : Cond.code (xm_mi 50).1 (xm_mi 50).2.1 (xm_mi 50).2.2.1 (xm_mi 50).2.2.2 ∈ xw_ALL := by rw [xk50_e]; exact ww_606
theorem xk50_2 : Cond.initialized (xm_mi 50).1.cls ∈ xw_ALL := by rw [xk50_e]; exact ww_3
theorem xk50_m : (xm_mi 50).2.2.1 ≤ 21 := by rw [xk50_e]; decide
theorem xk50_d : (xm_mi 50).1.cls ≠ "java/lang/invoke/MethodHandle" ∧ (xm_mi 50).1.cls ≠ "java/lang/invoke/VarHandle" ∧ (parseMethodDescriptor (xm_mi 50).1.desc).map (fun d => d.parameters.length) = some 1 := by rw [xk50_e]; decide +kernel
theorem xk50_3 : Cond.instanceMethod (xm_mi 50).1 ∈ xw_ALL := by rw [xk50_e]; exact ww_604
theorem xk50_4 : Cond.selects (xm_mi 50).1.cls (xm_mi 50).1 (xm_mi 50).1 ∈ xw_ALL := by rw [xk50_e]; exact ww_605
theorem xk50_c : vwCl[3]? = some ((xm_mi 50).1.cls, TX5, 11) := by rw [xk50_e]; rfl
theorem xk51_e : xm_mi 51 = (yX5_passDay, cX5_passDay, 3, none) := rfl
theorem xk51_0 : Cond.code (xm_mi 51).1 (xm_mi 51).2.1 (xm_mi 51).2.2.1 (xm_mi 51).2.2.2 ∈ xw_ALL := by rw [xk51_e]; exact ww_610
theorem xk51_2 : Cond.initialized (xm_mi 51).1.cls ∈ xw_ALL := by rw [xk51_e]; exact ww_3
theorem xk51_m : (xm_mi 51).2.2.1 ≤ 21 := by rw [xk51_e]; decide
theorem xk51_d : (xm_mi 51).1.cls ≠ "java/lang/invoke/MethodHandle" ∧ (xm_mi 51).1.cls ≠ "java/lang/invoke/VarHandle" ∧ (parseMethodDescriptor (xm_mi 51).1.desc).map (fun d => d.parameters.length) = some 0 := by rw [xk51_e]; decide +kernel
theorem xk51_3 : Cond.instanceMethod (xm_mi 51).1 ∈ xw_ALL := by rw [xk51_e]; exact ww_608
theorem xk51_4 : Cond.selects (xm_mi 51).1.cls (xm_mi 51).1 (xm_mi 51).1 ∈ xw_ALL := by rw [xk51_e]; exact ww_609
theorem xk51_c : vwCl[3]? = some ((xm_mi 51).1.cls, TX5, 11) := by rw [xk51_e]; rfl
theorem xk52_e : xm_mi 52 = (yX5_runStops, cX5_runStops, 5, (some .int)) := rfl
theorem xk52_0 : Cond.code (xm_mi 52).1 (xm_mi 52).2.1 (xm_mi 52).2.2.1 (xm_mi 52).2.2.2 ∈ xw_ALL := by rw [xk52_e]; exact ww_481
theorem xk52_2 : Cond.initialized (xm_mi 52).1.cls ∈ xw_ALL := by rw [xk52_e]; exact ww_3
theorem xk52_m : (xm_mi 52).2.2.1 ≤ 21 := by rw [xk52_e]; decide
theorem xk52_d : (xm_mi 52).1.cls ≠ "java/lang/invoke/MethodHandle" ∧ (xm_mi 52).1.cls ≠ "java/lang/invoke/VarHandle" ∧ (parseMethodDescriptor (xm_mi 52).1.desc).map (fun d => d.parameters.length) = some 1 := by rw [xk52_e]; decide +kernel
theorem xk52_3 : Cond.instanceMethod (xm_mi 52).1 ∈ xw_ALL := by rw [xk52_e]; exact ww_479
theorem xk52_4 : Cond.selects (xm_mi 52).1.cls (xm_mi 52).1 (xm_mi 52).1 ∈ xw_ALL := by rw [xk52_e]; exact ww_480
theorem xk52_c : vwCl[3]? = some ((xm_mi 52).1.cls, TX5, 11) := by rw [xk52_e]; rfl
theorem xk53_e : xm_mi 53 = (yX5_ellsOfRun, cX5_ellsOfRun, 5, (some .int)) := rfl
theorem xk53_0 : Cond.code (xm_mi 53).1 (xm_mi 53).2.1 (xm_mi 53).2.2.1 (xm_mi 53).2.2.2 ∈ xw_ALL := by rw [xk53_e]; exact ww_491
theorem xk53_2 : Cond.initialized (xm_mi 53).1.cls ∈ xw_ALL := by rw [xk53_e]; exact ww_3
theorem xk53_m : (xm_mi 53).2.2.1 ≤ 21 := by rw [xk53_e]; decide
theorem xk53_d : (xm_mi 53).1.cls ≠ "java/lang/invoke/MethodHandle" ∧ (xm_mi 53).1.cls ≠ "java/lang/invoke/VarHandle" ∧ (parseMethodDescriptor (xm_mi 53).1.desc).map (fun d => d.parameters.length) = some 1 := by rw [xk53_e]; decide +kernel
theorem xk53_3 : Cond.instanceMethod (xm_mi 53).1 ∈ xw_ALL := by rw [xk53_e]; exact ww_489
theorem xk53_4 : Cond.selects (xm_mi 53).1.cls (xm_mi 53).1 (xm_mi 53).1 ∈ xw_ALL := by rw [xk53_e]; exact ww_490
theorem xk53_c : vwCl[3]? = some ((xm_mi 53).1.cls, TX5, 11) := by rw [xk53_e]; rfl
theorem xk54_e : xm_mi 54 = (yX5_mendRun, cX5_mendRun, 5, none) := rfl
theorem xk54_0 : Cond.code (xm_mi 54).1 (xm_mi 54).2.1 (xm_mi 54).2.2.1 (xm_mi 54).2.2.2 ∈ xw_ALL := by rw [xk54_e]; exact ww_496
theorem xk54_2 : Cond.initialized (xm_mi 54).1.cls ∈ xw_ALL := by rw [xk54_e]; exact ww_3
theorem xk54_m : (xm_mi 54).2.2.1 ≤ 21 := by rw [xk54_e]; decide
theorem xk54_d : (xm_mi 54).1.cls ≠ "java/lang/invoke/MethodHandle" ∧ (xm_mi 54).1.cls ≠ "java/lang/invoke/VarHandle" ∧ (parseMethodDescriptor (xm_mi 54).1.desc).map (fun d => d.parameters.length) = some 2 := by rw [xk54_e]; decide +kernel
theorem xk54_3 : Cond.instanceMethod (xm_mi 54).1 ∈ xw_ALL := by rw [xk54_e]; exact ww_494
theorem xk54_4 : Cond.selects (xm_mi 54).1.cls (xm_mi 54).1 (xm_mi 54).1 ∈ xw_ALL := by rw [xk54_e]; exact ww_495
theorem xk54_c : vwCl[3]? = some ((xm_mi 54).1.cls, TX5, 11) := by rw [xk54_e]; rfl
theorem xk55_e : xm_mi 55 = (yX6_init, cX6_init, 2, none) := rfl
theorem xk55_0 : Cond.code (xm_mi 55).1 (xm_mi 55).2.1 (xm_mi 55).2.2.1 (xm_mi 55).2.2.2 ∈ xw_ALL := by rw [xk55_e]; exact ww_28
theorem xk55_2 : Cond.initialized (xm_mi 55).1.cls ∈ xw_ALL := by rw [xk55_e]; exact ww_2
theorem xk55_m : (xm_mi 55).2.2.1 ≤ 21 := by rw [xk55_e]; decide
theorem xk55_d : (xm_mi 55).1.cls ≠ "java/lang/invoke/MethodHandle" ∧ (xm_mi 55).1.cls ≠ "java/lang/invoke/VarHandle" ∧ (parseMethodDescriptor (xm_mi 55).1.desc).map (fun d => d.parameters.length) = some 0 := by rw [xk55_e]; decide +kernel
theorem xk55_3 : Cond.instanceMethod (xm_mi 55).1 ∈ xw_ALL := by rw [xk55_e]; exact ww_27
theorem xk55_c : vwCl[4]? = some ((xm_mi 55).1.cls, TX6, 8) := by rw [xk55_e]; rfl
theorem xk55_r : (xm_mi 55).2.2.2 = none := by rw [xk55_e]
theorem xk55_n : (xm_mi 55).1.name = "<init>" := by rw [xk55_e]; rfl
theorem xk56_e : xm_mi 56 = (yX6_become, cX6_become, 2, none) := rfl
theorem xk56_0 : Cond.code (xm_mi 56).1 (xm_mi 56).2.1 (xm_mi 56).2.2.1 (xm_mi 56).2.2.2 ∈ xw_ALL := by rw [xk56_e]; exact ww_730
theorem xk56_2 : Cond.initialized (xm_mi 56).1.cls ∈ xw_ALL := by rw [xk56_e]; exact ww_2
theorem xk56_m : (xm_mi 56).2.2.1 ≤ 21 := by rw [xk56_e]; decide
theorem xk56_d : (xm_mi 56).1.cls ≠ "java/lang/invoke/MethodHandle" ∧ (xm_mi 56).1.cls ≠ "java/lang/invoke/VarHandle" ∧ (parseMethodDescriptor (xm_mi 56).1.desc).map (fun d => d.parameters.length) = some 1 := by rw [xk56_e]; decide +kernel
theorem xk56_3 : Cond.instanceMethod (xm_mi 56).1 ∈ xw_ALL := by rw [xk56_e]; exact ww_728
theorem xk56_4 : Cond.selects (xm_mi 56).1.cls (xm_mi 56).1 (xm_mi 56).1 ∈ xw_ALL := by rw [xk56_e]; exact ww_729
theorem xk56_c : vwCl[4]? = some ((xm_mi 56).1.cls, TX6, 8) := by rw [xk56_e]; rfl
theorem xk57_e : xm_mi 57 = (yX6_nextDraw, cX6_nextDraw, 1, (some .int)) := rfl
theorem xk57_0 : Cond.code (xm_mi 57).1 (xm_mi 57).2.1 (xm_mi 57).2.2.1 (xm_mi 57).2.2.2 ∈ xw_ALL := by rw [xk57_e]; exact ww_623
theorem xk57_2 : Cond.initialized (xm_mi 57).1.cls ∈ xw_ALL := by rw [xk57_e]; exact ww_2
theorem xk57_m : (xm_mi 57).2.2.1 ≤ 21 := by rw [xk57_e]; decide
theorem xk57_d : (xm_mi 57).1.cls ≠ "java/lang/invoke/MethodHandle" ∧ (xm_mi 57).1.cls ≠ "java/lang/invoke/VarHandle" ∧ (parseMethodDescriptor (xm_mi 57).1.desc).map (fun d => d.parameters.length) = some 0 := by rw [xk57_e]; decide +kernel
theorem xk57_3 : Cond.instanceMethod (xm_mi 57).1 ∈ xw_ALL := by rw [xk57_e]; exact ww_621
theorem xk57_4 : Cond.selects (xm_mi 57).1.cls (xm_mi 57).1 (xm_mi 57).1 ∈ xw_ALL := by rw [xk57_e]; exact ww_622
theorem xk57_c : vwCl[4]? = some ((xm_mi 57).1.cls, TX6, 8) := by rw [xk57_e]; rfl
theorem xk58_e : xm_mi 58 = (yX7_init, cX7_init, 1, none) := rfl
theorem xk58_0 : Cond.code (xm_mi 58).1 (xm_mi 58).2.1 (xm_mi 58).2.2.1 (xm_mi 58).2.2.2 ∈ xw_ALL := by rw [xk58_e]; exact ww_222
theorem xk58_2 : Cond.initialized (xm_mi 58).1.cls ∈ xw_ALL := by rw [xk58_e]; exact ww_9
theorem xk58_m : (xm_mi 58).2.2.1 ≤ 21 := by rw [xk58_e]; decide
theorem xk58_d : (xm_mi 58).1.cls ≠ "java/lang/invoke/MethodHandle" ∧ (xm_mi 58).1.cls ≠ "java/lang/invoke/VarHandle" ∧ (parseMethodDescriptor (xm_mi 58).1.desc).map (fun d => d.parameters.length) = some 0 := by rw [xk58_e]; decide +kernel
theorem xk58_3 : Cond.instanceMethod (xm_mi 58).1 ∈ xw_ALL := by rw [xk58_e]; exact ww_221
theorem xk58_c : vwCl[5]? = some ((xm_mi 58).1.cls, TX7, 3) := by rw [xk58_e]; rfl
theorem xk58_r : (xm_mi 58).2.2.2 = none := by rw [xk58_e]
theorem xk58_n : (xm_mi 58).1.name = "<init>" := by rw [xk58_e]; rfl
theorem xk59_e : xm_mi 59 = (yX7_isMissing, cX7_isMissing, 1, (some .boolean)) := rfl
theorem xk59_0 : Cond.code (xm_mi 59).1 (xm_mi 59).2.1 (xm_mi 59).2.2.1 (xm_mi 59).2.2.2 ∈ xw_ALL := by rw [xk59_e]; exact ww_476
theorem xk59_2 : Cond.initialized (xm_mi 59).1.cls ∈ xw_ALL := by rw [xk59_e]; exact ww_9
theorem xk59_m : (xm_mi 59).2.2.1 ≤ 21 := by rw [xk59_e]; decide
theorem xk59_d : (xm_mi 59).1.cls ≠ "java/lang/invoke/MethodHandle" ∧ (xm_mi 59).1.cls ≠ "java/lang/invoke/VarHandle" ∧ (parseMethodDescriptor (xm_mi 59).1.desc).map (fun d => d.parameters.length) = some 0 := by rw [xk59_e]; decide +kernel
theorem xk59_3 : Cond.instanceMethod (xm_mi 59).1 ∈ xw_ALL := by rw [xk59_e]; exact ww_474
theorem xk59_4 : Cond.selects (xm_mi 59).1.cls (xm_mi 59).1 (xm_mi 59).1 ∈ xw_ALL := by rw [xk59_e]; exact ww_475
theorem xk59_c : vwCl[5]? = some ((xm_mi 59).1.cls, TX7, 3) := by rw [xk59_e]; rfl
theorem xk60_e : xm_mi 60 = (yX7_begin, cX7_begin, 4, none) := rfl
theorem xk60_0 : Cond.code (xm_mi 60).1 (xm_mi 60).2.1 (xm_mi 60).2.2.1 (xm_mi 60).2.2.2 ∈ xw_ALL := by rw [xk60_e]; exact ww_693
theorem xk60_2 : Cond.initialized (xm_mi 60).1.cls ∈ xw_ALL := by rw [xk60_e]; exact ww_9
theorem xk60_m : (xm_mi 60).2.2.1 ≤ 21 := by rw [xk60_e]; decide
theorem xk60_d : (xm_mi 60).1.cls ≠ "java/lang/invoke/MethodHandle" ∧ (xm_mi 60).1.cls ≠ "java/lang/invoke/VarHandle" ∧ (parseMethodDescriptor (xm_mi 60).1.desc).map (fun d => d.parameters.length) = some 2 := by rw [xk60_e]; decide +kernel
theorem xk60_3 : Cond.instanceMethod (xm_mi 60).1 ∈ xw_ALL := by rw [xk60_e]; exact ww_691
theorem xk60_4 : Cond.selects (xm_mi 60).1.cls (xm_mi 60).1 (xm_mi 60).1 ∈ xw_ALL := by rw [xk60_e]; exact ww_692
theorem xk60_c : vwCl[5]? = some ((xm_mi 60).1.cls, TX7, 3) := by rw [xk60_e]; rfl
theorem xk61_e : xm_mi 61 = (yX7_write, cX7_write, 3, none) := rfl
theorem xk61_0 : Cond.code (xm_mi 61).1 (xm_mi 61).2.1 (xm_mi 61).2.2.1 (xm_mi 61).2.2.2 ∈ xw_ALL := by rw [xk61_e]; exact ww_701
theorem xk61_2 : Cond.initialized (xm_mi 61).1.cls ∈ xw_ALL := by rw [xk61_e]; exact ww_9
theorem xk61_m : (xm_mi 61).2.2.1 ≤ 21 := by rw [xk61_e]; decide
theorem xk61_d : (xm_mi 61).1.cls ≠ "java/lang/invoke/MethodHandle" ∧ (xm_mi 61).1.cls ≠ "java/lang/invoke/VarHandle" ∧ (parseMethodDescriptor (xm_mi 61).1.desc).map (fun d => d.parameters.length) = some 2 := by rw [xk61_e]; decide +kernel
theorem xk61_3 : Cond.instanceMethod (xm_mi 61).1 ∈ xw_ALL := by rw [xk61_e]; exact ww_699
theorem xk61_4 : Cond.selects (xm_mi 61).1.cls (xm_mi 61).1 (xm_mi 61).1 ∈ xw_ALL := by rw [xk61_e]; exact ww_700
theorem xk61_c : vwCl[5]? = some ((xm_mi 61).1.cls, TX7, 3) := by rw [xk61_e]; rfl
theorem xk62_e : xm_mi 62 = (yX7_hasStretch, cX7_hasStretch, 3, (some .boolean)) := rfl
theorem xk62_0 : Cond.code (xm_mi 62).1 (xm_mi 62).2.1 (xm_mi 62).2.2.1 (xm_mi 62).2.2.2 ∈ xw_ALL := by rw [xk62_e]; exact ww_709
theorem xk62_2 : Cond.initialized (xm_mi 62).1.cls ∈ xw_ALL := by rw [xk62_e]; exact ww_9
theorem xk62_m : (xm_mi 62).2.2.1 ≤ 21 := by rw [xk62_e]; decide
theorem xk62_d : (xm_mi 62).1.cls ≠ "java/lang/invoke/MethodHandle" ∧ (xm_mi 62).1.cls ≠ "java/lang/invoke/VarHandle" ∧ (parseMethodDescriptor (xm_mi 62).1.desc).map (fun d => d.parameters.length) = some 2 := by rw [xk62_e]; decide +kernel
theorem xk62_3 : Cond.instanceMethod (xm_mi 62).1 ∈ xw_ALL := by rw [xk62_e]; exact ww_707
theorem xk62_4 : Cond.selects (xm_mi 62).1.cls (xm_mi 62).1 (xm_mi 62).1 ∈ xw_ALL := by rw [xk62_e]; exact ww_708
theorem xk62_c : vwCl[5]? = some ((xm_mi 62).1.cls, TX7, 3) := by rw [xk62_e]; rfl
theorem xk63_e : xm_mi 63 = (yX8_init, cX8_init, 1, none) := rfl
theorem xk63_0 : Cond.code (xm_mi 63).1 (xm_mi 63).2.1 (xm_mi 63).2.2.1 (xm_mi 63).2.2.2 ∈ xw_ALL := by rw [xk63_e]; exact ww_133
theorem xk63_2 : Cond.initialized (xm_mi 63).1.cls ∈ xw_ALL := by rw [xk63_e]; exact ww_5
theorem xk63_m : (xm_mi 63).2.2.1 ≤ 21 := by rw [xk63_e]; decide
theorem xk63_d : (xm_mi 63).1.cls ≠ "java/lang/invoke/MethodHandle" ∧ (xm_mi 63).1.cls ≠ "java/lang/invoke/VarHandle" ∧ (parseMethodDescriptor (xm_mi 63).1.desc).map (fun d => d.parameters.length) = some 0 := by rw [xk63_e]; decide +kernel
theorem xk63_3 : Cond.instanceMethod (xm_mi 63).1 ∈ xw_ALL := by rw [xk63_e]; exact ww_132
theorem xk63_c : vwCl[6]? = some ((xm_mi 63).1.cls, TX8, 5) := by rw [xk63_e]; rfl
theorem xk63_r : (xm_mi 63).2.2.2 = none := by rw [xk63_e]
theorem xk63_n : (xm_mi 63).1.name = "<init>" := by rw [xk63_e]; rfl
theorem xk64_e : xm_mi 64 = (yX8_read, cX8_read, 6, (some .int)) := rfl
theorem xk64_0 : Cond.code (xm_mi 64).1 (xm_mi 64).2.1 (xm_mi 64).2.2.1 (xm_mi 64).2.2.2 ∈ xw_ALL := by rw [xk64_e]; exact ww_414
theorem xk64_2 : Cond.initialized (xm_mi 64).1.cls ∈ xw_ALL := by rw [xk64_e]; exact ww_5
theorem xk64_m : (xm_mi 64).2.2.1 ≤ 21 := by rw [xk64_e]; decide
theorem xk64_d : (xm_mi 64).1.cls ≠ "java/lang/invoke/MethodHandle" ∧ (xm_mi 64).1.cls ≠ "java/lang/invoke/VarHandle" ∧ (parseMethodDescriptor (xm_mi 64).1.desc).map (fun d => d.parameters.length) = some 3 := by rw [xk64_e]; decide +kernel
theorem xk64_3 : Cond.instanceMethod (xm_mi 64).1 ∈ xw_ALL := by rw [xk64_e]; exact ww_412
theorem xk64_4 : Cond.selects (xm_mi 64).1.cls (xm_mi 64).1 (xm_mi 64).1 ∈ xw_ALL := by rw [xk64_e]; exact ww_413
theorem xk64_c : vwCl[6]? = some ((xm_mi 64).1.cls, TX8, 5) := by rw [xk64_e]; rfl
theorem xk65_e : xm_mi 65 = (yX8_takeValue, cX8_takeValue, 8, (some .int)) := rfl
theorem xk65_0 : Cond.code (xm_mi 65).1 (xm_mi 65).2.1 (xm_mi 65).2.2.1 (xm_mi 65).2.2.2 ∈ xw_ALL := by rw [xk65_e]; exact ww_422
theorem xk65_2 : Cond.initialized (xm_mi 65).1.cls ∈ xw_ALL := by rw [xk65_e]; exact ww_5
theorem xk65_m : (xm_mi 65).2.2.1 ≤ 21 := by rw [xk65_e]; decide
theorem xk65_d : (xm_mi 65).1.cls ≠ "java/lang/invoke/MethodHandle" ∧ (xm_mi 65).1.cls ≠ "java/lang/invoke/VarHandle" ∧ (parseMethodDescriptor (xm_mi 65).1.desc).map (fun d => d.parameters.length) = some 4 := by rw [xk65_e]; decide +kernel
theorem xk65_3 : Cond.instanceMethod (xm_mi 65).1 ∈ xw_ALL := by rw [xk65_e]; exact ww_421
theorem xk65_4 : Cond.selects (xm_mi 65).1.cls (xm_mi 65).1 (xm_mi 65).1 ∈ xw_ALL := by rw [xk65_e]; exact wp_1
theorem xk65_c : vwCl[6]? = some ((xm_mi 65).1.cls, TX8, 5) := by rw [xk65_e]; rfl
theorem xk66_e : xm_mi 66 = (yX8_takeSign, cX8_takeSign, 3, (some .int)) := rfl
theorem xk66_0 : Cond.code (xm_mi 66).1 (xm_mi 66).2.1 (xm_mi 66).2.2.1 (xm_mi 66).2.2.2 ∈ xw_ALL := by rw [xk66_e]; exact ww_444
theorem xk66_2 : Cond.initialized (xm_mi 66).1.cls ∈ xw_ALL := by rw [xk66_e]; exact ww_5
theorem xk66_m : (xm_mi 66).2.2.1 ≤ 21 := by rw [xk66_e]; decide
theorem xk66_d : (xm_mi 66).1.cls ≠ "java/lang/invoke/MethodHandle" ∧ (xm_mi 66).1.cls ≠ "java/lang/invoke/VarHandle" ∧ (parseMethodDescriptor (xm_mi 66).1.desc).map (fun d => d.parameters.length) = some 1 := by rw [xk66_e]; decide +kernel
theorem xk66_3 : Cond.instanceMethod (xm_mi 66).1 ∈ xw_ALL := by rw [xk66_e]; exact ww_443
theorem xk66_4 : Cond.selects (xm_mi 66).1.cls (xm_mi 66).1 (xm_mi 66).1 ∈ xw_ALL := by rw [xk66_e]; exact wp_4
theorem xk66_c : vwCl[6]? = some ((xm_mi 66).1.cls, TX8, 5) := by rw [xk66_e]; rfl
theorem xk67_e : xm_mi 67 = (yX8_push, cX8_push, 2, none) := rfl
theorem xk67_0 : Cond.code (xm_mi 67).1 (xm_mi 67).2.1 (xm_mi 67).2.2.1 (xm_mi 67).2.2.2 ∈ xw_ALL := by rw [xk67_e]; exact ww_426
theorem xk67_2 : Cond.initialized (xm_mi 67).1.cls ∈ xw_ALL := by rw [xk67_e]; exact ww_5
theorem xk67_m : (xm_mi 67).2.2.1 ≤ 21 := by rw [xk67_e]; decide
theorem xk67_d : (xm_mi 67).1.cls ≠ "java/lang/invoke/MethodHandle" ∧ (xm_mi 67).1.cls ≠ "java/lang/invoke/VarHandle" ∧ (parseMethodDescriptor (xm_mi 67).1.desc).map (fun d => d.parameters.length) = some 1 := by rw [xk67_e]; decide +kernel
theorem xk67_3 : Cond.instanceMethod (xm_mi 67).1 ∈ xw_ALL := by rw [xk67_e]; exact ww_425
theorem xk67_4 : Cond.selects (xm_mi 67).1.cls (xm_mi 67).1 (xm_mi 67).1 ∈ xw_ALL := by rw [xk67_e]; exact wp_2
theorem xk67_c : vwCl[6]? = some ((xm_mi 67).1.cls, TX8, 5) := by rw [xk67_e]; rfl
theorem xk68_e : xm_mi 68 = (yX8_endValue, cX8_endValue, 1, none) := rfl
theorem xk68_0 : Cond.code (xm_mi 68).1 (xm_mi 68).2.1 (xm_mi 68).2.2.1 (xm_mi 68).2.2.2 ∈ xw_ALL := by rw [xk68_e]; exact ww_440
theorem xk68_2 : Cond.initialized (xm_mi 68).1.cls ∈ xw_ALL := by rw [xk68_e]; exact ww_5
theorem xk68_m : (xm_mi 68).2.2.1 ≤ 21 := by rw [xk68_e]; decide
theorem xk68_d : (xm_mi 68).1.cls ≠ "java/lang/invoke/MethodHandle" ∧ (xm_mi 68).1.cls ≠ "java/lang/invoke/VarHandle" ∧ (parseMethodDescriptor (xm_mi 68).1.desc).map (fun d => d.parameters.length) = some 0 := by rw [xk68_e]; decide +kernel
theorem xk68_3 : Cond.instanceMethod (xm_mi 68).1 ∈ xw_ALL := by rw [xk68_e]; exact ww_439
theorem xk68_4 : Cond.selects (xm_mi 68).1.cls (xm_mi 68).1 (xm_mi 68).1 ∈ xw_ALL := by rw [xk68_e]; exact wp_3
theorem xk68_c : vwCl[6]? = some ((xm_mi 68).1.cls, TX8, 5) := by rw [xk68_e]; rfl
theorem xk69_e : xm_mi 69 = (yX8_settle, cX8_settle, 2, none) := rfl
theorem xk69_0 : Cond.code (xm_mi 69).1 (xm_mi 69).2.1 (xm_mi 69).2.2.1 (xm_mi 69).2.2.2 ∈ xw_ALL := by rw [xk69_e]; exact ww_448
theorem xk69_2 : Cond.initialized (xm_mi 69).1.cls ∈ xw_ALL := by rw [xk69_e]; exact ww_5
theorem xk69_m : (xm_mi 69).2.2.1 ≤ 21 := by rw [xk69_e]; decide
theorem xk69_d : (xm_mi 69).1.cls ≠ "java/lang/invoke/MethodHandle" ∧ (xm_mi 69).1.cls ≠ "java/lang/invoke/VarHandle" ∧ (parseMethodDescriptor (xm_mi 69).1.desc).map (fun d => d.parameters.length) = some 1 := by rw [xk69_e]; decide +kernel
theorem xk69_3 : Cond.instanceMethod (xm_mi 69).1 ∈ xw_ALL := by rw [xk69_e]; exact ww_447
theorem xk69_4 : Cond.selects (xm_mi 69).1.cls (xm_mi 69).1 (xm_mi 69).1 ∈ xw_ALL := by rw [xk69_e]; exact wp_5
theorem xk69_c : vwCl[6]? = some ((xm_mi 69).1.cls, TX8, 5) := by rw [xk69_e]; rfl
theorem xk70_e : xm_mi 70 = (yX8_isDigit, cX8_isDigit, 1, (some .boolean)) := rfl
theorem xk70_0 : Cond.code (xm_mi 70).1 (xm_mi 70).2.1 (xm_mi 70).2.2.1 (xm_mi 70).2.2.2 ∈ xw_ALL := by rw [xk70_e]; exact ww_432
theorem xk70_2 : Cond.initialized (xm_mi 70).1.cls ∈ xw_ALL := by rw [xk70_e]; exact ww_5
theorem xk70_m : (xm_mi 70).2.2.1 ≤ 21 := by rw [xk70_e]; decide
theorem xk70_d : (xm_mi 70).1.cls ≠ "java/lang/invoke/MethodHandle" ∧ (xm_mi 70).1.cls ≠ "java/lang/invoke/VarHandle" ∧ (parseMethodDescriptor (xm_mi 70).1.desc).map (fun d => d.parameters.length) = some 1 := by rw [xk70_e]; decide +kernel
theorem xk70_3 : Cond.static (xm_mi 70).1 ∈ xw_ALL := by rw [xk70_e]; exact ww_431
theorem xk71_e : xm_mi 71 = (yX8_rankOf, cX8_rankOf, 1, (some .int)) := rfl
theorem xk71_0 : Cond.code (xm_mi 71).1 (xm_mi 71).2.1 (xm_mi 71).2.2.1 (xm_mi 71).2.2.2 ∈ xw_ALL := by rw [xk71_e]; exact ww_451
theorem xk71_2 : Cond.initialized (xm_mi 71).1.cls ∈ xw_ALL := by rw [xk71_e]; exact ww_5
theorem xk71_m : (xm_mi 71).2.2.1 ≤ 21 := by rw [xk71_e]; decide
theorem xk71_d : (xm_mi 71).1.cls ≠ "java/lang/invoke/MethodHandle" ∧ (xm_mi 71).1.cls ≠ "java/lang/invoke/VarHandle" ∧ (parseMethodDescriptor (xm_mi 71).1.desc).map (fun d => d.parameters.length) = some 1 := by rw [xk71_e]; decide +kernel
theorem xk71_3 : Cond.static (xm_mi 71).1 ∈ xw_ALL := by rw [xk71_e]; exact ww_450
theorem xk72_e : xm_mi 72 = (yX8_nameOf, cX8_nameOf, 3, (some .int)) := rfl
theorem xk72_0 : Cond.code (xm_mi 72).1 (xm_mi 72).2.1 (xm_mi 72).2.2.1 (xm_mi 72).2.2.2 ∈ xw_ALL := by rw [xk72_e]; exact ww_429
theorem xk72_2 : Cond.initialized (xm_mi 72).1.cls ∈ xw_ALL := by rw [xk72_e]; exact ww_5
theorem xk72_m : (xm_mi 72).2.2.1 ≤ 21 := by rw [xk72_e]; decide
theorem xk72_d : (xm_mi 72).1.cls ≠ "java/lang/invoke/MethodHandle" ∧ (xm_mi 72).1.cls ≠ "java/lang/invoke/VarHandle" ∧ (parseMethodDescriptor (xm_mi 72).1.desc).map (fun d => d.parameters.length) = some 2 := by rw [xk72_e]; decide +kernel
theorem xk72_3 : Cond.static (xm_mi 72).1 ∈ xw_ALL := by rw [xk72_e]; exact ww_428
theorem xk73_e : xm_mi 73 = (yX9_init, cX9_init, 1, none) := rfl
theorem xk73_0 : Cond.code (xm_mi 73).1 (xm_mi 73).2.1 (xm_mi 73).2.2.1 (xm_mi 73).2.2.2 ∈ xw_ALL := by rw [xk73_e]; exact ww_193
theorem xk73_2 : Cond.initialized (xm_mi 73).1.cls ∈ xw_ALL := by rw [xk73_e]; exact ww_8
theorem xk73_m : (xm_mi 73).2.2.1 ≤ 21 := by rw [xk73_e]; decide
theorem xk73_d : (xm_mi 73).1.cls ≠ "java/lang/invoke/MethodHandle" ∧ (xm_mi 73).1.cls ≠ "java/lang/invoke/VarHandle" ∧ (parseMethodDescriptor (xm_mi 73).1.desc).map (fun d => d.parameters.length) = some 0 := by rw [xk73_e]; decide +kernel
theorem xk73_3 : Cond.instanceMethod (xm_mi 73).1 ∈ xw_ALL := by rw [xk73_e]; exact ww_192
theorem xk73_c : vwCl[7]? = some ((xm_mi 73).1.cls, TX9, 6) := by rw [xk73_e]; rfl
theorem xk73_r : (xm_mi 73).2.2.2 = none := by rw [xk73_e]
theorem xk73_n : (xm_mi 73).1.name = "<init>" := by rw [xk73_e]; rfl
theorem xk74_e : xm_mi 74 = (yX9_hear, cX9_hear, 6, (some .int)) := rfl
theorem xk74_0 : Cond.code (xm_mi 74).1 (xm_mi 74).2.1 (xm_mi 74).2.2.1 (xm_mi 74).2.2.2 ∈ xw_ALL := by rw [xk74_e]; exact ww_669
theorem xk74_2 : Cond.initialized (xm_mi 74).1.cls ∈ xw_ALL := by rw [xk74_e]; exact ww_8
theorem xk74_m : (xm_mi 74).2.2.1 ≤ 21 := by rw [xk74_e]; decide
theorem xk74_d : (xm_mi 74).1.cls ≠ "java/lang/invoke/MethodHandle" ∧ (xm_mi 74).1.cls ≠ "java/lang/invoke/VarHandle" ∧ (parseMethodDescriptor (xm_mi 74).1.desc).map (fun d => d.parameters.length) = some 5 := by rw [xk74_e]; decide +kernel
theorem xk74_3 : Cond.instanceMethod (xm_mi 74).1 ∈ xw_ALL := by rw [xk74_e]; exact ww_667
theorem xk74_4 : Cond.selects (xm_mi 74).1.cls (xm_mi 74).1 (xm_mi 74).1 ∈ xw_ALL := by rw [xk74_e]; exact ww_668
theorem xk74_c : vwCl[7]? = some ((xm_mi 74).1.cls, TX9, 6) := by rw [xk74_e]; rfl
theorem xk75_e : xm_mi 75 = (yX9_speak, cX9_speak, 8, (some .int)) := rfl
theorem xk75_0 : Cond.code (xm_mi 75).1 (xm_mi 75).2.1 (xm_mi 75).2.2.1 (xm_mi 75).2.2.2 ∈ xw_ALL := by rw [xk75_e]; exact ww_673
theorem xk75_2 : Cond.initialized (xm_mi 75).1.cls ∈ xw_ALL := by rw [xk75_e]; exact ww_8
theorem xk75_m : (xm_mi 75).2.2.1 ≤ 21 := by rw [xk75_e]; decide
theorem xk75_d : (xm_mi 75).1.cls ≠ "java/lang/invoke/MethodHandle" ∧ (xm_mi 75).1.cls ≠ "java/lang/invoke/VarHandle" ∧ (parseMethodDescriptor (xm_mi 75).1.desc).map (fun d => d.parameters.length) = some 4 := by rw [xk75_e]; decide +kernel
theorem xk75_3 : Cond.instanceMethod (xm_mi 75).1 ∈ xw_ALL := by rw [xk75_e]; exact ww_672
theorem xk75_4 : Cond.selects (xm_mi 75).1.cls (xm_mi 75).1 (xm_mi 75).1 ∈ xw_ALL := by rw [xk75_e]; exact wp_8
theorem xk75_c : vwCl[7]? = some ((xm_mi 75).1.cls, TX9, 6) := by rw [xk75_e]; rfl
theorem xk76_e : xm_mi 76 = (yX9_bodySays, cX9_bodySays, 7, (some .int)) := rfl
theorem xk76_0 : Cond.code (xm_mi 76).1 (xm_mi 76).2.1 (xm_mi 76).2.2.1 (xm_mi 76).2.2.2 ∈ xw_ALL := by rw [xk76_e]; exact ww_680
theorem xk76_2 : Cond.initialized (xm_mi 76).1.cls ∈ xw_ALL := by rw [xk76_e]; exact ww_8
theorem xk76_m : (xm_mi 76).2.2.1 ≤ 21 := by rw [xk76_e]; decide
theorem xk76_d : (xm_mi 76).1.cls ≠ "java/lang/invoke/MethodHandle" ∧ (xm_mi 76).1.cls ≠ "java/lang/invoke/VarHandle" ∧ (parseMethodDescriptor (xm_mi 76).1.desc).map (fun d => d.parameters.length) = some 4 := by rw [xk76_e]; decide +kernel
theorem xk76_3 : Cond.instanceMethod (xm_mi 76).1 ∈ xw_ALL := by rw [xk76_e]; exact ww_679
theorem xk76_4 : Cond.selects (xm_mi 76).1.cls (xm_mi 76).1 (xm_mi 76).1 ∈ xw_ALL := by rw [xk76_e]; exact wp_9
theorem xk76_c : vwCl[7]? = some ((xm_mi 76).1.cls, TX9, 6) := by rw [xk76_e]; rfl
theorem xk77_e : xm_mi 77 = (yX10_init, cX10_init, 2, none) := rfl
theorem xk77_0 : Cond.code (xm_mi 77).1 (xm_mi 77).2.1 (xm_mi 77).2.2.1 (xm_mi 77).2.2.2 ∈ xw_ALL := by rw [xk77_e]; exact ww_20
theorem xk77_2 : Cond.initialized (xm_mi 77).1.cls ∈ xw_ALL := by rw [xk77_e]; exact ww_1
theorem xk77_m : (xm_mi 77).2.2.1 ≤ 21 := by rw [xk77_e]; decide
theorem xk77_d : (xm_mi 77).1.cls ≠ "java/lang/invoke/MethodHandle" ∧ (xm_mi 77).1.cls ≠ "java/lang/invoke/VarHandle" ∧ (parseMethodDescriptor (xm_mi 77).1.desc).map (fun d => d.parameters.length) = some 0 := by rw [xk77_e]; decide +kernel
theorem xk77_3 : Cond.instanceMethod (xm_mi 77).1 ∈ xw_ALL := by rw [xk77_e]; exact ww_19
theorem xk77_c : vwCl[8]? = some ((xm_mi 77).1.cls, TX10, 11) := by rw [xk77_e]; rfl
theorem xk77_r : (xm_mi 77).2.2.2 = none := by rw [xk77_e]
theorem xk77_n : (xm_mi 77).1.name = "<init>" := by rw [xk77_e]; rfl
theorem xk78_e : xm_mi 78 = (yX10_tie, cX10_tie, 6, (some .int)) := rfl
theorem xk78_0 : Cond.code (xm_mi 78).1 (xm_mi 78).2.1 (xm_mi 78).2.2.1 (xm_mi 78).2.2.2 ∈ xw_ALL := by rw [xk78_e]; exact ww_276
theorem xk78_2 : Cond.initialized (xm_mi 78).1.cls ∈ xw_ALL := by rw [xk78_e]; exact ww_1
theorem xk78_m : (xm_mi 78).2.2.1 ≤ 21 := by rw [xk78_e]; decide
theorem xk78_d : (xm_mi 78).1.cls ≠ "java/lang/invoke/MethodHandle" ∧ (xm_mi 78).1.cls ≠ "java/lang/invoke/VarHandle" ∧ (parseMethodDescriptor (xm_mi 78).1.desc).map (fun d => d.parameters.length) = some 3 := by rw [xk78_e]; decide +kernel
theorem xk78_3 : Cond.instanceMethod (xm_mi 78).1 ∈ xw_ALL := by rw [xk78_e]; exact ww_274
theorem xk78_4 : Cond.selects (xm_mi 78).1.cls (xm_mi 78).1 (xm_mi 78).1 ∈ xw_ALL := by rw [xk78_e]; exact ww_275
theorem xk78_c : vwCl[8]? = some ((xm_mi 78).1.cls, TX10, 11) := by rw [xk78_e]; rfl
theorem xk79_e : xm_mi 79 = (yX10_knotIs, cX10_knotIs, 4, (some .int)) := rfl
theorem xk79_0 : Cond.code (xm_mi 79).1 (xm_mi 79).2.1 (xm_mi 79).2.2.1 (xm_mi 79).2.2.2 ∈ xw_ALL := by rw [xk79_e]; exact ww_296
theorem xk79_2 : Cond.initialized (xm_mi 79).1.cls ∈ xw_ALL := by rw [xk79_e]; exact ww_1
theorem xk79_m : (xm_mi 79).2.2.1 ≤ 21 := by rw [xk79_e]; decide
theorem xk79_d : (xm_mi 79).1.cls ≠ "java/lang/invoke/MethodHandle" ∧ (xm_mi 79).1.cls ≠ "java/lang/invoke/VarHandle" ∧ (parseMethodDescriptor (xm_mi 79).1.desc).map (fun d => d.parameters.length) = some 2 := by rw [xk79_e]; decide +kernel
theorem xk79_3 : Cond.instanceMethod (xm_mi 79).1 ∈ xw_ALL := by rw [xk79_e]; exact ww_294
theorem xk79_4 : Cond.selects (xm_mi 79).1.cls (xm_mi 79).1 (xm_mi 79).1 ∈ xw_ALL := by rw [xk79_e]; exact ww_295
theorem xk79_c : vwCl[8]? = some ((xm_mi 79).1.cls, TX10, 11) := by rw [xk79_e]; rfl
theorem xk80_e : xm_mi 80 = (yX10_as, cX10_as, 3, (some .int)) := rfl
theorem xk80_0 : Cond.code (xm_mi 80).1 (xm_mi 80).2.1 (xm_mi 80).2.2.1 (xm_mi 80).2.2.2 ∈ xw_ALL := by rw [xk80_e]; exact ww_346
theorem xk80_2 : Cond.initialized (xm_mi 80).1.cls ∈ xw_ALL := by rw [xk80_e]; exact ww_1
theorem xk80_m : (xm_mi 80).2.2.1 ≤ 21 := by rw [xk80_e]; decide
theorem xk80_d : (xm_mi 80).1.cls ≠ "java/lang/invoke/MethodHandle" ∧ (xm_mi 80).1.cls ≠ "java/lang/invoke/VarHandle" ∧ (parseMethodDescriptor (xm_mi 80).1.desc).map (fun d => d.parameters.length) = some 2 := by rw [xk80_e]; decide +kernel
theorem xk80_3 : Cond.instanceMethod (xm_mi 80).1 ∈ xw_ALL := by rw [xk80_e]; exact ww_344
theorem xk80_4 : Cond.selects (xm_mi 80).1.cls (xm_mi 80).1 (xm_mi 80).1 ∈ xw_ALL := by rw [xk80_e]; exact ww_345
theorem xk80_c : vwCl[8]? = some ((xm_mi 80).1.cls, TX10, 11) := by rw [xk80_e]; rfl
theorem xk81_e : xm_mi 81 = (yX10_threadIs, cX10_threadIs, 3, (some .int)) := rfl
theorem xk81_0 : Cond.code (xm_mi 81).1 (xm_mi 81).2.1 (xm_mi 81).2.2.1 (xm_mi 81).2.2.2 ∈ xw_ALL := by rw [xk81_e]; exact ww_357
theorem xk81_2 : Cond.initialized (xm_mi 81).1.cls ∈ xw_ALL := by rw [xk81_e]; exact ww_1
theorem xk81_m : (xm_mi 81).2.2.1 ≤ 21 := by rw [xk81_e]; decide
theorem xk81_d : (xm_mi 81).1.cls ≠ "java/lang/invoke/MethodHandle" ∧ (xm_mi 81).1.cls ≠ "java/lang/invoke/VarHandle" ∧ (parseMethodDescriptor (xm_mi 81).1.desc).map (fun d => d.parameters.length) = some 2 := by rw [xk81_e]; decide +kernel
theorem xk81_3 : Cond.instanceMethod (xm_mi 81).1 ∈ xw_ALL := by rw [xk81_e]; exact ww_355
theorem xk81_4 : Cond.selects (xm_mi 81).1.cls (xm_mi 81).1 (xm_mi 81).1 ∈ xw_ALL := by rw [xk81_e]; exact ww_356
theorem xk81_c : vwCl[8]? = some ((xm_mi 81).1.cls, TX10, 11) := by rw [xk81_e]; rfl
theorem xk82_e : xm_mi 82 = (yX10_cut, cX10_cut, 2, (some .int)) := rfl
theorem xk82_0 : Cond.code (xm_mi 82).1 (xm_mi 82).2.1 (xm_mi 82).2.2.1 (xm_mi 82).2.2.2 ∈ xw_ALL := by rw [xk82_e]; exact ww_378
theorem xk82_2 : Cond.initialized (xm_mi 82).1.cls ∈ xw_ALL := by rw [xk82_e]; exact ww_1
theorem xk82_m : (xm_mi 82).2.2.1 ≤ 21 := by rw [xk82_e]; decide
theorem xk82_d : (xm_mi 82).1.cls ≠ "java/lang/invoke/MethodHandle" ∧ (xm_mi 82).1.cls ≠ "java/lang/invoke/VarHandle" ∧ (parseMethodDescriptor (xm_mi 82).1.desc).map (fun d => d.parameters.length) = some 1 := by rw [xk82_e]; decide +kernel
theorem xk82_3 : Cond.instanceMethod (xm_mi 82).1 ∈ xw_ALL := by rw [xk82_e]; exact ww_376
theorem xk82_4 : Cond.selects (xm_mi 82).1.cls (xm_mi 82).1 (xm_mi 82).1 ∈ xw_ALL := by rw [xk82_e]; exact ww_377
theorem xk82_c : vwCl[8]? = some ((xm_mi 82).1.cls, TX10, 11) := by rw [xk82_e]; rfl
theorem xk83_e : xm_mi 83 = (yX10_wear, cX10_wear, 4, (some .int)) := rfl
theorem xk83_0 : Cond.code (xm_mi 83).1 (xm_mi 83).2.1 (xm_mi 83).2.2.1 (xm_mi 83).2.2.2 ∈ xw_ALL := by rw [xk83_e]; exact ww_393
theorem xk83_2 : Cond.initialized (xm_mi 83).1.cls ∈ xw_ALL := by rw [xk83_e]; exact ww_1
theorem xk83_m : (xm_mi 83).2.2.1 ≤ 21 := by rw [xk83_e]; decide
theorem xk83_d : (xm_mi 83).1.cls ≠ "java/lang/invoke/MethodHandle" ∧ (xm_mi 83).1.cls ≠ "java/lang/invoke/VarHandle" ∧ (parseMethodDescriptor (xm_mi 83).1.desc).map (fun d => d.parameters.length) = some 2 := by rw [xk83_e]; decide +kernel
theorem xk83_3 : Cond.instanceMethod (xm_mi 83).1 ∈ xw_ALL := by rw [xk83_e]; exact ww_391
theorem xk83_4 : Cond.selects (xm_mi 83).1.cls (xm_mi 83).1 (xm_mi 83).1 ∈ xw_ALL := by rw [xk83_e]; exact ww_392
theorem xk83_c : vwCl[8]? = some ((xm_mi 83).1.cls, TX10, 11) := by rw [xk83_e]; rfl
theorem xk84_e : xm_mi 84 = (yX10_twine, cX10_twine, 3, (some .int)) := rfl
theorem xk84_0 : Cond.code (xm_mi 84).1 (xm_mi 84).2.1 (xm_mi 84).2.2.1 (xm_mi 84).2.2.2 ∈ xw_ALL := by rw [xk84_e]; exact ww_397
theorem xk84_2 : Cond.initialized (xm_mi 84).1.cls ∈ xw_ALL := by rw [xk84_e]; exact ww_1
theorem xk84_m : (xm_mi 84).2.2.1 ≤ 21 := by rw [xk84_e]; decide
theorem xk84_d : (xm_mi 84).1.cls ≠ "java/lang/invoke/MethodHandle" ∧ (xm_mi 84).1.cls ≠ "java/lang/invoke/VarHandle" ∧ (parseMethodDescriptor (xm_mi 84).1.desc).map (fun d => d.parameters.length) = some 1 := by rw [xk84_e]; decide +kernel
theorem xk84_3 : Cond.instanceMethod (xm_mi 84).1 ∈ xw_ALL := by rw [xk84_e]; exact ww_395
theorem xk84_4 : Cond.selects (xm_mi 84).1.cls (xm_mi 84).1 (xm_mi 84).1 ∈ xw_ALL := by rw [xk84_e]; exact ww_396
theorem xk84_c : vwCl[8]? = some ((xm_mi 84).1.cls, TX10, 11) := by rw [xk84_e]; rfl
theorem xk85_e : xm_mi 85 = (yX10_speed, cX10_speed, 4, (some .int)) := rfl
theorem xk85_0 : Cond.code (xm_mi 85).1 (xm_mi 85).2.1 (xm_mi 85).2.2.1 (xm_mi 85).2.2.2 ∈ xw_ALL := by rw [xk85_e]; exact ww_401
theorem xk85_2 : Cond.initialized (xm_mi 85).1.cls ∈ xw_ALL := by rw [xk85_e]; exact ww_1
theorem xk85_m : (xm_mi 85).2.2.1 ≤ 21 := by rw [xk85_e]; decide
theorem xk85_d : (xm_mi 85).1.cls ≠ "java/lang/invoke/MethodHandle" ∧ (xm_mi 85).1.cls ≠ "java/lang/invoke/VarHandle" ∧ (parseMethodDescriptor (xm_mi 85).1.desc).map (fun d => d.parameters.length) = some 2 := by rw [xk85_e]; decide +kernel
theorem xk85_3 : Cond.instanceMethod (xm_mi 85).1 ∈ xw_ALL := by rw [xk85_e]; exact ww_399
theorem xk85_4 : Cond.selects (xm_mi 85).1.cls (xm_mi 85).1 (xm_mi 85).1 ∈ xw_ALL := by rw [xk85_e]; exact ww_400
theorem xk85_c : vwCl[8]? = some ((xm_mi 85).1.cls, TX10, 11) := by rw [xk85_e]; rfl
theorem xk86_e : xm_mi 86 = (yX10_feed, cX10_feed, 5, (some .int)) := rfl
theorem xk86_0 : Cond.code (xm_mi 86).1 (xm_mi 86).2.1 (xm_mi 86).2.2.1 (xm_mi 86).2.2.2 ∈ xw_ALL := by rw [xk86_e]; exact ww_405
theorem xk86_2 : Cond.initialized (xm_mi 86).1.cls ∈ xw_ALL := by rw [xk86_e]; exact ww_1
theorem xk86_m : (xm_mi 86).2.2.1 ≤ 21 := by rw [xk86_e]; decide
theorem xk86_d : (xm_mi 86).1.cls ≠ "java/lang/invoke/MethodHandle" ∧ (xm_mi 86).1.cls ≠ "java/lang/invoke/VarHandle" ∧ (parseMethodDescriptor (xm_mi 86).1.desc).map (fun d => d.parameters.length) = some 2 := by rw [xk86_e]; decide +kernel
theorem xk86_3 : Cond.instanceMethod (xm_mi 86).1 ∈ xw_ALL := by rw [xk86_e]; exact ww_403
theorem xk86_4 : Cond.selects (xm_mi 86).1.cls (xm_mi 86).1 (xm_mi 86).1 ∈ xw_ALL := by rw [xk86_e]; exact ww_404
theorem xk86_c : vwCl[8]? = some ((xm_mi 86).1.cls, TX10, 11) := by rw [xk86_e]; rfl
theorem xk87_e : xm_mi 87 = (yX10_text, cX10_text, 3, (some .int)) := rfl
theorem xk87_0 : Cond.code (xm_mi 87).1 (xm_mi 87).2.1 (xm_mi 87).2.2.1 (xm_mi 87).2.2.2 ∈ xw_ALL := by rw [xk87_e]; exact ww_410
theorem xk87_2 : Cond.initialized (xm_mi 87).1.cls ∈ xw_ALL := by rw [xk87_e]; exact ww_1
theorem xk87_m : (xm_mi 87).2.2.1 ≤ 21 := by rw [xk87_e]; decide
theorem xk87_d : (xm_mi 87).1.cls ≠ "java/lang/invoke/MethodHandle" ∧ (xm_mi 87).1.cls ≠ "java/lang/invoke/VarHandle" ∧ (parseMethodDescriptor (xm_mi 87).1.desc).map (fun d => d.parameters.length) = some 1 := by rw [xk87_e]; decide +kernel
theorem xk87_3 : Cond.instanceMethod (xm_mi 87).1 ∈ xw_ALL := by rw [xk87_e]; exact ww_408
theorem xk87_4 : Cond.selects (xm_mi 87).1.cls (xm_mi 87).1 (xm_mi 87).1 ∈ xw_ALL := by rw [xk87_e]; exact ww_409
theorem xk87_c : vwCl[8]? = some ((xm_mi 87).1.cls, TX10, 11) := by rw [xk87_e]; rfl
theorem xk88_e : xm_mi 88 = (yX10_untell, cX10_untell, 4, (some .int)) := rfl
theorem xk88_0 : Cond.code (xm_mi 88).1 (xm_mi 88).2.1 (xm_mi 88).2.2.1 (xm_mi 88).2.2.2 ∈ xw_ALL := by rw [xk88_e]; exact ww_466
theorem xk88_2 : Cond.initialized (xm_mi 88).1.cls ∈ xw_ALL := by rw [xk88_e]; exact ww_1
theorem xk88_m : (xm_mi 88).2.2.1 ≤ 21 := by rw [xk88_e]; decide
theorem xk88_d : (xm_mi 88).1.cls ≠ "java/lang/invoke/MethodHandle" ∧ (xm_mi 88).1.cls ≠ "java/lang/invoke/VarHandle" ∧ (parseMethodDescriptor (xm_mi 88).1.desc).map (fun d => d.parameters.length) = some 1 := by rw [xk88_e]; decide +kernel
theorem xk88_3 : Cond.instanceMethod (xm_mi 88).1 ∈ xw_ALL := by rw [xk88_e]; exact ww_464
theorem xk88_4 : Cond.selects (xm_mi 88).1.cls (xm_mi 88).1 (xm_mi 88).1 ∈ xw_ALL := by rw [xk88_e]; exact ww_465
theorem xk88_c : vwCl[8]? = some ((xm_mi 88).1.cls, TX10, 11) := by rw [xk88_e]; rfl
theorem xk89_e : xm_mi 89 = (yX10_run, cX10_run, 6, (some .int)) := rfl
theorem xk89_0 : Cond.code (xm_mi 89).1 (xm_mi 89).2.1 (xm_mi 89).2.2.1 (xm_mi 89).2.2.2 ∈ xw_ALL := by rw [xk89_e]; exact ww_472
theorem xk89_2 : Cond.initialized (xm_mi 89).1.cls ∈ xw_ALL := by rw [xk89_e]; exact ww_1
theorem xk89_m : (xm_mi 89).2.2.1 ≤ 21 := by rw [xk89_e]; decide
theorem xk89_d : (xm_mi 89).1.cls ≠ "java/lang/invoke/MethodHandle" ∧ (xm_mi 89).1.cls ≠ "java/lang/invoke/VarHandle" ∧ (parseMethodDescriptor (xm_mi 89).1.desc).map (fun d => d.parameters.length) = some 2 := by rw [xk89_e]; decide +kernel
theorem xk89_3 : Cond.instanceMethod (xm_mi 89).1 ∈ xw_ALL := by rw [xk89_e]; exact ww_470
theorem xk89_4 : Cond.selects (xm_mi 89).1.cls (xm_mi 89).1 (xm_mi 89).1 ∈ xw_ALL := by rw [xk89_e]; exact ww_471
theorem xk89_c : vwCl[8]? = some ((xm_mi 89).1.cls, TX10, 11) := by rw [xk89_e]; rfl
theorem xk90_e : xm_mi 90 = (yX10_odd, cX10_odd, 2, (some .int)) := rfl
theorem xk90_0 : Cond.code (xm_mi 90).1 (xm_mi 90).2.1 (xm_mi 90).2.2.1 (xm_mi 90).2.2.2 ∈ xw_ALL := by rw [xk90_e]; exact ww_505
theorem xk90_2 : Cond.initialized (xm_mi 90).1.cls ∈ xw_ALL := by rw [xk90_e]; exact ww_1
theorem xk90_m : (xm_mi 90).2.2.1 ≤ 21 := by rw [xk90_e]; decide
theorem xk90_d : (xm_mi 90).1.cls ≠ "java/lang/invoke/MethodHandle" ∧ (xm_mi 90).1.cls ≠ "java/lang/invoke/VarHandle" ∧ (parseMethodDescriptor (xm_mi 90).1.desc).map (fun d => d.parameters.length) = some 1 := by rw [xk90_e]; decide +kernel
theorem xk90_3 : Cond.instanceMethod (xm_mi 90).1 ∈ xw_ALL := by rw [xk90_e]; exact ww_503
theorem xk90_4 : Cond.selects (xm_mi 90).1.cls (xm_mi 90).1 (xm_mi 90).1 ∈ xw_ALL := by rw [xk90_e]; exact ww_504
theorem xk90_c : vwCl[8]? = some ((xm_mi 90).1.cls, TX10, 11) := by rw [xk90_e]; rfl
theorem xk91_e : xm_mi 91 = (yX10_cuts, cX10_cuts, 3, (some .int)) := rfl
theorem xk91_0 : Cond.code (xm_mi 91).1 (xm_mi 91).2.1 (xm_mi 91).2.2.1 (xm_mi 91).2.2.2 ∈ xw_ALL := by rw [xk91_e]; exact ww_533
theorem xk91_2 : Cond.initialized (xm_mi 91).1.cls ∈ xw_ALL := by rw [xk91_e]; exact ww_1
theorem xk91_m : (xm_mi 91).2.2.1 ≤ 21 := by rw [xk91_e]; decide
theorem xk91_d : (xm_mi 91).1.cls ≠ "java/lang/invoke/MethodHandle" ∧ (xm_mi 91).1.cls ≠ "java/lang/invoke/VarHandle" ∧ (parseMethodDescriptor (xm_mi 91).1.desc).map (fun d => d.parameters.length) = some 1 := by rw [xk91_e]; decide +kernel
theorem xk91_3 : Cond.instanceMethod (xm_mi 91).1 ∈ xw_ALL := by rw [xk91_e]; exact ww_531
theorem xk91_4 : Cond.selects (xm_mi 91).1.cls (xm_mi 91).1 (xm_mi 91).1 ∈ xw_ALL := by rw [xk91_e]; exact ww_532
theorem xk91_c : vwCl[8]? = some ((xm_mi 91).1.cls, TX10, 11) := by rw [xk91_e]; rfl
theorem xk92_e : xm_mi 92 = (yX10_way, cX10_way, 2, (some .int)) := rfl
theorem xk92_0 : Cond.code (xm_mi 92).1 (xm_mi 92).2.1 (xm_mi 92).2.2.1 (xm_mi 92).2.2.2 ∈ xw_ALL := by rw [xk92_e]; exact ww_545
theorem xk92_2 : Cond.initialized (xm_mi 92).1.cls ∈ xw_ALL := by rw [xk92_e]; exact ww_1
theorem xk92_m : (xm_mi 92).2.2.1 ≤ 21 := by rw [xk92_e]; decide
theorem xk92_d : (xm_mi 92).1.cls ≠ "java/lang/invoke/MethodHandle" ∧ (xm_mi 92).1.cls ≠ "java/lang/invoke/VarHandle" ∧ (parseMethodDescriptor (xm_mi 92).1.desc).map (fun d => d.parameters.length) = some 1 := by rw [xk92_e]; decide +kernel
theorem xk92_3 : Cond.instanceMethod (xm_mi 92).1 ∈ xw_ALL := by rw [xk92_e]; exact ww_543
theorem xk92_4 : Cond.selects (xm_mi 92).1.cls (xm_mi 92).1 (xm_mi 92).1 ∈ xw_ALL := by rw [xk92_e]; exact ww_544
theorem xk92_c : vwCl[8]? = some ((xm_mi 92).1.cls, TX10, 11) := by rw [xk92_e]; rfl
theorem xk93_e : xm_mi 93 = (yX10_hole, cX10_hole, 3, (some .int)) := rfl
theorem xk93_0 : Cond.code (xm_mi 93).1 (xm_mi 93).2.1 (xm_mi 93).2.2.1 (xm_mi 93).2.2.2 ∈ xw_ALL := by rw [xk93_e]; exact ww_562
theorem xk93_2 : Cond.initialized (xm_mi 93).1.cls ∈ xw_ALL := by rw [xk93_e]; exact ww_1
theorem xk93_m : (xm_mi 93).2.2.1 ≤ 21 := by rw [xk93_e]; decide
theorem xk93_d : (xm_mi 93).1.cls ≠ "java/lang/invoke/MethodHandle" ∧ (xm_mi 93).1.cls ≠ "java/lang/invoke/VarHandle" ∧ (parseMethodDescriptor (xm_mi 93).1.desc).map (fun d => d.parameters.length) = some 1 := by rw [xk93_e]; decide +kernel
theorem xk93_3 : Cond.instanceMethod (xm_mi 93).1 ∈ xw_ALL := by rw [xk93_e]; exact ww_560
theorem xk93_4 : Cond.selects (xm_mi 93).1.cls (xm_mi 93).1 (xm_mi 93).1 ∈ xw_ALL := by rw [xk93_e]; exact ww_561
theorem xk93_c : vwCl[8]? = some ((xm_mi 93).1.cls, TX10, 11) := by rw [xk93_e]; rfl
theorem xk94_e : xm_mi 94 = (yX10_open, cX10_open, 1, (some .int)) := rfl
theorem xk94_0 : Cond.code (xm_mi 94).1 (xm_mi 94).2.1 (xm_mi 94).2.2.1 (xm_mi 94).2.2.2 ∈ xw_ALL := by rw [xk94_e]; exact ww_573
theorem xk94_2 : Cond.initialized (xm_mi 94).1.cls ∈ xw_ALL := by rw [xk94_e]; exact ww_1
theorem xk94_m : (xm_mi 94).2.2.1 ≤ 21 := by rw [xk94_e]; decide
theorem xk94_d : (xm_mi 94).1.cls ≠ "java/lang/invoke/MethodHandle" ∧ (xm_mi 94).1.cls ≠ "java/lang/invoke/VarHandle" ∧ (parseMethodDescriptor (xm_mi 94).1.desc).map (fun d => d.parameters.length) = some 0 := by rw [xk94_e]; decide +kernel
theorem xk94_3 : Cond.instanceMethod (xm_mi 94).1 ∈ xw_ALL := by rw [xk94_e]; exact ww_571
theorem xk94_4 : Cond.selects (xm_mi 94).1.cls (xm_mi 94).1 (xm_mi 94).1 ∈ xw_ALL := by rw [xk94_e]; exact ww_572
theorem xk94_c : vwCl[8]? = some ((xm_mi 94).1.cls, TX10, 11) := by rw [xk94_e]; rfl
theorem xk95_e : xm_mi 95 = (yX10_minutes, cX10_minutes, 3, (some .int)) := rfl
theorem xk95_0 : Cond.code (xm_mi 95).1 (xm_mi 95).2.1 (xm_mi 95).2.2.1 (xm_mi 95).2.2.2 ∈ xw_ALL := by rw [xk95_e]; exact ww_581
theorem xk95_2 : Cond.initialized (xm_mi 95).1.cls ∈ xw_ALL := by rw [xk95_e]; exact ww_1
theorem xk95_m : (xm_mi 95).2.2.1 ≤ 21 := by rw [xk95_e]; decide
theorem xk95_d : (xm_mi 95).1.cls ≠ "java/lang/invoke/MethodHandle" ∧ (xm_mi 95).1.cls ≠ "java/lang/invoke/VarHandle" ∧ (parseMethodDescriptor (xm_mi 95).1.desc).map (fun d => d.parameters.length) = some 1 := by rw [xk95_e]; decide +kernel
theorem xk95_3 : Cond.instanceMethod (xm_mi 95).1 ∈ xw_ALL := by rw [xk95_e]; exact ww_579
theorem xk95_4 : Cond.selects (xm_mi 95).1.cls (xm_mi 95).1 (xm_mi 95).1 ∈ xw_ALL := by rw [xk95_e]; exact ww_580
theorem xk95_c : vwCl[8]? = some ((xm_mi 95).1.cls, TX10, 11) := by rw [xk95_e]; rfl
theorem xk96_e : xm_mi 96 = (yX10_days, cX10_days, 3, (some .int)) := rfl
theorem xk96_0 : Cond.code (xm_mi 96).1 (xm_mi 96).2.1 (xm_mi 96).2.2.1 (xm_mi 96).2.2.2 ∈ xw_ALL := by rw [xk96_e]; exact ww_598
theorem xk96_2 : Cond.initialized (xm_mi 96).1.cls ∈ xw_ALL := by rw [xk96_e]; exact ww_1
theorem xk96_m : (xm_mi 96).2.2.1 ≤ 21 := by rw [xk96_e]; decide
theorem xk96_d : (xm_mi 96).1.cls ≠ "java/lang/invoke/MethodHandle" ∧ (xm_mi 96).1.cls ≠ "java/lang/invoke/VarHandle" ∧ (parseMethodDescriptor (xm_mi 96).1.desc).map (fun d => d.parameters.length) = some 1 := by rw [xk96_e]; decide +kernel
theorem xk96_3 : Cond.instanceMethod (xm_mi 96).1 ∈ xw_ALL := by rw [xk96_e]; exact ww_596
theorem xk96_4 : Cond.selects (xm_mi 96).1.cls (xm_mi 96).1 (xm_mi 96).1 ∈ xw_ALL := by rw [xk96_e]; exact ww_597
theorem xk96_c : vwCl[8]? = some ((xm_mi 96).1.cls, TX10, 11) := by rw [xk96_e]; rfl
theorem xk97_e : xm_mi 97 = (yX10_draws, cX10_draws, 4, (some .int)) := rfl
theorem xk97_0 : Cond.code (xm_mi 97).1 (xm_mi 97).2.1 (xm_mi 97).2.2.1 (xm_mi 97).2.2.2 ∈ xw_ALL := by rw [xk97_e]; exact ww_619
theorem xk97_2 : Cond.initialized (xm_mi 97).1.cls ∈ xw_ALL := by rw [xk97_e]; exact ww_1
theorem xk97_m : (xm_mi 97).2.2.1 ≤ 21 := by rw [xk97_e]; decide
theorem xk97_d : (xm_mi 97).1.cls ≠ "java/lang/invoke/MethodHandle" ∧ (xm_mi 97).1.cls ≠ "java/lang/invoke/VarHandle" ∧ (parseMethodDescriptor (xm_mi 97).1.desc).map (fun d => d.parameters.length) = some 1 := by rw [xk97_e]; decide +kernel
theorem xk97_3 : Cond.instanceMethod (xm_mi 97).1 ∈ xw_ALL := by rw [xk97_e]; exact ww_617
theorem xk97_4 : Cond.selects (xm_mi 97).1.cls (xm_mi 97).1 (xm_mi 97).1 ∈ xw_ALL := by rw [xk97_e]; exact ww_618
theorem xk97_c : vwCl[8]? = some ((xm_mi 97).1.cls, TX10, 11) := by rw [xk97_e]; rfl
theorem xk98_e : xm_mi 98 = (yX10_seed, cX10_seed, 3, (some .int)) := rfl
theorem xk98_0 : Cond.code (xm_mi 98).1 (xm_mi 98).2.1 (xm_mi 98).2.2.1 (xm_mi 98).2.2.2 ∈ xw_ALL := by rw [xk98_e]; exact ww_629
theorem xk98_2 : Cond.initialized (xm_mi 98).1.cls ∈ xw_ALL := by rw [xk98_e]; exact ww_1
theorem xk98_m : (xm_mi 98).2.2.1 ≤ 21 := by rw [xk98_e]; decide
theorem xk98_d : (xm_mi 98).1.cls ≠ "java/lang/invoke/MethodHandle" ∧ (xm_mi 98).1.cls ≠ "java/lang/invoke/VarHandle" ∧ (parseMethodDescriptor (xm_mi 98).1.desc).map (fun d => d.parameters.length) = some 1 := by rw [xk98_e]; decide +kernel
theorem xk98_3 : Cond.instanceMethod (xm_mi 98).1 ∈ xw_ALL := by rw [xk98_e]; exact ww_627
theorem xk98_4 : Cond.selects (xm_mi 98).1.cls (xm_mi 98).1 (xm_mi 98).1 ∈ xw_ALL := by rw [xk98_e]; exact ww_628
theorem xk98_c : vwCl[8]? = some ((xm_mi 98).1.cls, TX10, 11) := by rw [xk98_e]; rfl
theorem xk99_e : xm_mi 99 = (yX10_then, cX10_then, 4, (some .int)) := rfl
theorem xk99_0 : Cond.code (xm_mi 99).1 (xm_mi 99).2.1 (xm_mi 99).2.2.1 (xm_mi 99).2.2.2 ∈ xw_ALL := by rw [xk99_e]; exact ww_633
theorem xk99_2 : Cond.initialized (xm_mi 99).1.cls ∈ xw_ALL := by rw [xk99_e]; exact ww_1
theorem xk99_m : (xm_mi 99).2.2.1 ≤ 21 := by rw [xk99_e]; decide
theorem xk99_d : (xm_mi 99).1.cls ≠ "java/lang/invoke/MethodHandle" ∧ (xm_mi 99).1.cls ≠ "java/lang/invoke/VarHandle" ∧ (parseMethodDescriptor (xm_mi 99).1.desc).map (fun d => d.parameters.length) = some 3 := by rw [xk99_e]; decide +kernel
theorem xk99_3 : Cond.instanceMethod (xm_mi 99).1 ∈ xw_ALL := by rw [xk99_e]; exact ww_631
theorem xk99_4 : Cond.selects (xm_mi 99).1.cls (xm_mi 99).1 (xm_mi 99).1 ∈ xw_ALL := by rw [xk99_e]; exact ww_632
theorem xk99_c : vwCl[8]? = some ((xm_mi 99).1.cls, TX10, 11) := by rw [xk99_e]; rfl
theorem xk100_e : xm_mi 100 = (yX10_goes, cX10_goes, 5, (some .int)) := rfl
theorem xk100_0 : Cond.code (xm_mi 100).1 (xm_mi 100).2.1 (xm_mi 100).2.2.1 (xm_mi 100).2.2.2 ∈ xw_ALL := by rw [xk100_e]; exact ww_643
theorem xk100_2 : Cond.initialized (xm_mi 100).1.cls ∈ xw_ALL := by rw [xk100_e]; exact ww_1
theorem xk100_m : (xm_mi 100).2.2.1 ≤ 21 := by rw [xk100_e]; decide
theorem xk100_d : (xm_mi 100).1.cls ≠ "java/lang/invoke/MethodHandle" ∧ (xm_mi 100).1.cls ≠ "java/lang/invoke/VarHandle" ∧ (parseMethodDescriptor (xm_mi 100).1.desc).map (fun d => d.parameters.length) = some 2 := by rw [xk100_e]; decide +kernel
theorem xk100_3 : Cond.instanceMethod (xm_mi 100).1 ∈ xw_ALL := by rw [xk100_e]; exact ww_641
theorem xk100_4 : Cond.selects (xm_mi 100).1.cls (xm_mi 100).1 (xm_mi 100).1 ∈ xw_ALL := by rw [xk100_e]; exact ww_642
theorem xk100_c : vwCl[8]? = some ((xm_mi 100).1.cls, TX10, 11) := by rw [xk100_e]; rfl
theorem xk101_e : xm_mi 101 = (yX10_mendAhead, cX10_mendAhead, 7, (some .int)) := rfl
theorem xk101_0 : Cond.code (xm_mi 101).1 (xm_mi 101).2.1 (xm_mi 101).2.2.1 (xm_mi 101).2.2.2 ∈ xw_ALL := by rw [xk101_e]; exact ww_648
theorem xk101_2 : Cond.initialized (xm_mi 101).1.cls ∈ xw_ALL := by rw [xk101_e]; exact ww_1
theorem xk101_m : (xm_mi 101).2.2.1 ≤ 21 := by rw [xk101_e]; decide
theorem xk101_d : (xm_mi 101).1.cls ≠ "java/lang/invoke/MethodHandle" ∧ (xm_mi 101).1.cls ≠ "java/lang/invoke/VarHandle" ∧ (parseMethodDescriptor (xm_mi 101).1.desc).map (fun d => d.parameters.length) = some 2 := by rw [xk101_e]; decide +kernel
theorem xk101_3 : Cond.instanceMethod (xm_mi 101).1 ∈ xw_ALL := by rw [xk101_e]; exact ww_646
theorem xk101_4 : Cond.selects (xm_mi 101).1.cls (xm_mi 101).1 (xm_mi 101).1 ∈ xw_ALL := by rw [xk101_e]; exact ww_647
theorem xk101_c : vwCl[8]? = some ((xm_mi 101).1.cls, TX10, 11) := by rw [xk101_e]; rfl
theorem xk102_e : xm_mi 102 = (yX10_hands, cX10_hands, 5, (some .int)) := rfl
theorem xk102_0 : Cond.code (xm_mi 102).1 (xm_mi 102).2.1 (xm_mi 102).2.2.1 (xm_mi 102).2.2.2 ∈ xw_ALL := by rw [xk102_e]; exact ww_656
theorem xk102_2 : Cond.initialized (xm_mi 102).1.cls ∈ xw_ALL := by rw [xk102_e]; exact ww_1
theorem xk102_m : (xm_mi 102).2.2.1 ≤ 21 := by rw [xk102_e]; decide
theorem xk102_d : (xm_mi 102).1.cls ≠ "java/lang/invoke/MethodHandle" ∧ (xm_mi 102).1.cls ≠ "java/lang/invoke/VarHandle" ∧ (parseMethodDescriptor (xm_mi 102).1.desc).map (fun d => d.parameters.length) = some 2 := by rw [xk102_e]; decide +kernel
theorem xk102_3 : Cond.instanceMethod (xm_mi 102).1 ∈ xw_ALL := by rw [xk102_e]; exact ww_654
theorem xk102_4 : Cond.selects (xm_mi 102).1.cls (xm_mi 102).1 (xm_mi 102).1 ∈ xw_ALL := by rw [xk102_e]; exact ww_655
theorem xk102_c : vwCl[8]? = some ((xm_mi 102).1.cls, TX10, 11) := by rw [xk102_e]; rfl
theorem xk103_e : xm_mi 103 = (yX10_swimsOut, cX10_swimsOut, 4, (some .long)) := rfl
theorem xk103_0 : Cond.code (xm_mi 103).1 (xm_mi 103).2.1 (xm_mi 103).2.2.1 (xm_mi 103).2.2.2 ∈ xw_ALL := by rw [xk103_e]; exact ww_660
theorem xk103_2 : Cond.initialized (xm_mi 103).1.cls ∈ xw_ALL := by rw [xk103_e]; exact ww_1
theorem xk103_m : (xm_mi 103).2.2.1 ≤ 21 := by rw [xk103_e]; decide
theorem xk103_d : (xm_mi 103).1.cls ≠ "java/lang/invoke/MethodHandle" ∧ (xm_mi 103).1.cls ≠ "java/lang/invoke/VarHandle" ∧ (parseMethodDescriptor (xm_mi 103).1.desc).map (fun d => d.parameters.length) = some 1 := by rw [xk103_e]; decide +kernel
theorem xk103_3 : Cond.instanceMethod (xm_mi 103).1 ∈ xw_ALL := by rw [xk103_e]; exact ww_658
theorem xk103_4 : Cond.selects (xm_mi 103).1.cls (xm_mi 103).1 (xm_mi 103).1 ∈ xw_ALL := by rw [xk103_e]; exact ww_659
theorem xk103_c : vwCl[8]? = some ((xm_mi 103).1.cls, TX10, 11) := by rw [xk103_e]; rfl
theorem xk104_e : xm_mi 104 = (yX10_voice, cX10_voice, 5, (some .int)) := rfl
theorem xk104_0 : Cond.code (xm_mi 104).1 (xm_mi 104).2.1 (xm_mi 104).2.2.1 (xm_mi 104).2.2.2 ∈ xw_ALL := by rw [xk104_e]; exact ww_665
theorem xk104_2 : Cond.initialized (xm_mi 104).1.cls ∈ xw_ALL := by rw [xk104_e]; exact ww_1
theorem xk104_m : (xm_mi 104).2.2.1 ≤ 21 := by rw [xk104_e]; decide
theorem xk104_d : (xm_mi 104).1.cls ≠ "java/lang/invoke/MethodHandle" ∧ (xm_mi 104).1.cls ≠ "java/lang/invoke/VarHandle" ∧ (parseMethodDescriptor (xm_mi 104).1.desc).map (fun d => d.parameters.length) = some 3 := by rw [xk104_e]; decide +kernel
theorem xk104_3 : Cond.instanceMethod (xm_mi 104).1 ∈ xw_ALL := by rw [xk104_e]; exact ww_663
theorem xk104_4 : Cond.selects (xm_mi 104).1.cls (xm_mi 104).1 (xm_mi 104).1 ∈ xw_ALL := by rw [xk104_e]; exact ww_664
theorem xk104_c : vwCl[8]? = some ((xm_mi 104).1.cls, TX10, 11) := by rw [xk104_e]; rfl
theorem xk105_e : xm_mi 105 = (yX10_body, cX10_body, 2, (some .int)) := rfl
theorem xk105_0 : Cond.code (xm_mi 105).1 (xm_mi 105).2.1 (xm_mi 105).2.2.1 (xm_mi 105).2.2.2 ∈ xw_ALL := by rw [xk105_e]; exact ww_685
theorem xk105_2 : Cond.initialized (xm_mi 105).1.cls ∈ xw_ALL := by rw [xk105_e]; exact ww_1
theorem xk105_m : (xm_mi 105).2.2.1 ≤ 21 := by rw [xk105_e]; decide
theorem xk105_d : (xm_mi 105).1.cls ≠ "java/lang/invoke/MethodHandle" ∧ (xm_mi 105).1.cls ≠ "java/lang/invoke/VarHandle" ∧ (parseMethodDescriptor (xm_mi 105).1.desc).map (fun d => d.parameters.length) = some 1 := by rw [xk105_e]; decide +kernel
theorem xk105_3 : Cond.instanceMethod (xm_mi 105).1 ∈ xw_ALL := by rw [xk105_e]; exact ww_683
theorem xk105_4 : Cond.selects (xm_mi 105).1.cls (xm_mi 105).1 (xm_mi 105).1 ∈ xw_ALL := by rw [xk105_e]; exact ww_684
theorem xk105_c : vwCl[8]? = some ((xm_mi 105).1.cls, TX10, 11) := by rw [xk105_e]; rfl
theorem xk106_e : xm_mi 106 = (yX10_sheet, cX10_sheet, 4, (some .int)) := rfl
theorem xk106_0 : Cond.code (xm_mi 106).1 (xm_mi 106).2.1 (xm_mi 106).2.2.1 (xm_mi 106).2.2.2 ∈ xw_ALL := by rw [xk106_e]; exact ww_689
theorem xk106_2 : Cond.initialized (xm_mi 106).1.cls ∈ xw_ALL := by rw [xk106_e]; exact ww_1
theorem xk106_m : (xm_mi 106).2.2.1 ≤ 21 := by rw [xk106_e]; decide
theorem xk106_d : (xm_mi 106).1.cls ≠ "java/lang/invoke/MethodHandle" ∧ (xm_mi 106).1.cls ≠ "java/lang/invoke/VarHandle" ∧ (parseMethodDescriptor (xm_mi 106).1.desc).map (fun d => d.parameters.length) = some 3 := by rw [xk106_e]; decide +kernel
theorem xk106_3 : Cond.instanceMethod (xm_mi 106).1 ∈ xw_ALL := by rw [xk106_e]; exact ww_687
theorem xk106_4 : Cond.selects (xm_mi 106).1.cls (xm_mi 106).1 (xm_mi 106).1 ∈ xw_ALL := by rw [xk106_e]; exact ww_688
theorem xk106_c : vwCl[8]? = some ((xm_mi 106).1.cls, TX10, 11) := by rw [xk106_e]; rfl
theorem xk107_e : xm_mi 107 = (yX10_put, cX10_put, 5, (some .int)) := rfl
theorem xk107_0 : Cond.code (xm_mi 107).1 (xm_mi 107).2.1 (xm_mi 107).2.2.1 (xm_mi 107).2.2.2 ∈ xw_ALL := by rw [xk107_e]; exact ww_697
theorem xk107_2 : Cond.initialized (xm_mi 107).1.cls ∈ xw_ALL := by rw [xk107_e]; exact ww_1
theorem xk107_m : (xm_mi 107).2.2.1 ≤ 21 := by rw [xk107_e]; decide
theorem xk107_d : (xm_mi 107).1.cls ≠ "java/lang/invoke/MethodHandle" ∧ (xm_mi 107).1.cls ≠ "java/lang/invoke/VarHandle" ∧ (parseMethodDescriptor (xm_mi 107).1.desc).map (fun d => d.parameters.length) = some 3 := by rw [xk107_e]; decide +kernel
theorem xk107_3 : Cond.instanceMethod (xm_mi 107).1 ∈ xw_ALL := by rw [xk107_e]; exact ww_695
theorem xk107_4 : Cond.selects (xm_mi 107).1.cls (xm_mi 107).1 (xm_mi 107).1 ∈ xw_ALL := by rw [xk107_e]; exact ww_696
theorem xk107_c : vwCl[8]? = some ((xm_mi 107).1.cls, TX10, 11) := by rw [xk107_e]; rfl
theorem xk108_e : xm_mi 108 = (yX10_move, cX10_move, 8, (some .int)) := rfl
theorem xk108_0 : Cond.code (xm_mi 108).1 (xm_mi 108).2.1 (xm_mi 108).2.2.1 (xm_mi 108).2.2.2 ∈ xw_ALL := by rw [xk108_e]; exact ww_705
theorem xk108_2 : Cond.initialized (xm_mi 108).1.cls ∈ xw_ALL := by rw [xk108_e]; exact ww_1
theorem xk108_m : (xm_mi 108).2.2.1 ≤ 21 := by rw [xk108_e]; decide
theorem xk108_d : (xm_mi 108).1.cls ≠ "java/lang/invoke/MethodHandle" ∧ (xm_mi 108).1.cls ≠ "java/lang/invoke/VarHandle" ∧ (parseMethodDescriptor (xm_mi 108).1.desc).map (fun d => d.parameters.length) = some 5 := by rw [xk108_e]; decide +kernel
theorem xk108_3 : Cond.instanceMethod (xm_mi 108).1 ∈ xw_ALL := by rw [xk108_e]; exact ww_703
theorem xk108_4 : Cond.selects (xm_mi 108).1.cls (xm_mi 108).1 (xm_mi 108).1 ∈ xw_ALL := by rw [xk108_e]; exact ww_704
theorem xk108_c : vwCl[8]? = some ((xm_mi 108).1.cls, TX10, 11) := by rw [xk108_e]; rfl
theorem xk109_e : xm_mi 109 = (yX10_cutAll, cX10_cutAll, 6, (some .int)) := rfl
theorem xk109_0 : Cond.code (xm_mi 109).1 (xm_mi 109).2.1 (xm_mi 109).2.2.1 (xm_mi 109).2.2.2 ∈ xw_ALL := by rw [xk109_e]; exact ww_714
theorem xk109_2 : Cond.initialized (xm_mi 109).1.cls ∈ xw_ALL := by rw [xk109_e]; exact ww_1
theorem xk109_m : (xm_mi 109).2.2.1 ≤ 21 := by rw [xk109_e]; decide
theorem xk109_d : (xm_mi 109).1.cls ≠ "java/lang/invoke/MethodHandle" ∧ (xm_mi 109).1.cls ≠ "java/lang/invoke/VarHandle" ∧ (parseMethodDescriptor (xm_mi 109).1.desc).map (fun d => d.parameters.length) = some 1 := by rw [xk109_e]; decide +kernel
theorem xk109_3 : Cond.instanceMethod (xm_mi 109).1 ∈ xw_ALL := by rw [xk109_e]; exact ww_712
theorem xk109_4 : Cond.selects (xm_mi 109).1.cls (xm_mi 109).1 (xm_mi 109).1 ∈ xw_ALL := by rw [xk109_e]; exact ww_713
theorem xk109_c : vwCl[8]? = some ((xm_mi 109).1.cls, TX10, 11) := by rw [xk109_e]; rfl
theorem xk110_e : xm_mi 110 = (yX10_judge, cX10_judge, 5, (some .int)) := rfl
theorem xk110_0 : Cond.code (xm_mi 110).1 (xm_mi 110).2.1 (xm_mi 110).2.2.1 (xm_mi 110).2.2.2 ∈ xw_ALL := by rw [xk110_e]; exact ww_722
theorem xk110_2 : Cond.initialized (xm_mi 110).1.cls ∈ xw_ALL := by rw [xk110_e]; exact ww_1
theorem xk110_m : (xm_mi 110).2.2.1 ≤ 21 := by rw [xk110_e]; decide
theorem xk110_d : (xm_mi 110).1.cls ≠ "java/lang/invoke/MethodHandle" ∧ (xm_mi 110).1.cls ≠ "java/lang/invoke/VarHandle" ∧ (parseMethodDescriptor (xm_mi 110).1.desc).map (fun d => d.parameters.length) = some 1 := by rw [xk110_e]; decide +kernel
theorem xk110_3 : Cond.instanceMethod (xm_mi 110).1 ∈ xw_ALL := by rw [xk110_e]; exact ww_720
theorem xk110_4 : Cond.selects (xm_mi 110).1.cls (xm_mi 110).1 (xm_mi 110).1 ∈ xw_ALL := by rw [xk110_e]; exact ww_721
theorem xk110_c : vwCl[8]? = some ((xm_mi 110).1.cls, TX10, 11) := by rw [xk110_e]; rfl
theorem xk111_e : xm_mi 111 = (yX10_image, cX10_image, 1, (some .int)) := rfl
theorem xk111_0 : Cond.code (xm_mi 111).1 (xm_mi 111).2.1 (xm_mi 111).2.2.1 (xm_mi 111).2.2.2 ∈ xw_ALL := by rw [xk111_e]; exact ww_726
theorem xk111_2 : Cond.initialized (xm_mi 111).1.cls ∈ xw_ALL := by rw [xk111_e]; exact ww_1
theorem xk111_m : (xm_mi 111).2.2.1 ≤ 21 := by rw [xk111_e]; decide
theorem xk111_d : (xm_mi 111).1.cls ≠ "java/lang/invoke/MethodHandle" ∧ (xm_mi 111).1.cls ≠ "java/lang/invoke/VarHandle" ∧ (parseMethodDescriptor (xm_mi 111).1.desc).map (fun d => d.parameters.length) = some 0 := by rw [xk111_e]; decide +kernel
theorem xk111_3 : Cond.instanceMethod (xm_mi 111).1 ∈ xw_ALL := by rw [xk111_e]; exact ww_724
theorem xk111_4 : Cond.selects (xm_mi 111).1.cls (xm_mi 111).1 (xm_mi 111).1 ∈ xw_ALL := by rw [xk111_e]; exact ww_725
theorem xk111_c : vwCl[8]? = some ((xm_mi 111).1.cls, TX10, 11) := by rw [xk111_e]; rfl
theorem xk112_e : xm_mi 112 = (yX10_restore, cX10_restore, 1, (some .int)) := rfl
theorem xk112_0 : Cond.code (xm_mi 112).1 (xm_mi 112).2.1 (xm_mi 112).2.2.1 (xm_mi 112).2.2.2 ∈ xw_ALL := by rw [xk112_e]; exact ww_736
theorem xk112_2 : Cond.initialized (xm_mi 112).1.cls ∈ xw_ALL := by rw [xk112_e]; exact ww_1
theorem xk112_m : (xm_mi 112).2.2.1 ≤ 21 := by rw [xk112_e]; decide
theorem xk112_d : (xm_mi 112).1.cls ≠ "java/lang/invoke/MethodHandle" ∧ (xm_mi 112).1.cls ≠ "java/lang/invoke/VarHandle" ∧ (parseMethodDescriptor (xm_mi 112).1.desc).map (fun d => d.parameters.length) = some 0 := by rw [xk112_e]; decide +kernel
theorem xk112_3 : Cond.instanceMethod (xm_mi 112).1 ∈ xw_ALL := by rw [xk112_e]; exact ww_734
theorem xk112_4 : Cond.selects (xm_mi 112).1.cls (xm_mi 112).1 (xm_mi 112).1 ∈ xw_ALL := by rw [xk112_e]; exact ww_735
theorem xk112_c : vwCl[8]? = some ((xm_mi 112).1.cls, TX10, 11) := by rw [xk112_e]; rfl
theorem xk113_e : xm_mi 113 = (yX10_tell, cX10_tell, 2, (some .int)) := rfl
theorem xk113_0 : Cond.code (xm_mi 113).1 (xm_mi 113).2.1 (xm_mi 113).2.2.1 (xm_mi 113).2.2.2 ∈ xw_ALL := by rw [xk113_e]; exact ww_740
theorem xk113_2 : Cond.initialized (xm_mi 113).1.cls ∈ xw_ALL := by rw [xk113_e]; exact ww_1
theorem xk113_m : (xm_mi 113).2.2.1 ≤ 21 := by rw [xk113_e]; decide
theorem xk113_d : (xm_mi 113).1.cls ≠ "java/lang/invoke/MethodHandle" ∧ (xm_mi 113).1.cls ≠ "java/lang/invoke/VarHandle" ∧ (parseMethodDescriptor (xm_mi 113).1.desc).map (fun d => d.parameters.length) = some 1 := by rw [xk113_e]; decide +kernel
theorem xk113_3 : Cond.instanceMethod (xm_mi 113).1 ∈ xw_ALL := by rw [xk113_e]; exact ww_738
theorem xk113_4 : Cond.selects (xm_mi 113).1.cls (xm_mi 113).1 (xm_mi 113).1 ∈ xw_ALL := by rw [xk113_e]; exact ww_739
theorem xk113_c : vwCl[8]? = some ((xm_mi 113).1.cls, TX10, 11) := by rw [xk113_e]; rfl
theorem xk114_e : xm_mi 114 = (yX10_check, cX10_check, 3, (some .int)) := rfl
theorem xk114_0 : Cond.code (xm_mi 114).1 (xm_mi 114).2.1 (xm_mi 114).2.2.1 (xm_mi 114).2.2.2 ∈ xw_ALL := by rw [xk114_e]; exact ww_744
theorem xk114_2 : Cond.initialized (xm_mi 114).1.cls ∈ xw_ALL := by rw [xk114_e]; exact ww_1
theorem xk114_m : (xm_mi 114).2.2.1 ≤ 21 := by rw [xk114_e]; decide
theorem xk114_d : (xm_mi 114).1.cls ≠ "java/lang/invoke/MethodHandle" ∧ (xm_mi 114).1.cls ≠ "java/lang/invoke/VarHandle" ∧ (parseMethodDescriptor (xm_mi 114).1.desc).map (fun d => d.parameters.length) = some 0 := by rw [xk114_e]; decide +kernel
theorem xk114_3 : Cond.instanceMethod (xm_mi 114).1 ∈ xw_ALL := by rw [xk114_e]; exact ww_742
theorem xk114_4 : Cond.selects (xm_mi 114).1.cls (xm_mi 114).1 (xm_mi 114).1 ∈ xw_ALL := by rw [xk114_e]; exact ww_743
theorem xk114_c : vwCl[8]? = some ((xm_mi 114).1.cls, TX10, 11) := by rw [xk114_e]; rfl
theorem xk115_e : xm_mi 115 = (yX10_count, cX10_count, 2, (some .int)) := rfl
theorem xk115_0 : Cond.code (xm_mi 115).1 (xm_mi 115).2.1 (xm_mi 115).2.2.1 (xm_mi 115).2.2.2 ∈ xw_ALL := by rw [xk115_e]; exact ww_748
theorem xk115_2 : Cond.initialized (xm_mi 115).1.cls ∈ xw_ALL := by rw [xk115_e]; exact ww_1
theorem xk115_m : (xm_mi 115).2.2.1 ≤ 21 := by rw [xk115_e]; decide
theorem xk115_d : (xm_mi 115).1.cls ≠ "java/lang/invoke/MethodHandle" ∧ (xm_mi 115).1.cls ≠ "java/lang/invoke/VarHandle" ∧ (parseMethodDescriptor (xm_mi 115).1.desc).map (fun d => d.parameters.length) = some 1 := by rw [xk115_e]; decide +kernel
theorem xk115_3 : Cond.instanceMethod (xm_mi 115).1 ∈ xw_ALL := by rw [xk115_e]; exact ww_746
theorem xk115_4 : Cond.selects (xm_mi 115).1.cls (xm_mi 115).1 (xm_mi 115).1 ∈ xw_ALL := by rw [xk115_e]; exact ww_747
theorem xk115_c : vwCl[8]? = some ((xm_mi 115).1.cls, TX10, 11) := by rw [xk115_e]; rfl
theorem xk116_e : xm_mi 116 = (yX10_told, cX10_told, 2, (some .int)) := rfl
theorem xk116_0 : Cond.code (xm_mi 116).1 (xm_mi 116).2.1 (xm_mi 116).2.2.1 (xm_mi 116).2.2.2 ∈ xw_ALL := by rw [xk116_e]; exact ww_760
theorem xk116_2 : Cond.initialized (xm_mi 116).1.cls ∈ xw_ALL := by rw [xk116_e]; exact ww_1
theorem xk116_m : (xm_mi 116).2.2.1 ≤ 21 := by rw [xk116_e]; decide
theorem xk116_d : (xm_mi 116).1.cls ≠ "java/lang/invoke/MethodHandle" ∧ (xm_mi 116).1.cls ≠ "java/lang/invoke/VarHandle" ∧ (parseMethodDescriptor (xm_mi 116).1.desc).map (fun d => d.parameters.length) = some 1 := by rw [xk116_e]; decide +kernel
theorem xk116_3 : Cond.instanceMethod (xm_mi 116).1 ∈ xw_ALL := by rw [xk116_e]; exact ww_758
theorem xk116_4 : Cond.selects (xm_mi 116).1.cls (xm_mi 116).1 (xm_mi 116).1 ∈ xw_ALL := by rw [xk116_e]; exact ww_759
theorem xk116_c : vwCl[8]? = some ((xm_mi 116).1.cls, TX10, 11) := by rw [xk116_e]; rfl
theorem xk117_e : xm_mi 117 = (yX10_isBelow, cX10_isBelow, 2, (some .boolean)) := rfl
theorem xk117_0 : Cond.code (xm_mi 117).1 (xm_mi 117).2.1 (xm_mi 117).2.2.1 (xm_mi 117).2.2.2 ∈ xw_ALL := by rw [xk117_e]; exact ww_279
theorem xk117_2 : Cond.initialized (xm_mi 117).1.cls ∈ xw_ALL := by rw [xk117_e]; exact ww_1
theorem xk117_m : (xm_mi 117).2.2.1 ≤ 21 := by rw [xk117_e]; decide
theorem xk117_d : (xm_mi 117).1.cls ≠ "java/lang/invoke/MethodHandle" ∧ (xm_mi 117).1.cls ≠ "java/lang/invoke/VarHandle" ∧ (parseMethodDescriptor (xm_mi 117).1.desc).map (fun d => d.parameters.length) = some 2 := by rw [xk117_e]; decide +kernel
theorem xk117_3 : Cond.static (xm_mi 117).1 ∈ xw_ALL := by rw [xk117_e]; exact ww_278
theorem xk118_e : xm_mi 118 = (yX10_isWithin, cX10_isWithin, 3, (some .boolean)) := rfl
theorem xk118_0 : Cond.code (xm_mi 118).1 (xm_mi 118).2.1 (xm_mi 118).2.2.1 (xm_mi 118).2.2.2 ∈ xw_ALL := by rw [xk118_e]; exact ww_288
theorem xk118_2 : Cond.initialized (xm_mi 118).1.cls ∈ xw_ALL := by rw [xk118_e]; exact ww_1
theorem xk118_m : (xm_mi 118).2.2.1 ≤ 21 := by rw [xk118_e]; decide
theorem xk118_d : (xm_mi 118).1.cls ≠ "java/lang/invoke/MethodHandle" ∧ (xm_mi 118).1.cls ≠ "java/lang/invoke/VarHandle" ∧ (parseMethodDescriptor (xm_mi 118).1.desc).map (fun d => d.parameters.length) = some 3 := by rw [xk118_e]; decide +kernel
theorem xk118_3 : Cond.static (xm_mi 118).1 ∈ xw_ALL := by rw [xk118_e]; exact ww_287
theorem xk119_e : xm_mi 119 = (yX10_heldWithin, cX10_heldWithin, 3, (some .int)) := rfl
theorem xk119_0 : Cond.code (xm_mi 119).1 (xm_mi 119).2.1 (xm_mi 119).2.2.1 (xm_mi 119).2.2.2 ∈ xw_ALL := by rw [xk119_e]; exact ww_320
theorem xk119_2 : Cond.initialized (xm_mi 119).1.cls ∈ xw_ALL := by rw [xk119_e]; exact ww_1
theorem xk119_m : (xm_mi 119).2.2.1 ≤ 21 := by rw [xk119_e]; decide
theorem xk119_d : (xm_mi 119).1.cls ≠ "java/lang/invoke/MethodHandle" ∧ (xm_mi 119).1.cls ≠ "java/lang/invoke/VarHandle" ∧ (parseMethodDescriptor (xm_mi 119).1.desc).map (fun d => d.parameters.length) = some 3 := by rw [xk119_e]; decide +kernel
theorem xk119_3 : Cond.static (xm_mi 119).1 ∈ xw_ALL := by rw [xk119_e]; exact ww_319
theorem xk120_e : xm_mi 120 = (yX10_refuse, cX10_refuse, 3, (some .int)) := rfl
theorem xk120_0 : Cond.code (xm_mi 120).1 (xm_mi 120).2.1 (xm_mi 120).2.2.1 (xm_mi 120).2.2.2 ∈ xw_ALL := by rw [xk120_e]; exact ww_284
theorem xk120_2 : Cond.initialized (xm_mi 120).1.cls ∈ xw_ALL := by rw [xk120_e]; exact ww_1
theorem xk120_m : (xm_mi 120).2.2.1 ≤ 21 := by rw [xk120_e]; decide
theorem xk120_d : (xm_mi 120).1.cls ≠ "java/lang/invoke/MethodHandle" ∧ (xm_mi 120).1.cls ≠ "java/lang/invoke/VarHandle" ∧ (parseMethodDescriptor (xm_mi 120).1.desc).map (fun d => d.parameters.length) = some 1 := by rw [xk120_e]; decide +kernel
theorem xk120_3 : Cond.instanceMethod (xm_mi 120).1 ∈ xw_ALL := by rw [xk120_e]; exact ww_283
theorem xk120_4 : Cond.selects (xm_mi 120).1.cls (xm_mi 120).1 (xm_mi 120).1 ∈ xw_ALL := by rw [xk120_e]; exact wp_0
theorem xk120_c : vwCl[8]? = some ((xm_mi 120).1.cls, TX10, 11) := by rw [xk120_e]; rfl
theorem xk121_e : xm_mi 121 = (yX10_daysError, cX10_daysError, 2, (some .int)) := rfl
theorem xk121_0 : Cond.code (xm_mi 121).1 (xm_mi 121).2.1 (xm_mi 121).2.2.1 (xm_mi 121).2.2.2 ∈ xw_ALL := by rw [xk121_e]; exact ww_602
theorem xk121_2 : Cond.initialized (xm_mi 121).1.cls ∈ xw_ALL := by rw [xk121_e]; exact ww_1
theorem xk121_m : (xm_mi 121).2.2.1 ≤ 21 := by rw [xk121_e]; decide
theorem xk121_d : (xm_mi 121).1.cls ≠ "java/lang/invoke/MethodHandle" ∧ (xm_mi 121).1.cls ≠ "java/lang/invoke/VarHandle" ∧ (parseMethodDescriptor (xm_mi 121).1.desc).map (fun d => d.parameters.length) = some 1 := by rw [xk121_e]; decide +kernel
theorem xk121_3 : Cond.instanceMethod (xm_mi 121).1 ∈ xw_ALL := by rw [xk121_e]; exact ww_601
theorem xk121_4 : Cond.selects (xm_mi 121).1.cls (xm_mi 121).1 (xm_mi 121).1 ∈ xw_ALL := by rw [xk121_e]; exact wp_7
theorem xk121_c : vwCl[8]? = some ((xm_mi 121).1.cls, TX10, 11) := by rw [xk121_e]; rfl
theorem xk122_e : xm_mi 122 = (yX10_readingError, cX10_readingError, 2, (some .int)) := rfl
theorem xk122_0 : Cond.code (xm_mi 122).1 (xm_mi 122).2.1 (xm_mi 122).2.2.1 (xm_mi 122).2.2.2 ∈ xw_ALL := by rw [xk122_e]; exact ww_718
theorem xk122_2 : Cond.initialized (xm_mi 122).1.cls ∈ xw_ALL := by rw [xk122_e]; exact ww_1
theorem xk122_m : (xm_mi 122).2.2.1 ≤ 21 := by rw [xk122_e]; decide
theorem xk122_d : (xm_mi 122).1.cls ≠ "java/lang/invoke/MethodHandle" ∧ (xm_mi 122).1.cls ≠ "java/lang/invoke/VarHandle" ∧ (parseMethodDescriptor (xm_mi 122).1.desc).map (fun d => d.parameters.length) = some 1 := by rw [xk122_e]; decide +kernel
theorem xk122_3 : Cond.instanceMethod (xm_mi 122).1 ∈ xw_ALL := by rw [xk122_e]; exact ww_717
theorem xk122_4 : Cond.selects (xm_mi 122).1.cls (xm_mi 122).1 (xm_mi 122).1 ∈ xw_ALL := by rw [xk122_e]; exact wp_10
theorem xk122_c : vwCl[8]? = some ((xm_mi 122).1.cls, TX10, 11) := by rw [xk122_e]; rfl
theorem xk123_e : xm_mi 123 = (yX11_init, cX11_init, 2, none) := rfl
theorem xk123_0 : Cond.code (xm_mi 123).1 (xm_mi 123).2.1 (xm_mi 123).2.2.1 (xm_mi 123).2.2.2 ∈ xw_ALL := by rw [xk123_e]; exact ww_765
theorem xk123_2 : Cond.initialized (xm_mi 123).1.cls ∈ xw_ALL := by rw [xk123_e]; exact ww_10
theorem xk123_m : (xm_mi 123).2.2.1 ≤ 21 := by rw [xk123_e]; decide
theorem xk123_d : (xm_mi 123).1.cls ≠ "java/lang/invoke/MethodHandle" ∧ (xm_mi 123).1.cls ≠ "java/lang/invoke/VarHandle" ∧ (parseMethodDescriptor (xm_mi 123).1.desc).map (fun d => d.parameters.length) = some 0 := by rw [xk123_e]; decide +kernel
theorem xk123_3 : Cond.instanceMethod (xm_mi 123).1 ∈ xw_ALL := by rw [xk123_e]; exact ww_764
theorem xk123_c : vwCl[9]? = some ((xm_mi 123).1.cls, TX11, 23) := by rw [xk123_e]; rfl
theorem xk123_r : (xm_mi 123).2.2.2 = none := by rw [xk123_e]
theorem xk123_n : (xm_mi 123).1.name = "<init>" := by rw [xk123_e]; rfl
theorem xk124_e : xm_mi 124 = (yX11_error, cX11_error, 2, (some .int)) := rfl
theorem xk124_0 : Cond.code (xm_mi 124).1 (xm_mi 124).2.1 (xm_mi 124).2.2.1 (xm_mi 124).2.2.2 ∈ xw_ALL := by rw [xk124_e]; exact ww_847
theorem xk124_2 : Cond.initialized (xm_mi 124).1.cls ∈ xw_ALL := by rw [xk124_e]; exact ww_10
theorem xk124_m : (xm_mi 124).2.2.1 ≤ 21 := by rw [xk124_e]; decide
theorem xk124_d : (xm_mi 124).1.cls ≠ "java/lang/invoke/MethodHandle" ∧ (xm_mi 124).1.cls ≠ "java/lang/invoke/VarHandle" ∧ (parseMethodDescriptor (xm_mi 124).1.desc).map (fun d => d.parameters.length) = some 1 := by rw [xk124_e]; decide +kernel
theorem xk124_3 : Cond.instanceMethod (xm_mi 124).1 ∈ xw_ALL := by rw [xk124_e]; exact ww_846
theorem xk124_4 : Cond.selects (xm_mi 124).1.cls (xm_mi 124).1 (xm_mi 124).1 ∈ xw_ALL := by rw [xk124_e]; exact wp_11
theorem xk124_c : vwCl[9]? = some ((xm_mi 124).1.cls, TX11, 23) := by rw [xk124_e]; rfl
theorem xk125_e : xm_mi 125 = (yX11_in, cX11_in, 3, (some .boolean)) := rfl
theorem xk125_0 : Cond.code (xm_mi 125).1 (xm_mi 125).2.1 (xm_mi 125).2.2.1 (xm_mi 125).2.2.2 ∈ xw_ALL := by rw [xk125_e]; exact ww_843
theorem xk125_2 : Cond.initialized (xm_mi 125).1.cls ∈ xw_ALL := by rw [xk125_e]; exact ww_10
theorem xk125_m : (xm_mi 125).2.2.1 ≤ 21 := by rw [xk125_e]; decide
theorem xk125_d : (xm_mi 125).1.cls ≠ "java/lang/invoke/MethodHandle" ∧ (xm_mi 125).1.cls ≠ "java/lang/invoke/VarHandle" ∧ (parseMethodDescriptor (xm_mi 125).1.desc).map (fun d => d.parameters.length) = some 3 := by rw [xk125_e]; decide +kernel
theorem xk125_3 : Cond.static (xm_mi 125).1 ∈ xw_ALL := by rw [xk125_e]; exact ww_842
theorem xk126_e : xm_mi 126 = (yX11_held, cX11_held, 3, (some .int)) := rfl
theorem xk126_0 : Cond.code (xm_mi 126).1 (xm_mi 126).2.1 (xm_mi 126).2.2.1 (xm_mi 126).2.2.2 ∈ xw_ALL := by rw [xk126_e]; exact ww_934
theorem xk126_2 : Cond.initialized (xm_mi 126).1.cls ∈ xw_ALL := by rw [xk126_e]; exact ww_10
theorem xk126_m : (xm_mi 126).2.2.1 ≤ 21 := by rw [xk126_e]; decide
theorem xk126_d : (xm_mi 126).1.cls ≠ "java/lang/invoke/MethodHandle" ∧ (xm_mi 126).1.cls ≠ "java/lang/invoke/VarHandle" ∧ (parseMethodDescriptor (xm_mi 126).1.desc).map (fun d => d.parameters.length) = some 3 := by rw [xk126_e]; decide +kernel
theorem xk126_3 : Cond.static (xm_mi 126).1 ∈ xw_ALL := by rw [xk126_e]; exact ww_933
theorem xk127_e : xm_mi 127 = (yX11_carry, cX11_carry, 4, none) := rfl
theorem xk127_0 : Cond.code (xm_mi 127).1 (xm_mi 127).2.1 (xm_mi 127).2.2.1 (xm_mi 127).2.2.2 ∈ xw_ALL := by rw [xk127_e]; exact ww_1140
theorem xk127_2 : Cond.initialized (xm_mi 127).1.cls ∈ xw_ALL := by rw [xk127_e]; exact ww_10
theorem xk127_m : (xm_mi 127).2.2.1 ≤ 21 := by rw [xk127_e]; decide
theorem xk127_d : (xm_mi 127).1.cls ≠ "java/lang/invoke/MethodHandle" ∧ (xm_mi 127).1.cls ≠ "java/lang/invoke/VarHandle" ∧ (parseMethodDescriptor (xm_mi 127).1.desc).map (fun d => d.parameters.length) = some 3 := by rw [xk127_e]; decide +kernel
theorem xk127_3 : Cond.static (xm_mi 127).1 ∈ xw_ALL := by rw [xk127_e]; exact ww_1139
theorem xk128_e : xm_mi 128 = (yX11_layDown, cX11_layDown, 1, none) := rfl
theorem xk128_0 : Cond.code (xm_mi 128).1 (xm_mi 128).2.1 (xm_mi 128).2.2.1 (xm_mi 128).2.2.2 ∈ xw_ALL := by rw [xk128_e]; exact ww_1137
theorem xk128_2 : Cond.initialized (xm_mi 128).1.cls ∈ xw_ALL := by rw [xk128_e]; exact ww_10
theorem xk128_m : (xm_mi 128).2.2.1 ≤ 21 := by rw [xk128_e]; decide
theorem xk128_d : (xm_mi 128).1.cls ≠ "java/lang/invoke/MethodHandle" ∧ (xm_mi 128).1.cls ≠ "java/lang/invoke/VarHandle" ∧ (parseMethodDescriptor (xm_mi 128).1.desc).map (fun d => d.parameters.length) = some 0 := by rw [xk128_e]; decide +kernel
theorem xk128_3 : Cond.instanceMethod (xm_mi 128).1 ∈ xw_ALL := by rw [xk128_e]; exact ww_1136
theorem xk128_4 : Cond.selects (xm_mi 128).1.cls (xm_mi 128).1 (xm_mi 128).1 ∈ xw_ALL := by rw [xk128_e]; exact wp_46
theorem xk128_c : vwCl[9]? = some ((xm_mi 128).1.cls, TX11, 23) := by rw [xk128_e]; rfl
theorem xk129_e : xm_mi 129 = (yX11_layBack, cX11_layBack, 1, none) := rfl
theorem xk129_0 : Cond.code (xm_mi 129).1 (xm_mi 129).2.1 (xm_mi 129).2.2.1 (xm_mi 129).2.2.2 ∈ xw_ALL := by rw [xk129_e]; exact ww_1144
theorem xk129_2 : Cond.initialized (xm_mi 129).1.cls ∈ xw_ALL := by rw [xk129_e]; exact ww_10
theorem xk129_m : (xm_mi 129).2.2.1 ≤ 21 := by rw [xk129_e]; decide
theorem xk129_d : (xm_mi 129).1.cls ≠ "java/lang/invoke/MethodHandle" ∧ (xm_mi 129).1.cls ≠ "java/lang/invoke/VarHandle" ∧ (parseMethodDescriptor (xm_mi 129).1.desc).map (fun d => d.parameters.length) = some 0 := by rw [xk129_e]; decide +kernel
theorem xk129_3 : Cond.instanceMethod (xm_mi 129).1 ∈ xw_ALL := by rw [xk129_e]; exact ww_1143
theorem xk129_4 : Cond.selects (xm_mi 129).1.cls (xm_mi 129).1 (xm_mi 129).1 ∈ xw_ALL := by rw [xk129_e]; exact wp_47
theorem xk129_c : vwCl[9]? = some ((xm_mi 129).1.cls, TX11, 23) := by rw [xk129_e]; rfl
theorem xk130_e : xm_mi 130 = (yX11_isKnot, cX11_isKnot, 1, (some .boolean)) := rfl
theorem xk130_0 : Cond.code (xm_mi 130).1 (xm_mi 130).2.1 (xm_mi 130).2.2.1 (xm_mi 130).2.2.2 ∈ xw_ALL := by rw [xk130_e]; exact ww_908
theorem xk130_2 : Cond.initialized (xm_mi 130).1.cls ∈ xw_ALL := by rw [xk130_e]; exact ww_10
theorem xk130_m : (xm_mi 130).2.2.1 ≤ 21 := by rw [xk130_e]; decide
theorem xk130_d : (xm_mi 130).1.cls ≠ "java/lang/invoke/MethodHandle" ∧ (xm_mi 130).1.cls ≠ "java/lang/invoke/VarHandle" ∧ (parseMethodDescriptor (xm_mi 130).1.desc).map (fun d => d.parameters.length) = some 1 := by rw [xk130_e]; decide +kernel
theorem xk130_3 : Cond.static (xm_mi 130).1 ∈ xw_ALL := by rw [xk130_e]; exact ww_907
theorem xk131_e : xm_mi 131 = (yX11_isThread, cX11_isThread, 1, (some .boolean)) := rfl
theorem xk131_0 : Cond.code (xm_mi 131).1 (xm_mi 131).2.1 (xm_mi 131).2.2.1 (xm_mi 131).2.2.2 ∈ xw_ALL := by rw [xk131_e]; exact ww_990
theorem xk131_2 : Cond.initialized (xm_mi 131).1.cls ∈ xw_ALL := by rw [xk131_e]; exact ww_10
theorem xk131_m : (xm_mi 131).2.2.1 ≤ 21 := by rw [xk131_e]; decide
theorem xk131_d : (xm_mi 131).1.cls ≠ "java/lang/invoke/MethodHandle" ∧ (xm_mi 131).1.cls ≠ "java/lang/invoke/VarHandle" ∧ (parseMethodDescriptor (xm_mi 131).1.desc).map (fun d => d.parameters.length) = some 1 := by rw [xk131_e]; decide +kernel
theorem xk131_3 : Cond.static (xm_mi 131).1 ∈ xw_ALL := by rw [xk131_e]; exact ww_989
theorem xk132_e : xm_mi 132 = (yX11_isHand, cX11_isHand, 1, (some .boolean)) := rfl
theorem xk132_0 : Cond.code (xm_mi 132).1 (xm_mi 132).2.1 (xm_mi 132).2.2.1 (xm_mi 132).2.2.2 ∈ xw_ALL := by rw [xk132_e]; exact ww_911
theorem xk132_2 : Cond.initialized (xm_mi 132).1.cls ∈ xw_ALL := by rw [xk132_e]; exact ww_10
theorem xk132_m : (xm_mi 132).2.2.1 ≤ 21 := by rw [xk132_e]; decide
theorem xk132_d : (xm_mi 132).1.cls ≠ "java/lang/invoke/MethodHandle" ∧ (xm_mi 132).1.cls ≠ "java/lang/invoke/VarHandle" ∧ (parseMethodDescriptor (xm_mi 132).1.desc).map (fun d => d.parameters.length) = some 1 := by rw [xk132_e]; decide +kernel
theorem xk132_3 : Cond.static (xm_mi 132).1 ∈ xw_ALL := by rw [xk132_e]; exact ww_910
theorem xk133_e : xm_mi 133 = (yX11_its, cX11_its, 3, (some .int)) := rfl
theorem xk133_0 : Cond.code (xm_mi 133).1 (xm_mi 133).2.1 (xm_mi 133).2.2.1 (xm_mi 133).2.2.2 ∈ xw_ALL := by rw [xk133_e]; exact ww_915
theorem xk133_2 : Cond.initialized (xm_mi 133).1.cls ∈ xw_ALL := by rw [xk133_e]; exact ww_10
theorem xk133_m : (xm_mi 133).2.2.1 ≤ 21 := by rw [xk133_e]; decide
theorem xk133_d : (xm_mi 133).1.cls ≠ "java/lang/invoke/MethodHandle" ∧ (xm_mi 133).1.cls ≠ "java/lang/invoke/VarHandle" ∧ (parseMethodDescriptor (xm_mi 133).1.desc).map (fun d => d.parameters.length) = some 2 := by rw [xk133_e]; decide +kernel
theorem xk133_3 : Cond.instanceMethod (xm_mi 133).1 ∈ xw_ALL := by rw [xk133_e]; exact ww_914
theorem xk133_4 : Cond.selects (xm_mi 133).1.cls (xm_mi 133).1 (xm_mi 133).1 ∈ xw_ALL := by rw [xk133_e]; exact wp_23
theorem xk133_c : vwCl[9]? = some ((xm_mi 133).1.cls, TX11, 23) := by rw [xk133_e]; rfl
theorem xk134_e : xm_mi 134 = (yX11_of, cX11_of, 3, (some .int)) := rfl
theorem xk134_0 : Cond.code (xm_mi 134).1 (xm_mi 134).2.1 (xm_mi 134).2.2.1 (xm_mi 134).2.2.2 ∈ xw_ALL := by rw [xk134_e]; exact ww_961
theorem xk134_2 : Cond.initialized (xm_mi 134).1.cls ∈ xw_ALL := by rw [xk134_e]; exact ww_10
theorem xk134_m : (xm_mi 134).2.2.1 ≤ 21 := by rw [xk134_e]; decide
theorem xk134_d : (xm_mi 134).1.cls ≠ "java/lang/invoke/MethodHandle" ∧ (xm_mi 134).1.cls ≠ "java/lang/invoke/VarHandle" ∧ (parseMethodDescriptor (xm_mi 134).1.desc).map (fun d => d.parameters.length) = some 2 := by rw [xk134_e]; decide +kernel
theorem xk134_3 : Cond.instanceMethod (xm_mi 134).1 ∈ xw_ALL := by rw [xk134_e]; exact ww_960
theorem xk134_4 : Cond.selects (xm_mi 134).1.cls (xm_mi 134).1 (xm_mi 134).1 ∈ xw_ALL := by rw [xk134_e]; exact wp_32
theorem xk134_c : vwCl[9]? = some ((xm_mi 134).1.cls, TX11, 23) := by rw [xk134_e]; rfl
theorem xk135_e : xm_mi 135 = (yX11_isMissing, cX11_isMissing, 2, (some .boolean)) := rfl
theorem xk135_0 : Cond.code (xm_mi 135).1 (xm_mi 135).2.1 (xm_mi 135).2.2.1 (xm_mi 135).2.2.2 ∈ xw_ALL := by rw [xk135_e]; exact ww_957
theorem xk135_2 : Cond.initialized (xm_mi 135).1.cls ∈ xw_ALL := by rw [xk135_e]; exact ww_10
theorem xk135_m : (xm_mi 135).2.2.1 ≤ 21 := by rw [xk135_e]; decide
theorem xk135_d : (xm_mi 135).1.cls ≠ "java/lang/invoke/MethodHandle" ∧ (xm_mi 135).1.cls ≠ "java/lang/invoke/VarHandle" ∧ (parseMethodDescriptor (xm_mi 135).1.desc).map (fun d => d.parameters.length) = some 1 := by rw [xk135_e]; decide +kernel
theorem xk135_3 : Cond.instanceMethod (xm_mi 135).1 ∈ xw_ALL := by rw [xk135_e]; exact ww_956
theorem xk135_4 : Cond.selects (xm_mi 135).1.cls (xm_mi 135).1 (xm_mi 135).1 ∈ xw_ALL := by rw [xk135_e]; exact wp_31
theorem xk135_c : vwCl[9]? = some ((xm_mi 135).1.cls, TX11, 23) := by rw [xk135_e]; rfl
theorem xk136_e : xm_mi 136 = (yX11_lessOf, cX11_lessOf, 1, (some .int)) := rfl
theorem xk136_0 : Cond.code (xm_mi 136).1 (xm_mi 136).2.1 (xm_mi 136).2.2.1 (xm_mi 136).2.2.2 ∈ xw_ALL := by rw [xk136_e]; exact ww_973
theorem xk136_2 : Cond.initialized (xm_mi 136).1.cls ∈ xw_ALL := by rw [xk136_e]; exact ww_10
theorem xk136_m : (xm_mi 136).2.2.1 ≤ 21 := by rw [xk136_e]; decide
theorem xk136_d : (xm_mi 136).1.cls ≠ "java/lang/invoke/MethodHandle" ∧ (xm_mi 136).1.cls ≠ "java/lang/invoke/VarHandle" ∧ (parseMethodDescriptor (xm_mi 136).1.desc).map (fun d => d.parameters.length) = some 1 := by rw [xk136_e]; decide +kernel
theorem xk136_3 : Cond.static (xm_mi 136).1 ∈ xw_ALL := by rw [xk136_e]; exact ww_972
theorem xk137_e : xm_mi 137 = (yX11_otherOf, cX11_otherOf, 1, (some .int)) := rfl
theorem xk137_0 : Cond.code (xm_mi 137).1 (xm_mi 137).2.1 (xm_mi 137).2.2.1 (xm_mi 137).2.2.2 ∈ xw_ALL := by rw [xk137_e]; exact ww_976
theorem xk137_2 : Cond.initialized (xm_mi 137).1.cls ∈ xw_ALL := by rw [xk137_e]; exact ww_10
theorem xk137_m : (xm_mi 137).2.2.1 ≤ 21 := by rw [xk137_e]; decide
theorem xk137_d : (xm_mi 137).1.cls ≠ "java/lang/invoke/MethodHandle" ∧ (xm_mi 137).1.cls ≠ "java/lang/invoke/VarHandle" ∧ (parseMethodDescriptor (xm_mi 137).1.desc).map (fun d => d.parameters.length) = some 1 := by rw [xk137_e]; decide +kernel
theorem xk137_3 : Cond.static (xm_mi 137).1 ∈ xw_ALL := by rw [xk137_e]; exact ww_975
theorem xk138_e : xm_mi 138 = (yX11_ends, cX11_ends, 2, (some .boolean)) := rfl
theorem xk138_0 : Cond.code (xm_mi 138).1 (xm_mi 138).2.1 (xm_mi 138).2.2.1 (xm_mi 138).2.2.2 ∈ xw_ALL := by rw [xk138_e]; exact ww_970
theorem xk138_2 : Cond.initialized (xm_mi 138).1.cls ∈ xw_ALL := by rw [xk138_e]; exact ww_10
theorem xk138_m : (xm_mi 138).2.2.1 ≤ 21 := by rw [xk138_e]; decide
theorem xk138_d : (xm_mi 138).1.cls ≠ "java/lang/invoke/MethodHandle" ∧ (xm_mi 138).1.cls ≠ "java/lang/invoke/VarHandle" ∧ (parseMethodDescriptor (xm_mi 138).1.desc).map (fun d => d.parameters.length) = some 2 := by rw [xk138_e]; decide +kernel
theorem xk138_3 : Cond.static (xm_mi 138).1 ∈ xw_ALL := by rw [xk138_e]; exact ww_969
theorem xk139_e : xm_mi 139 = (yX11_between, cX11_between, 4, (some .int)) := rfl
theorem xk139_0 : Cond.code (xm_mi 139).1 (xm_mi 139).2.1 (xm_mi 139).2.2.1 (xm_mi 139).2.2.2 ∈ xw_ALL := by rw [xk139_e]; exact ww_1036
theorem xk139_2 : Cond.initialized (xm_mi 139).1.cls ∈ xw_ALL := by rw [xk139_e]; exact ww_10
theorem xk139_m : (xm_mi 139).2.2.1 ≤ 21 := by rw [xk139_e]; decide
theorem xk139_d : (xm_mi 139).1.cls ≠ "java/lang/invoke/MethodHandle" ∧ (xm_mi 139).1.cls ≠ "java/lang/invoke/VarHandle" ∧ (parseMethodDescriptor (xm_mi 139).1.desc).map (fun d => d.parameters.length) = some 2 := by rw [xk139_e]; decide +kernel
theorem xk139_3 : Cond.static (xm_mi 139).1 ∈ xw_ALL := by rw [xk139_e]; exact ww_1035
theorem xk140_e : xm_mi 140 = (yX11_change1, cX11_change1, 4, (some .int)) := rfl
theorem xk140_0 : Cond.code (xm_mi 140).1 (xm_mi 140).2.1 (xm_mi 140).2.2.1 (xm_mi 140).2.2.2 ∈ xw_ALL := by rw [xk140_e]; exact ww_1018
theorem xk140_2 : Cond.initialized (xm_mi 140).1.cls ∈ xw_ALL := by rw [xk140_e]; exact ww_10
theorem xk140_m : (xm_mi 140).2.2.1 ≤ 21 := by rw [xk140_e]; decide
theorem xk140_d : (xm_mi 140).1.cls ≠ "java/lang/invoke/MethodHandle" ∧ (xm_mi 140).1.cls ≠ "java/lang/invoke/VarHandle" ∧ (parseMethodDescriptor (xm_mi 140).1.desc).map (fun d => d.parameters.length) = some 2 := by rw [xk140_e]; decide +kernel
theorem xk140_3 : Cond.instanceMethod (xm_mi 140).1 ∈ xw_ALL := by rw [xk140_e]; exact ww_1017
theorem xk140_4 : Cond.selects (xm_mi 140).1.cls (xm_mi 140).1 (xm_mi 140).1 ∈ xw_ALL := by rw [xk140_e]; exact wp_37
theorem xk140_c : vwCl[9]? = some ((xm_mi 140).1.cls, TX11, 23) := by rw [xk140_e]; rfl
theorem xk141_e : xm_mi 141 = (yX11_missing, cX11_missing, 3, (some .int)) := rfl
theorem xk141_0 : Cond.code (xm_mi 141).1 (xm_mi 141).2.1 (xm_mi 141).2.2.1 (xm_mi 141).2.2.2 ∈ xw_ALL := by rw [xk141_e]; exact ww_1010
theorem xk141_2 : Cond.initialized (xm_mi 141).1.cls ∈ xw_ALL := by rw [xk141_e]; exact ww_10
theorem xk141_m : (xm_mi 141).2.2.1 ≤ 21 := by rw [xk141_e]; decide
theorem xk141_d : (xm_mi 141).1.cls ≠ "java/lang/invoke/MethodHandle" ∧ (xm_mi 141).1.cls ≠ "java/lang/invoke/VarHandle" ∧ (parseMethodDescriptor (xm_mi 141).1.desc).map (fun d => d.parameters.length) = some 0 := by rw [xk141_e]; decide +kernel
theorem xk141_3 : Cond.instanceMethod (xm_mi 141).1 ∈ xw_ALL := by rw [xk141_e]; exact ww_1009
theorem xk141_4 : Cond.selects (xm_mi 141).1.cls (xm_mi 141).1 (xm_mi 141).1 ∈ xw_ALL := by rw [xk141_e]; exact wp_36
theorem xk141_c : vwCl[9]? = some ((xm_mi 141).1.cls, TX11, 23) := by rw [xk141_e]; rfl
theorem xk142_e : xm_mi 142 = (yX11_gone, cX11_gone, 3, (some .int)) := rfl
theorem xk142_0 : Cond.code (xm_mi 142).1 (xm_mi 142).2.1 (xm_mi 142).2.2.1 (xm_mi 142).2.2.2 ∈ xw_ALL := by rw [xk142_e]; exact ww_953
theorem xk142_2 : Cond.initialized (xm_mi 142).1.cls ∈ xw_ALL := by rw [xk142_e]; exact ww_10
theorem xk142_m : (xm_mi 142).2.2.1 ≤ 21 := by rw [xk142_e]; decide
theorem xk142_d : (xm_mi 142).1.cls ≠ "java/lang/invoke/MethodHandle" ∧ (xm_mi 142).1.cls ≠ "java/lang/invoke/VarHandle" ∧ (parseMethodDescriptor (xm_mi 142).1.desc).map (fun d => d.parameters.length) = some 0 := by rw [xk142_e]; decide +kernel
theorem xk142_3 : Cond.instanceMethod (xm_mi 142).1 ∈ xw_ALL := by rw [xk142_e]; exact ww_952
theorem xk142_4 : Cond.selects (xm_mi 142).1.cls (xm_mi 142).1 (xm_mi 142).1 ∈ xw_ALL := by rw [xk142_e]; exact wp_30
theorem xk142_c : vwCl[9]? = some ((xm_mi 142).1.cls, TX11, 23) := by rw [xk142_e]; rfl
theorem xk143_e : xm_mi 143 = (yX11_isIn, cX11_isIn, 2, (some .boolean)) := rfl
theorem xk143_0 : Cond.code (xm_mi 143).1 (xm_mi 143).2.1 (xm_mi 143).2.2.1 (xm_mi 143).2.2.2 ∈ xw_ALL := by rw [xk143_e]; exact ww_967
theorem xk143_2 : Cond.initialized (xm_mi 143).1.cls ∈ xw_ALL := by rw [xk143_e]; exact ww_10
theorem xk143_m : (xm_mi 143).2.2.1 ≤ 21 := by rw [xk143_e]; decide
theorem xk143_d : (xm_mi 143).1.cls ≠ "java/lang/invoke/MethodHandle" ∧ (xm_mi 143).1.cls ≠ "java/lang/invoke/VarHandle" ∧ (parseMethodDescriptor (xm_mi 143).1.desc).map (fun d => d.parameters.length) = some 2 := by rw [xk143_e]; decide +kernel
theorem xk143_3 : Cond.static (xm_mi 143).1 ∈ xw_ALL := by rw [xk143_e]; exact ww_966
theorem xk144_e : xm_mi 144 = (yX11_feed, cX11_feed, 5, (some .int)) := rfl
theorem xk144_0 : Cond.code (xm_mi 144).1 (xm_mi 144).2.1 (xm_mi 144).2.2.1 (xm_mi 144).2.2.2 ∈ xw_ALL := by rw [xk144_e]; exact ww_840
theorem xk144_2 : Cond.initialized (xm_mi 144).1.cls ∈ xw_ALL := by rw [xk144_e]; exact ww_10
theorem xk144_m : (xm_mi 144).2.2.1 ≤ 21 := by rw [xk144_e]; decide
theorem xk144_d : (xm_mi 144).1.cls ≠ "java/lang/invoke/MethodHandle" ∧ (xm_mi 144).1.cls ≠ "java/lang/invoke/VarHandle" ∧ (parseMethodDescriptor (xm_mi 144).1.desc).map (fun d => d.parameters.length) = some 2 := by rw [xk144_e]; decide +kernel
theorem xk144_3 : Cond.instanceMethod (xm_mi 144).1 ∈ xw_ALL := by rw [xk144_e]; exact ww_838
theorem xk144_4 : Cond.selects (xm_mi 144).1.cls (xm_mi 144).1 (xm_mi 144).1 ∈ xw_ALL := by rw [xk144_e]; exact ww_839
theorem xk144_c : vwCl[9]? = some ((xm_mi 144).1.cls, TX11, 23) := by rw [xk144_e]; rfl
theorem xk145_e : xm_mi 145 = (yX11_look, cX11_look, 1, (some .int)) := rfl
theorem xk145_0 : Cond.code (xm_mi 145).1 (xm_mi 145).2.1 (xm_mi 145).2.2.1 (xm_mi 145).2.2.2 ∈ xw_ALL := by rw [xk145_e]; exact ww_881
theorem xk145_2 : Cond.initialized (xm_mi 145).1.cls ∈ xw_ALL := by rw [xk145_e]; exact ww_10
theorem xk145_m : (xm_mi 145).2.2.1 ≤ 21 := by rw [xk145_e]; decide
theorem xk145_d : (xm_mi 145).1.cls ≠ "java/lang/invoke/MethodHandle" ∧ (xm_mi 145).1.cls ≠ "java/lang/invoke/VarHandle" ∧ (parseMethodDescriptor (xm_mi 145).1.desc).map (fun d => d.parameters.length) = some 0 := by rw [xk145_e]; decide +kernel
theorem xk145_3 : Cond.instanceMethod (xm_mi 145).1 ∈ xw_ALL := by rw [xk145_e]; exact ww_880
theorem xk145_4 : Cond.selects (xm_mi 145).1.cls (xm_mi 145).1 (xm_mi 145).1 ∈ xw_ALL := by rw [xk145_e]; exact wp_18
theorem xk145_c : vwCl[9]? = some ((xm_mi 145).1.cls, TX11, 23) := by rw [xk145_e]; rfl
theorem xk146_e : xm_mi 146 = (yX11_isName, cX11_isName, 2, (some .boolean)) := rfl
theorem xk146_0 : Cond.code (xm_mi 146).1 (xm_mi 146).2.1 (xm_mi 146).2.2.1 (xm_mi 146).2.2.2 ∈ xw_ALL := by rw [xk146_e]; exact ww_885
theorem xk146_2 : Cond.initialized (xm_mi 146).1.cls ∈ xw_ALL := by rw [xk146_e]; exact ww_10
theorem xk146_m : (xm_mi 146).2.2.1 ≤ 21 := by rw [xk146_e]; decide
theorem xk146_d : (xm_mi 146).1.cls ≠ "java/lang/invoke/MethodHandle" ∧ (xm_mi 146).1.cls ≠ "java/lang/invoke/VarHandle" ∧ (parseMethodDescriptor (xm_mi 146).1.desc).map (fun d => d.parameters.length) = some 1 := by rw [xk146_e]; decide +kernel
theorem xk146_3 : Cond.instanceMethod (xm_mi 146).1 ∈ xw_ALL := by rw [xk146_e]; exact ww_884
theorem xk146_4 : Cond.selects (xm_mi 146).1.cls (xm_mi 146).1 (xm_mi 146).1 ∈ xw_ALL := by rw [xk146_e]; exact wp_19
theorem xk146_c : vwCl[9]? = some ((xm_mi 146).1.cls, TX11, 23) := by rw [xk146_e]; rfl
theorem xk147_e : xm_mi 147 = (yX11_step1, cX11_step1, 3, none) := rfl
theorem xk147_0 : Cond.code (xm_mi 147).1 (xm_mi 147).2.1 (xm_mi 147).2.2.1 (xm_mi 147).2.2.2 ∈ xw_ALL := by rw [xk147_e]; exact ww_889
theorem xk147_2 : Cond.initialized (xm_mi 147).1.cls ∈ xw_ALL := by rw [xk147_e]; exact ww_10
theorem xk147_m : (xm_mi 147).2.2.1 ≤ 21 := by rw [xk147_e]; decide
theorem xk147_d : (xm_mi 147).1.cls ≠ "java/lang/invoke/MethodHandle" ∧ (xm_mi 147).1.cls ≠ "java/lang/invoke/VarHandle" ∧ (parseMethodDescriptor (xm_mi 147).1.desc).map (fun d => d.parameters.length) = some 2 := by rw [xk147_e]; decide +kernel
theorem xk147_3 : Cond.instanceMethod (xm_mi 147).1 ∈ xw_ALL := by rw [xk147_e]; exact ww_888
theorem xk147_4 : Cond.selects (xm_mi 147).1.cls (xm_mi 147).1 (xm_mi 147).1 ∈ xw_ALL := by rw [xk147_e]; exact wp_20
theorem xk147_c : vwCl[9]? = some ((xm_mi 147).1.cls, TX11, 23) := by rw [xk147_e]; rfl
theorem xk148_e : xm_mi 148 = (yX11_whole, cX11_whole, 1, (some .boolean)) := rfl
theorem xk148_0 : Cond.code (xm_mi 148).1 (xm_mi 148).2.1 (xm_mi 148).2.2.1 (xm_mi 148).2.2.2 ∈ xw_ALL := by rw [xk148_e]; exact ww_857
theorem xk148_2 : Cond.initialized (xm_mi 148).1.cls ∈ xw_ALL := by rw [xk148_e]; exact ww_10
theorem xk148_m : (xm_mi 148).2.2.1 ≤ 21 := by rw [xk148_e]; decide
theorem xk148_d : (xm_mi 148).1.cls ≠ "java/lang/invoke/MethodHandle" ∧ (xm_mi 148).1.cls ≠ "java/lang/invoke/VarHandle" ∧ (parseMethodDescriptor (xm_mi 148).1.desc).map (fun d => d.parameters.length) = some 0 := by rw [xk148_e]; decide +kernel
theorem xk148_3 : Cond.instanceMethod (xm_mi 148).1 ∈ xw_ALL := by rw [xk148_e]; exact ww_856
theorem xk148_4 : Cond.selects (xm_mi 148).1.cls (xm_mi 148).1 (xm_mi 148).1 ∈ xw_ALL := by rw [xk148_e]; exact wp_12
theorem xk148_c : vwCl[9]? = some ((xm_mi 148).1.cls, TX11, 23) := by rw [xk148_e]; rfl
theorem xk149_e : xm_mi 149 = (yX11_both, cX11_both, 1, (some .boolean)) := rfl
theorem xk149_0 : Cond.code (xm_mi 149).1 (xm_mi 149).2.1 (xm_mi 149).2.2.1 (xm_mi 149).2.2.2 ∈ xw_ALL := by rw [xk149_e]; exact ww_861
theorem xk149_2 : Cond.initialized (xm_mi 149).1.cls ∈ xw_ALL := by rw [xk149_e]; exact ww_10
theorem xk149_m : (xm_mi 149).2.2.1 ≤ 21 := by rw [xk149_e]; decide
theorem xk149_d : (xm_mi 149).1.cls ≠ "java/lang/invoke/MethodHandle" ∧ (xm_mi 149).1.cls ≠ "java/lang/invoke/VarHandle" ∧ (parseMethodDescriptor (xm_mi 149).1.desc).map (fun d => d.parameters.length) = some 0 := by rw [xk149_e]; decide +kernel
theorem xk149_3 : Cond.instanceMethod (xm_mi 149).1 ∈ xw_ALL := by rw [xk149_e]; exact ww_860
theorem xk149_4 : Cond.selects (xm_mi 149).1.cls (xm_mi 149).1 (xm_mi 149).1 ∈ xw_ALL := by rw [xk149_e]; exact wp_13
theorem xk149_c : vwCl[9]? = some ((xm_mi 149).1.cls, TX11, 23) := by rw [xk149_e]; rfl
theorem xk150_e : xm_mi 150 = (yX11_compared, cX11_compared, 2, (some .boolean)) := rfl
theorem xk150_0 : Cond.code (xm_mi 150).1 (xm_mi 150).2.1 (xm_mi 150).2.2.1 (xm_mi 150).2.2.2 ∈ xw_ALL := by rw [xk150_e]; exact ww_865
theorem xk150_2 : Cond.initialized (xm_mi 150).1.cls ∈ xw_ALL := by rw [xk150_e]; exact ww_10
theorem xk150_m : (xm_mi 150).2.2.1 ≤ 21 := by rw [xk150_e]; decide
theorem xk150_d : (xm_mi 150).1.cls ≠ "java/lang/invoke/MethodHandle" ∧ (xm_mi 150).1.cls ≠ "java/lang/invoke/VarHandle" ∧ (parseMethodDescriptor (xm_mi 150).1.desc).map (fun d => d.parameters.length) = some 0 := by rw [xk150_e]; decide +kernel
theorem xk150_3 : Cond.instanceMethod (xm_mi 150).1 ∈ xw_ALL := by rw [xk150_e]; exact ww_864
theorem xk150_4 : Cond.selects (xm_mi 150).1.cls (xm_mi 150).1 (xm_mi 150).1 ∈ xw_ALL := by rw [xk150_e]; exact wp_14
theorem xk150_c : vwCl[9]? = some ((xm_mi 150).1.cls, TX11, 23) := by rw [xk150_e]; rfl
theorem xk151_e : xm_mi 151 = (yX11_sum, cX11_sum, 2, (some .boolean)) := rfl
theorem xk151_0 : Cond.code (xm_mi 151).1 (xm_mi 151).2.1 (xm_mi 151).2.2.1 (xm_mi 151).2.2.2 ∈ xw_ALL := by rw [xk151_e]; exact ww_869
theorem xk151_2 : Cond.initialized (xm_mi 151).1.cls ∈ xw_ALL := by rw [xk151_e]; exact ww_10
theorem xk151_m : (xm_mi 151).2.2.1 ≤ 21 := by rw [xk151_e]; decide
theorem xk151_d : (xm_mi 151).1.cls ≠ "java/lang/invoke/MethodHandle" ∧ (xm_mi 151).1.cls ≠ "java/lang/invoke/VarHandle" ∧ (parseMethodDescriptor (xm_mi 151).1.desc).map (fun d => d.parameters.length) = some 0 := by rw [xk151_e]; decide +kernel
theorem xk151_3 : Cond.instanceMethod (xm_mi 151).1 ∈ xw_ALL := by rw [xk151_e]; exact ww_868
theorem xk151_4 : Cond.selects (xm_mi 151).1.cls (xm_mi 151).1 (xm_mi 151).1 ∈ xw_ALL := by rw [xk151_e]; exact wp_15
theorem xk151_c : vwCl[9]? = some ((xm_mi 151).1.cls, TX11, 23) := by rw [xk151_e]; rfl
theorem xk152_e : xm_mi 152 = (yX11_product, cX11_product, 2, (some .boolean)) := rfl
theorem xk152_0 : Cond.code (xm_mi 152).1 (xm_mi 152).2.1 (xm_mi 152).2.2.1 (xm_mi 152).2.2.2 ∈ xw_ALL := by rw [xk152_e]; exact ww_873
theorem xk152_2 : Cond.initialized (xm_mi 152).1.cls ∈ xw_ALL := by rw [xk152_e]; exact ww_10
theorem xk152_m : (xm_mi 152).2.2.1 ≤ 21 := by rw [xk152_e]; decide
theorem xk152_d : (xm_mi 152).1.cls ≠ "java/lang/invoke/MethodHandle" ∧ (xm_mi 152).1.cls ≠ "java/lang/invoke/VarHandle" ∧ (parseMethodDescriptor (xm_mi 152).1.desc).map (fun d => d.parameters.length) = some 0 := by rw [xk152_e]; decide +kernel
theorem xk152_3 : Cond.instanceMethod (xm_mi 152).1 ∈ xw_ALL := by rw [xk152_e]; exact ww_872
theorem xk152_4 : Cond.selects (xm_mi 152).1.cls (xm_mi 152).1 (xm_mi 152).1 ∈ xw_ALL := by rw [xk152_e]; exact wp_16
theorem xk152_c : vwCl[9]? = some ((xm_mi 152).1.cls, TX11, 23) := by rw [xk152_e]; rfl
theorem xk153_e : xm_mi 153 = (yX11_opens, cX11_opens, 1, (some .boolean)) := rfl
theorem xk153_0 : Cond.code (xm_mi 153).1 (xm_mi 153).2.1 (xm_mi 153).2.2.1 (xm_mi 153).2.2.2 ∈ xw_ALL := by rw [xk153_e]; exact ww_893
theorem xk153_2 : Cond.initialized (xm_mi 153).1.cls ∈ xw_ALL := by rw [xk153_e]; exact ww_10
theorem xk153_m : (xm_mi 153).2.2.1 ≤ 21 := by rw [xk153_e]; decide
theorem xk153_d : (xm_mi 153).1.cls ≠ "java/lang/invoke/MethodHandle" ∧ (xm_mi 153).1.cls ≠ "java/lang/invoke/VarHandle" ∧ (parseMethodDescriptor (xm_mi 153).1.desc).map (fun d => d.parameters.length) = some 0 := by rw [xk153_e]; decide +kernel
theorem xk153_3 : Cond.instanceMethod (xm_mi 153).1 ∈ xw_ALL := by rw [xk153_e]; exact ww_892
theorem xk153_4 : Cond.selects (xm_mi 153).1.cls (xm_mi 153).1 (xm_mi 153).1 ∈ xw_ALL := by rw [xk153_e]; exact wp_21
theorem xk153_c : vwCl[9]? = some ((xm_mi 153).1.cls, TX11, 23) := by rw [xk153_e]; rfl
theorem xk154_e : xm_mi 154 = (yX11_one, cX11_one, 4, (some .boolean)) := rfl
theorem xk154_0 : Cond.code (xm_mi 154).1 (xm_mi 154).2.1 (xm_mi 154).2.2.1 (xm_mi 154).2.2.2 ∈ xw_ALL := by rw [xk154_e]; exact ww_877
theorem xk154_2 : Cond.initialized (xm_mi 154).1.cls ∈ xw_ALL := by rw [xk154_e]; exact ww_10
theorem xk154_m : (xm_mi 154).2.2.1 ≤ 21 := by rw [xk154_e]; decide
theorem xk154_d : (xm_mi 154).1.cls ≠ "java/lang/invoke/MethodHandle" ∧ (xm_mi 154).1.cls ≠ "java/lang/invoke/VarHandle" ∧ (parseMethodDescriptor (xm_mi 154).1.desc).map (fun d => d.parameters.length) = some 0 := by rw [xk154_e]; decide +kernel
theorem xk154_3 : Cond.instanceMethod (xm_mi 154).1 ∈ xw_ALL := by rw [xk154_e]; exact ww_876
theorem xk154_4 : Cond.selects (xm_mi 154).1.cls (xm_mi 154).1 (xm_mi 154).1 ∈ xw_ALL := by rw [xk154_e]; exact wp_17
theorem xk154_c : vwCl[9]? = some ((xm_mi 154).1.cls, TX11, 23) := by rw [xk154_e]; rfl
theorem xk155_e : xm_mi 155 = (yX11_hasText, cX11_hasText, 2, (some .boolean)) := rfl
theorem xk155_0 : Cond.code (xm_mi 155).1 (xm_mi 155).2.1 (xm_mi 155).2.2.1 (xm_mi 155).2.2.2 ∈ xw_ALL := by rw [xk155_e]; exact ww_901
theorem xk155_2 : Cond.initialized (xm_mi 155).1.cls ∈ xw_ALL := by rw [xk155_e]; exact ww_10
theorem xk155_m : (xm_mi 155).2.2.1 ≤ 21 := by rw [xk155_e]; decide
theorem xk155_d : (xm_mi 155).1.cls ≠ "java/lang/invoke/MethodHandle" ∧ (xm_mi 155).1.cls ≠ "java/lang/invoke/VarHandle" ∧ (parseMethodDescriptor (xm_mi 155).1.desc).map (fun d => d.parameters.length) = some 1 := by rw [xk155_e]; decide +kernel
theorem xk155_3 : Cond.instanceMethod (xm_mi 155).1 ∈ xw_ALL := by rw [xk155_e]; exact ww_900
theorem xk155_4 : Cond.selects (xm_mi 155).1.cls (xm_mi 155).1 (xm_mi 155).1 ∈ xw_ALL := by rw [xk155_e]; exact wp_22
theorem xk155_c : vwCl[9]? = some ((xm_mi 155).1.cls, TX11, 23) := by rw [xk155_e]; rfl
theorem xk156_e : xm_mi 156 = (yX11_text, cX11_text, 5, (some .int)) := rfl
theorem xk156_0 : Cond.code (xm_mi 156).1 (xm_mi 156).2.1 (xm_mi 156).2.2.1 (xm_mi 156).2.2.2 ∈ xw_ALL := by rw [xk156_e]; exact ww_853
theorem xk156_2 : Cond.initialized (xm_mi 156).1.cls ∈ xw_ALL := by rw [xk156_e]; exact ww_10
theorem xk156_m : (xm_mi 156).2.2.1 ≤ 21 := by rw [xk156_e]; decide
theorem xk156_d : (xm_mi 156).1.cls ≠ "java/lang/invoke/MethodHandle" ∧ (xm_mi 156).1.cls ≠ "java/lang/invoke/VarHandle" ∧ (parseMethodDescriptor (xm_mi 156).1.desc).map (fun d => d.parameters.length) = some 1 := by rw [xk156_e]; decide +kernel
theorem xk156_3 : Cond.instanceMethod (xm_mi 156).1 ∈ xw_ALL := by rw [xk156_e]; exact ww_851
theorem xk156_4 : Cond.selects (xm_mi 156).1.cls (xm_mi 156).1 (xm_mi 156).1 ∈ xw_ALL := by rw [xk156_e]; exact ww_852
theorem xk156_c : vwCl[9]? = some ((xm_mi 156).1.cls, TX11, 23) := by rw [xk156_e]; rfl
theorem xk157_e : xm_mi 157 = (yX11_untell, cX11_untell, 3, (some .int)) := rfl
theorem xk157_0 : Cond.code (xm_mi 157).1 (xm_mi 157).2.1 (xm_mi 157).2.2.1 (xm_mi 157).2.2.2 ∈ xw_ALL := by rw [xk157_e]; exact ww_897
theorem xk157_2 : Cond.initialized (xm_mi 157).1.cls ∈ xw_ALL := by rw [xk157_e]; exact ww_10
theorem xk157_m : (xm_mi 157).2.2.1 ≤ 21 := by rw [xk157_e]; decide
theorem xk157_d : (xm_mi 157).1.cls ≠ "java/lang/invoke/MethodHandle" ∧ (xm_mi 157).1.cls ≠ "java/lang/invoke/VarHandle" ∧ (parseMethodDescriptor (xm_mi 157).1.desc).map (fun d => d.parameters.length) = some 1 := by rw [xk157_e]; decide +kernel
theorem xk157_3 : Cond.instanceMethod (xm_mi 157).1 ∈ xw_ALL := by rw [xk157_e]; exact ww_895
theorem xk157_4 : Cond.selects (xm_mi 157).1.cls (xm_mi 157).1 (xm_mi 157).1 ∈ xw_ALL := by rw [xk157_e]; exact ww_896
theorem xk157_c : vwCl[9]? = some ((xm_mi 157).1.cls, TX11, 23) := by rw [xk157_e]; rfl
theorem xk158_e : xm_mi 158 = (yX11_joined, cX11_joined, 3, (some .int)) := rfl
theorem xk158_0 : Cond.code (xm_mi 158).1 (xm_mi 158).2.1 (xm_mi 158).2.2.1 (xm_mi 158).2.2.2 ∈ xw_ALL := by rw [xk158_e]; exact ww_945
theorem xk158_2 : Cond.initialized (xm_mi 158).1.cls ∈ xw_ALL := by rw [xk158_e]; exact ww_10
theorem xk158_m : (xm_mi 158).2.2.1 ≤ 21 := by rw [xk158_e]; decide
theorem xk158_d : (xm_mi 158).1.cls ≠ "java/lang/invoke/MethodHandle" ∧ (xm_mi 158).1.cls ≠ "java/lang/invoke/VarHandle" ∧ (parseMethodDescriptor (xm_mi 158).1.desc).map (fun d => d.parameters.length) = some 3 := by rw [xk158_e]; decide +kernel
theorem xk158_3 : Cond.static (xm_mi 158).1 ∈ xw_ALL := by rw [xk158_e]; exact ww_944
theorem xk159_e : xm_mi 159 = (yX11_worked, cX11_worked, 7, (some .int)) := rfl
theorem xk159_0 : Cond.code (xm_mi 159).1 (xm_mi 159).2.1 (xm_mi 159).2.2.1 (xm_mi 159).2.2.2 ∈ xw_ALL := by rw [xk159_e]; exact ww_942
theorem xk159_2 : Cond.initialized (xm_mi 159).1.cls ∈ xw_ALL := by rw [xk159_e]; exact ww_10
theorem xk159_m : (xm_mi 159).2.2.1 ≤ 21 := by rw [xk159_e]; decide
theorem xk159_d : (xm_mi 159).1.cls ≠ "java/lang/invoke/MethodHandle" ∧ (xm_mi 159).1.cls ≠ "java/lang/invoke/VarHandle" ∧ (parseMethodDescriptor (xm_mi 159).1.desc).map (fun d => d.parameters.length) = some 1 := by rw [xk159_e]; decide +kernel
theorem xk159_3 : Cond.instanceMethod (xm_mi 159).1 ∈ xw_ALL := by rw [xk159_e]; exact ww_941
theorem xk159_4 : Cond.selects (xm_mi 159).1.cls (xm_mi 159).1 (xm_mi 159).1 ∈ xw_ALL := by rw [xk159_e]; exact wp_28
theorem xk159_c : vwCl[9]? = some ((xm_mi 159).1.cls, TX11, 23) := by rw [xk159_e]; rfl
theorem xk160_e : xm_mi 160 = (yX11_holdsTold, cX11_holdsTold, 2, (some .int)) := rfl
theorem xk160_0 : Cond.code (xm_mi 160).1 (xm_mi 160).2.1 (xm_mi 160).2.2.1 (xm_mi 160).2.2.2 ∈ xw_ALL := by rw [xk160_e]; exact ww_938
theorem xk160_2 : Cond.initialized (xm_mi 160).1.cls ∈ xw_ALL := by rw [xk160_e]; exact ww_10
theorem xk160_m : (xm_mi 160).2.2.1 ≤ 21 := by rw [xk160_e]; decide
theorem xk160_d : (xm_mi 160).1.cls ≠ "java/lang/invoke/MethodHandle" ∧ (xm_mi 160).1.cls ≠ "java/lang/invoke/VarHandle" ∧ (parseMethodDescriptor (xm_mi 160).1.desc).map (fun d => d.parameters.length) = some 1 := by rw [xk160_e]; decide +kernel
theorem xk160_3 : Cond.instanceMethod (xm_mi 160).1 ∈ xw_ALL := by rw [xk160_e]; exact ww_937
theorem xk160_4 : Cond.selects (xm_mi 160).1.cls (xm_mi 160).1 (xm_mi 160).1 ∈ xw_ALL := by rw [xk160_e]; exact wp_27
theorem xk160_c : vwCl[9]? = some ((xm_mi 160).1.cls, TX11, 23) := by rw [xk160_e]; rfl
theorem xk161_e : xm_mi 161 = (yX11_slipped, cX11_slipped, 2, (some .int)) := rfl
theorem xk161_0 : Cond.code (xm_mi 161).1 (xm_mi 161).2.1 (xm_mi 161).2.2.1 (xm_mi 161).2.2.2 ∈ xw_ALL := by rw [xk161_e]; exact ww_931
theorem xk161_2 : Cond.initialized (xm_mi 161).1.cls ∈ xw_ALL := by rw [xk161_e]; exact ww_10
theorem xk161_m : (xm_mi 161).2.2.1 ≤ 21 := by rw [xk161_e]; decide
theorem xk161_d : (xm_mi 161).1.cls ≠ "java/lang/invoke/MethodHandle" ∧ (xm_mi 161).1.cls ≠ "java/lang/invoke/VarHandle" ∧ (parseMethodDescriptor (xm_mi 161).1.desc).map (fun d => d.parameters.length) = some 1 := by rw [xk161_e]; decide +kernel
theorem xk161_3 : Cond.instanceMethod (xm_mi 161).1 ∈ xw_ALL := by rw [xk161_e]; exact ww_930
theorem xk161_4 : Cond.selects (xm_mi 161).1.cls (xm_mi 161).1 (xm_mi 161).1 ∈ xw_ALL := by rw [xk161_e]; exact wp_26
theorem xk161_c : vwCl[9]? = some ((xm_mi 161).1.cls, TX11, 23) := by rw [xk161_e]; rfl
theorem xk162_e : xm_mi 162 = (yX11_holds, cX11_holds, 4, (some .int)) := rfl
theorem xk162_0 : Cond.code (xm_mi 162).1 (xm_mi 162).2.1 (xm_mi 162).2.2.1 (xm_mi 162).2.2.2 ∈ xw_ALL := by rw [xk162_e]; exact ww_927
theorem xk162_2 : Cond.initialized (xm_mi 162).1.cls ∈ xw_ALL := by rw [xk162_e]; exact ww_10
theorem xk162_m : (xm_mi 162).2.2.1 ≤ 21 := by rw [xk162_e]; decide
theorem xk162_d : (xm_mi 162).1.cls ≠ "java/lang/invoke/MethodHandle" ∧ (xm_mi 162).1.cls ≠ "java/lang/invoke/VarHandle" ∧ (parseMethodDescriptor (xm_mi 162).1.desc).map (fun d => d.parameters.length) = some 1 := by rw [xk162_e]; decide +kernel
theorem xk162_3 : Cond.instanceMethod (xm_mi 162).1 ∈ xw_ALL := by rw [xk162_e]; exact ww_926
theorem xk162_4 : Cond.selects (xm_mi 162).1.cls (xm_mi 162).1 (xm_mi 162).1 ∈ xw_ALL := by rw [xk162_e]; exact wp_25
theorem xk162_c : vwCl[9]? = some ((xm_mi 162).1.cls, TX11, 23) := by rw [xk162_e]; rfl
theorem xk163_e : xm_mi 163 = (yX11_takes, cX11_takes, 3, (some .int)) := rfl
theorem xk163_0 : Cond.code (xm_mi 163).1 (xm_mi 163).2.1 (xm_mi 163).2.2.1 (xm_mi 163).2.2.2 ∈ xw_ALL := by rw [xk163_e]; exact ww_949
theorem xk163_2 : Cond.initialized (xm_mi 163).1.cls ∈ xw_ALL := by rw [xk163_e]; exact ww_10
theorem xk163_m : (xm_mi 163).2.2.1 ≤ 21 := by rw [xk163_e]; decide
theorem xk163_d : (xm_mi 163).1.cls ≠ "java/lang/invoke/MethodHandle" ∧ (xm_mi 163).1.cls ≠ "java/lang/invoke/VarHandle" ∧ (parseMethodDescriptor (xm_mi 163).1.desc).map (fun d => d.parameters.length) = some 1 := by rw [xk163_e]; decide +kernel
theorem xk163_3 : Cond.instanceMethod (xm_mi 163).1 ∈ xw_ALL := by rw [xk163_e]; exact ww_948
theorem xk163_4 : Cond.selects (xm_mi 163).1.cls (xm_mi 163).1 (xm_mi 163).1 ∈ xw_ALL := by rw [xk163_e]; exact wp_29
theorem xk163_c : vwCl[9]? = some ((xm_mi 163).1.cls, TX11, 23) := by rw [xk163_e]; rfl
theorem xk164_e : xm_mi 164 = (yX11_strength, cX11_strength, 2, (some .int)) := rfl
theorem xk164_0 : Cond.code (xm_mi 164).1 (xm_mi 164).2.1 (xm_mi 164).2.2.1 (xm_mi 164).2.2.2 ∈ xw_ALL := by rw [xk164_e]; exact ww_998
theorem xk164_2 : Cond.initialized (xm_mi 164).1.cls ∈ xw_ALL := by rw [xk164_e]; exact ww_10
theorem xk164_m : (xm_mi 164).2.2.1 ≤ 21 := by rw [xk164_e]; decide
theorem xk164_d : (xm_mi 164).1.cls ≠ "java/lang/invoke/MethodHandle" ∧ (xm_mi 164).1.cls ≠ "java/lang/invoke/VarHandle" ∧ (parseMethodDescriptor (xm_mi 164).1.desc).map (fun d => d.parameters.length) = some 1 := by rw [xk164_e]; decide +kernel
theorem xk164_3 : Cond.instanceMethod (xm_mi 164).1 ∈ xw_ALL := by rw [xk164_e]; exact ww_997
theorem xk164_4 : Cond.selects (xm_mi 164).1.cls (xm_mi 164).1 (xm_mi 164).1 ∈ xw_ALL := by rw [xk164_e]; exact wp_34
theorem xk164_c : vwCl[9]? = some ((xm_mi 164).1.cls, TX11, 23) := by rw [xk164_e]; rfl
theorem xk165_e : xm_mi 165 = (yX11_endsAt, cX11_endsAt, 4, (some .int)) := rfl
theorem xk165_0 : Cond.code (xm_mi 165).1 (xm_mi 165).2.1 (xm_mi 165).2.2.1 (xm_mi 165).2.2.2 ∈ xw_ALL := by rw [xk165_e]; exact ww_964
theorem xk165_2 : Cond.initialized (xm_mi 165).1.cls ∈ xw_ALL := by rw [xk165_e]; exact ww_10
theorem xk165_m : (xm_mi 165).2.2.1 ≤ 21 := by rw [xk165_e]; decide
theorem xk165_d : (xm_mi 165).1.cls ≠ "java/lang/invoke/MethodHandle" ∧ (xm_mi 165).1.cls ≠ "java/lang/invoke/VarHandle" ∧ (parseMethodDescriptor (xm_mi 165).1.desc).map (fun d => d.parameters.length) = some 2 := by rw [xk165_e]; decide +kernel
theorem xk165_3 : Cond.static (xm_mi 165).1 ∈ xw_ALL := by rw [xk165_e]; exact ww_963
theorem xk166_e : xm_mi 166 = (yX11_tiedBy, cX11_tiedBy, 3, none) := rfl
theorem xk166_0 : Cond.code (xm_mi 166).1 (xm_mi 166).2.1 (xm_mi 166).2.2.1 (xm_mi 166).2.2.2 ∈ xw_ALL := by rw [xk166_e]; exact ww_919
theorem xk166_2 : Cond.initialized (xm_mi 166).1.cls ∈ xw_ALL := by rw [xk166_e]; exact ww_10
theorem xk166_m : (xm_mi 166).2.2.1 ≤ 21 := by rw [xk166_e]; decide
theorem xk166_d : (xm_mi 166).1.cls ≠ "java/lang/invoke/MethodHandle" ∧ (xm_mi 166).1.cls ≠ "java/lang/invoke/VarHandle" ∧ (parseMethodDescriptor (xm_mi 166).1.desc).map (fun d => d.parameters.length) = some 2 := by rw [xk166_e]; decide +kernel
theorem xk166_3 : Cond.instanceMethod (xm_mi 166).1 ∈ xw_ALL := by rw [xk166_e]; exact ww_918
theorem xk166_4 : Cond.selects (xm_mi 166).1.cls (xm_mi 166).1 (xm_mi 166).1 ∈ xw_ALL := by rw [xk166_e]; exact wp_24
theorem xk166_c : vwCl[9]? = some ((xm_mi 166).1.cls, TX11, 23) := by rw [xk166_e]; rfl
theorem xk167_e : xm_mi 167 = (yX11_tie, cX11_tie, 5, (some .int)) := rfl
theorem xk167_0 : Cond.code (xm_mi 167).1 (xm_mi 167).2.1 (xm_mi 167).2.2.1 (xm_mi 167).2.2.2 ∈ xw_ALL := by rw [xk167_e]; exact ww_905
theorem xk167_2 : Cond.initialized (xm_mi 167).1.cls ∈ xw_ALL := by rw [xk167_e]; exact ww_10
theorem xk167_m : (xm_mi 167).2.2.1 ≤ 21 := by rw [xk167_e]; decide
theorem xk167_d : (xm_mi 167).1.cls ≠ "java/lang/invoke/MethodHandle" ∧ (xm_mi 167).1.cls ≠ "java/lang/invoke/VarHandle" ∧ (parseMethodDescriptor (xm_mi 167).1.desc).map (fun d => d.parameters.length) = some 3 := by rw [xk167_e]; decide +kernel
theorem xk167_3 : Cond.instanceMethod (xm_mi 167).1 ∈ xw_ALL := by rw [xk167_e]; exact ww_903
theorem xk167_4 : Cond.selects (xm_mi 167).1.cls (xm_mi 167).1 (xm_mi 167).1 ∈ xw_ALL := by rw [xk167_e]; exact ww_904
theorem xk167_c : vwCl[9]? = some ((xm_mi 167).1.cls, TX11, 23) := by rw [xk167_e]; rfl
theorem xk168_e : xm_mi 168 = (yX11_knotIs, cX11_knotIs, 3, (some .int)) := rfl
theorem xk168_0 : Cond.code (xm_mi 168).1 (xm_mi 168).2.1 (xm_mi 168).2.2.1 (xm_mi 168).2.2.2 ∈ xw_ALL := by rw [xk168_e]; exact ww_923
theorem xk168_2 : Cond.initialized (xm_mi 168).1.cls ∈ xw_ALL := by rw [xk168_e]; exact ww_10
theorem xk168_m : (xm_mi 168).2.2.1 ≤ 21 := by rw [xk168_e]; decide
theorem xk168_d : (xm_mi 168).1.cls ≠ "java/lang/invoke/MethodHandle" ∧ (xm_mi 168).1.cls ≠ "java/lang/invoke/VarHandle" ∧ (parseMethodDescriptor (xm_mi 168).1.desc).map (fun d => d.parameters.length) = some 2 := by rw [xk168_e]; decide +kernel
theorem xk168_3 : Cond.instanceMethod (xm_mi 168).1 ∈ xw_ALL := by rw [xk168_e]; exact ww_921
theorem xk168_4 : Cond.selects (xm_mi 168).1.cls (xm_mi 168).1 (xm_mi 168).1 ∈ xw_ALL := by rw [xk168_e]; exact ww_922
theorem xk168_c : vwCl[9]? = some ((xm_mi 168).1.cls, TX11, 23) := by rw [xk168_e]; rfl
theorem xk169_e : xm_mi 169 = (yX11_isUnder, cX11_isUnder, 2, (some .boolean)) := rfl
theorem xk169_0 : Cond.code (xm_mi 169).1 (xm_mi 169).2.1 (xm_mi 169).2.2.1 (xm_mi 169).2.2.2 ∈ xw_ALL := by rw [xk169_e]; exact ww_983
theorem xk169_2 : Cond.initialized (xm_mi 169).1.cls ∈ xw_ALL := by rw [xk169_e]; exact ww_10
theorem xk169_m : (xm_mi 169).2.2.1 ≤ 21 := by rw [xk169_e]; decide
theorem xk169_d : (xm_mi 169).1.cls ≠ "java/lang/invoke/MethodHandle" ∧ (xm_mi 169).1.cls ≠ "java/lang/invoke/VarHandle" ∧ (parseMethodDescriptor (xm_mi 169).1.desc).map (fun d => d.parameters.length) = some 2 := by rw [xk169_e]; decide +kernel
theorem xk169_3 : Cond.static (xm_mi 169).1 ∈ xw_ALL := by rw [xk169_e]; exact ww_982
theorem xk170_e : xm_mi 170 = (yX11_as, cX11_as, 3, (some .int)) := rfl
theorem xk170_0 : Cond.code (xm_mi 170).1 (xm_mi 170).2.1 (xm_mi 170).2.2.1 (xm_mi 170).2.2.2 ∈ xw_ALL := by rw [xk170_e]; exact ww_980
theorem xk170_2 : Cond.initialized (xm_mi 170).1.cls ∈ xw_ALL := by rw [xk170_e]; exact ww_10
theorem xk170_m : (xm_mi 170).2.2.1 ≤ 21 := by rw [xk170_e]; decide
theorem xk170_d : (xm_mi 170).1.cls ≠ "java/lang/invoke/MethodHandle" ∧ (xm_mi 170).1.cls ≠ "java/lang/invoke/VarHandle" ∧ (parseMethodDescriptor (xm_mi 170).1.desc).map (fun d => d.parameters.length) = some 2 := by rw [xk170_e]; decide +kernel
theorem xk170_3 : Cond.instanceMethod (xm_mi 170).1 ∈ xw_ALL := by rw [xk170_e]; exact ww_978
theorem xk170_4 : Cond.selects (xm_mi 170).1.cls (xm_mi 170).1 (xm_mi 170).1 ∈ xw_ALL := by rw [xk170_e]; exact ww_979
theorem xk170_c : vwCl[9]? = some ((xm_mi 170).1.cls, TX11, 23) := by rw [xk170_e]; rfl
theorem xk171_e : xm_mi 171 = (yX11_toldThread, cX11_toldThread, 3, (some .int)) := rfl
theorem xk171_0 : Cond.code (xm_mi 171).1 (xm_mi 171).2.1 (xm_mi 171).2.2.1 (xm_mi 171).2.2.2 ∈ xw_ALL := by rw [xk171_e]; exact ww_994
theorem xk171_2 : Cond.initialized (xm_mi 171).1.cls ∈ xw_ALL := by rw [xk171_e]; exact ww_10
theorem xk171_m : (xm_mi 171).2.2.1 ≤ 21 := by rw [xk171_e]; decide
theorem xk171_d : (xm_mi 171).1.cls ≠ "java/lang/invoke/MethodHandle" ∧ (xm_mi 171).1.cls ≠ "java/lang/invoke/VarHandle" ∧ (parseMethodDescriptor (xm_mi 171).1.desc).map (fun d => d.parameters.length) = some 2 := by rw [xk171_e]; decide +kernel
theorem xk171_3 : Cond.instanceMethod (xm_mi 171).1 ∈ xw_ALL := by rw [xk171_e]; exact ww_993
theorem xk171_4 : Cond.selects (xm_mi 171).1.cls (xm_mi 171).1 (xm_mi 171).1 ∈ xw_ALL := by rw [xk171_e]; exact wp_33
theorem xk171_c : vwCl[9]? = some ((xm_mi 171).1.cls, TX11, 23) := by rw [xk171_e]; rfl
theorem xk172_e : xm_mi 172 = (yX11_threadIs, cX11_threadIs, 3, (some .int)) := rfl
theorem xk172_0 : Cond.code (xm_mi 172).1 (xm_mi 172).2.1 (xm_mi 172).2.2.1 (xm_mi 172).2.2.2 ∈ xw_ALL := by rw [xk172_e]; exact ww_987
theorem xk172_2 : Cond.initialized (xm_mi 172).1.cls ∈ xw_ALL := by rw [xk172_e]; exact ww_10
theorem xk172_m : (xm_mi 172).2.2.1 ≤ 21 := by rw [xk172_e]; decide
theorem xk172_d : (xm_mi 172).1.cls ≠ "java/lang/invoke/MethodHandle" ∧ (xm_mi 172).1.cls ≠ "java/lang/invoke/VarHandle" ∧ (parseMethodDescriptor (xm_mi 172).1.desc).map (fun d => d.parameters.length) = some 2 := by rw [xk172_e]; decide +kernel
theorem xk172_3 : Cond.instanceMethod (xm_mi 172).1 ∈ xw_ALL := by rw [xk172_e]; exact ww_985
theorem xk172_4 : Cond.selects (xm_mi 172).1.cls (xm_mi 172).1 (xm_mi 172).1 ∈ xw_ALL := by rw [xk172_e]; exact ww_986
theorem xk172_c : vwCl[9]? = some ((xm_mi 172).1.cls, TX11, 23) := by rw [xk172_e]; rfl
theorem xk173_e : xm_mi 173 = (yX11_loses, cX11_loses, 2, none) := rfl
theorem xk173_0 : Cond.code (xm_mi 173).1 (xm_mi 173).2.1 (xm_mi 173).2.2.1 (xm_mi 173).2.2.2 ∈ xw_ALL := by rw [xk173_e]; exact ww_1006
theorem xk173_2 : Cond.initialized (xm_mi 173).1.cls ∈ xw_ALL := by rw [xk173_e]; exact ww_10
theorem xk173_m : (xm_mi 173).2.2.1 ≤ 21 := by rw [xk173_e]; decide
theorem xk173_d : (xm_mi 173).1.cls ≠ "java/lang/invoke/MethodHandle" ∧ (xm_mi 173).1.cls ≠ "java/lang/invoke/VarHandle" ∧ (parseMethodDescriptor (xm_mi 173).1.desc).map (fun d => d.parameters.length) = some 1 := by rw [xk173_e]; decide +kernel
theorem xk173_3 : Cond.instanceMethod (xm_mi 173).1 ∈ xw_ALL := by rw [xk173_e]; exact ww_1005
theorem xk173_4 : Cond.selects (xm_mi 173).1.cls (xm_mi 173).1 (xm_mi 173).1 ∈ xw_ALL := by rw [xk173_e]; exact wp_35
theorem xk173_c : vwCl[9]? = some ((xm_mi 173).1.cls, TX11, 23) := by rw [xk173_e]; rfl
theorem xk174_e : xm_mi 174 = (yX11_renews, cX11_renews, 2, none) := rfl
theorem xk174_0 : Cond.code (xm_mi 174).1 (xm_mi 174).2.1 (xm_mi 174).2.2.1 (xm_mi 174).2.2.2 ∈ xw_ALL := by rw [xk174_e]; exact ww_1040
theorem xk174_2 : Cond.initialized (xm_mi 174).1.cls ∈ xw_ALL := by rw [xk174_e]; exact ww_10
theorem xk174_m : (xm_mi 174).2.2.1 ≤ 21 := by rw [xk174_e]; decide
theorem xk174_d : (xm_mi 174).1.cls ≠ "java/lang/invoke/MethodHandle" ∧ (xm_mi 174).1.cls ≠ "java/lang/invoke/VarHandle" ∧ (parseMethodDescriptor (xm_mi 174).1.desc).map (fun d => d.parameters.length) = some 1 := by rw [xk174_e]; decide +kernel
theorem xk174_3 : Cond.instanceMethod (xm_mi 174).1 ∈ xw_ALL := by rw [xk174_e]; exact ww_1039
theorem xk174_4 : Cond.selects (xm_mi 174).1.cls (xm_mi 174).1 (xm_mi 174).1 ∈ xw_ALL := by rw [xk174_e]; exact wp_38
theorem xk174_c : vwCl[9]? = some ((xm_mi 174).1.cls, TX11, 23) := by rw [xk174_e]; rfl
theorem xk175_e : xm_mi 175 = (yX11_cut, cX11_cut, 2, (some .int)) := rfl
theorem xk175_0 : Cond.code (xm_mi 175).1 (xm_mi 175).2.1 (xm_mi 175).2.2.1 (xm_mi 175).2.2.2 ∈ xw_ALL := by rw [xk175_e]; exact ww_1002
theorem xk175_2 : Cond.initialized (xm_mi 175).1.cls ∈ xw_ALL := by rw [xk175_e]; exact ww_10
theorem xk175_m : (xm_mi 175).2.2.1 ≤ 21 := by rw [xk175_e]; decide
theorem xk175_d : (xm_mi 175).1.cls ≠ "java/lang/invoke/MethodHandle" ∧ (xm_mi 175).1.cls ≠ "java/lang/invoke/VarHandle" ∧ (parseMethodDescriptor (xm_mi 175).1.desc).map (fun d => d.parameters.length) = some 1 := by rw [xk175_e]; decide +kernel
theorem xk175_3 : Cond.instanceMethod (xm_mi 175).1 ∈ xw_ALL := by rw [xk175_e]; exact ww_1000
theorem xk175_4 : Cond.selects (xm_mi 175).1.cls (xm_mi 175).1 (xm_mi 175).1 ∈ xw_ALL := by rw [xk175_e]; exact ww_1001
theorem xk175_c : vwCl[9]? = some ((xm_mi 175).1.cls, TX11, 23) := by rw [xk175_e]; rfl
theorem xk176_e : xm_mi 176 = (yX11_wear, cX11_wear, 3, (some .int)) := rfl
theorem xk176_0 : Cond.code (xm_mi 176).1 (xm_mi 176).2.1 (xm_mi 176).2.2.1 (xm_mi 176).2.2.2 ∈ xw_ALL := by rw [xk176_e]; exact ww_1014
theorem xk176_2 : Cond.initialized (xm_mi 176).1.cls ∈ xw_ALL := by rw [xk176_e]; exact ww_10
theorem xk176_m : (xm_mi 176).2.2.1 ≤ 21 := by rw [xk176_e]; decide
theorem xk176_d : (xm_mi 176).1.cls ≠ "java/lang/invoke/MethodHandle" ∧ (xm_mi 176).1.cls ≠ "java/lang/invoke/VarHandle" ∧ (parseMethodDescriptor (xm_mi 176).1.desc).map (fun d => d.parameters.length) = some 2 := by rw [xk176_e]; decide +kernel
theorem xk176_3 : Cond.instanceMethod (xm_mi 176).1 ∈ xw_ALL := by rw [xk176_e]; exact ww_1012
theorem xk176_4 : Cond.selects (xm_mi 176).1.cls (xm_mi 176).1 (xm_mi 176).1 ∈ xw_ALL := by rw [xk176_e]; exact ww_1013
theorem xk176_c : vwCl[9]? = some ((xm_mi 176).1.cls, TX11, 23) := by rw [xk176_e]; rfl
theorem xk177_e : xm_mi 177 = (yX11_twine, cX11_twine, 2, (some .int)) := rfl
theorem xk177_0 : Cond.code (xm_mi 177).1 (xm_mi 177).2.1 (xm_mi 177).2.2.1 (xm_mi 177).2.2.2 ∈ xw_ALL := by rw [xk177_e]; exact ww_1022
theorem xk177_2 : Cond.initialized (xm_mi 177).1.cls ∈ xw_ALL := by rw [xk177_e]; exact ww_10
theorem xk177_m : (xm_mi 177).2.2.1 ≤ 21 := by rw [xk177_e]; decide
theorem xk177_d : (xm_mi 177).1.cls ≠ "java/lang/invoke/MethodHandle" ∧ (xm_mi 177).1.cls ≠ "java/lang/invoke/VarHandle" ∧ (parseMethodDescriptor (xm_mi 177).1.desc).map (fun d => d.parameters.length) = some 1 := by rw [xk177_e]; decide +kernel
theorem xk177_3 : Cond.instanceMethod (xm_mi 177).1 ∈ xw_ALL := by rw [xk177_e]; exact ww_1020
theorem xk177_4 : Cond.selects (xm_mi 177).1.cls (xm_mi 177).1 (xm_mi 177).1 ∈ xw_ALL := by rw [xk177_e]; exact ww_1021
theorem xk177_c : vwCl[9]? = some ((xm_mi 177).1.cls, TX11, 23) := by rw [xk177_e]; rfl
theorem xk178_e : xm_mi 178 = (yX11_speed, cX11_speed, 3, (some .int)) := rfl
theorem xk178_0 : Cond.code (xm_mi 178).1 (xm_mi 178).2.1 (xm_mi 178).2.2.1 (xm_mi 178).2.2.2 ∈ xw_ALL := by rw [xk178_e]; exact ww_1026
theorem xk178_2 : Cond.initialized (xm_mi 178).1.cls ∈ xw_ALL := by rw [xk178_e]; exact ww_10
theorem xk178_m : (xm_mi 178).2.2.1 ≤ 21 := by rw [xk178_e]; decide
theorem xk178_d : (xm_mi 178).1.cls ≠ "java/lang/invoke/MethodHandle" ∧ (xm_mi 178).1.cls ≠ "java/lang/invoke/VarHandle" ∧ (parseMethodDescriptor (xm_mi 178).1.desc).map (fun d => d.parameters.length) = some 2 := by rw [xk178_e]; decide +kernel
theorem xk178_3 : Cond.instanceMethod (xm_mi 178).1 ∈ xw_ALL := by rw [xk178_e]; exact ww_1024
theorem xk178_4 : Cond.selects (xm_mi 178).1.cls (xm_mi 178).1 (xm_mi 178).1 ∈ xw_ALL := by rw [xk178_e]; exact ww_1025
theorem xk178_c : vwCl[9]? = some ((xm_mi 178).1.cls, TX11, 23) := by rw [xk178_e]; rfl
theorem xk179_e : xm_mi 179 = (yX11_run, cX11_run, 9, (some .int)) := rfl
theorem xk179_0 : Cond.code (xm_mi 179).1 (xm_mi 179).2.1 (xm_mi 179).2.2.1 (xm_mi 179).2.2.2 ∈ xw_ALL := by rw [xk179_e]; exact ww_1030
theorem xk179_2 : Cond.initialized (xm_mi 179).1.cls ∈ xw_ALL := by rw [xk179_e]; exact ww_10
theorem xk179_m : (xm_mi 179).2.2.1 ≤ 21 := by rw [xk179_e]; decide
theorem xk179_d : (xm_mi 179).1.cls ≠ "java/lang/invoke/MethodHandle" ∧ (xm_mi 179).1.cls ≠ "java/lang/invoke/VarHandle" ∧ (parseMethodDescriptor (xm_mi 179).1.desc).map (fun d => d.parameters.length) = some 2 := by rw [xk179_e]; decide +kernel
theorem xk179_3 : Cond.instanceMethod (xm_mi 179).1 ∈ xw_ALL := by rw [xk179_e]; exact ww_1028
theorem xk179_4 : Cond.selects (xm_mi 179).1.cls (xm_mi 179).1 (xm_mi 179).1 ∈ xw_ALL := by rw [xk179_e]; exact ww_1029
theorem xk179_c : vwCl[9]? = some ((xm_mi 179).1.cls, TX11, 23) := by rw [xk179_e]; rfl
theorem xk180_e : xm_mi 180 = (yX11_oddOnes, cX11_oddOnes, 3, (some .int)) := rfl
theorem xk180_0 : Cond.code (xm_mi 180).1 (xm_mi 180).2.1 (xm_mi 180).2.2.1 (xm_mi 180).2.2.2 ∈ xw_ALL := by rw [xk180_e]; exact ww_1047
theorem xk180_2 : Cond.initialized (xm_mi 180).1.cls ∈ xw_ALL := by rw [xk180_e]; exact ww_10
theorem xk180_m : (xm_mi 180).2.2.1 ≤ 21 := by rw [xk180_e]; decide
theorem xk180_d : (xm_mi 180).1.cls ≠ "java/lang/invoke/MethodHandle" ∧ (xm_mi 180).1.cls ≠ "java/lang/invoke/VarHandle" ∧ (parseMethodDescriptor (xm_mi 180).1.desc).map (fun d => d.parameters.length) = some 1 := by rw [xk180_e]; decide +kernel
theorem xk180_3 : Cond.static (xm_mi 180).1 ∈ xw_ALL := by rw [xk180_e]; exact ww_1046
theorem xk181_e : xm_mi 181 = (yX11_hangs, cX11_hangs, 7, (some .int)) := rfl
theorem xk181_0 : Cond.code (xm_mi 181).1 (xm_mi 181).2.1 (xm_mi 181).2.2.1 (xm_mi 181).2.2.2 ∈ xw_ALL := by rw [xk181_e]; exact ww_1056
theorem xk181_2 : Cond.initialized (xm_mi 181).1.cls ∈ xw_ALL := by rw [xk181_e]; exact ww_10
theorem xk181_m : (xm_mi 181).2.2.1 ≤ 21 := by rw [xk181_e]; decide
theorem xk181_d : (xm_mi 181).1.cls ≠ "java/lang/invoke/MethodHandle" ∧ (xm_mi 181).1.cls ≠ "java/lang/invoke/VarHandle" ∧ (parseMethodDescriptor (xm_mi 181).1.desc).map (fun d => d.parameters.length) = some 2 := by rw [xk181_e]; decide +kernel
theorem xk181_3 : Cond.static (xm_mi 181).1 ∈ xw_ALL := by rw [xk181_e]; exact ww_1055
theorem xk182_e : xm_mi 182 = (yX11_least, cX11_least, 2, (some .int)) := rfl
theorem xk182_0 : Cond.code (xm_mi 182).1 (xm_mi 182).2.1 (xm_mi 182).2.2.1 (xm_mi 182).2.2.2 ∈ xw_ALL := by rw [xk182_e]; exact ww_1053
theorem xk182_2 : Cond.initialized (xm_mi 182).1.cls ∈ xw_ALL := by rw [xk182_e]; exact ww_10
theorem xk182_m : (xm_mi 182).2.2.1 ≤ 21 := by rw [xk182_e]; decide
theorem xk182_d : (xm_mi 182).1.cls ≠ "java/lang/invoke/MethodHandle" ∧ (xm_mi 182).1.cls ≠ "java/lang/invoke/VarHandle" ∧ (parseMethodDescriptor (xm_mi 182).1.desc).map (fun d => d.parameters.length) = some 1 := by rw [xk182_e]; decide +kernel
theorem xk182_3 : Cond.static (xm_mi 182).1 ∈ xw_ALL := by rw [xk182_e]; exact ww_1052
theorem xk183_e : xm_mi 183 = (yX11_isOneRun, cX11_isOneRun, 1, (some .boolean)) := rfl
theorem xk183_0 : Cond.code (xm_mi 183).1 (xm_mi 183).2.1 (xm_mi 183).2.2.1 (xm_mi 183).2.2.2 ∈ xw_ALL := by rw [xk183_e]; exact ww_1050
theorem xk183_2 : Cond.initialized (xm_mi 183).1.cls ∈ xw_ALL := by rw [xk183_e]; exact ww_10
theorem xk183_m : (xm_mi 183).2.2.1 ≤ 21 := by rw [xk183_e]; decide
theorem xk183_d : (xm_mi 183).1.cls ≠ "java/lang/invoke/MethodHandle" ∧ (xm_mi 183).1.cls ≠ "java/lang/invoke/VarHandle" ∧ (parseMethodDescriptor (xm_mi 183).1.desc).map (fun d => d.parameters.length) = some 1 := by rw [xk183_e]; decide +kernel
theorem xk183_3 : Cond.static (xm_mi 183).1 ∈ xw_ALL := by rw [xk183_e]; exact ww_1049
theorem xk184_e : xm_mi 184 = (yX11_odd, cX11_odd, 2, (some .int)) := rfl
theorem xk184_0 : Cond.code (xm_mi 184).1 (xm_mi 184).2.1 (xm_mi 184).2.2.1 (xm_mi 184).2.2.2 ∈ xw_ALL := by rw [xk184_e]; exact ww_1044
theorem xk184_2 : Cond.initialized (xm_mi 184).1.cls ∈ xw_ALL := by rw [xk184_e]; exact ww_10
theorem xk184_m : (xm_mi 184).2.2.1 ≤ 21 := by rw [xk184_e]; decide
theorem xk184_d : (xm_mi 184).1.cls ≠ "java/lang/invoke/MethodHandle" ∧ (xm_mi 184).1.cls ≠ "java/lang/invoke/VarHandle" ∧ (parseMethodDescriptor (xm_mi 184).1.desc).map (fun d => d.parameters.length) = some 1 := by rw [xk184_e]; decide +kernel
theorem xk184_3 : Cond.instanceMethod (xm_mi 184).1 ∈ xw_ALL := by rw [xk184_e]; exact ww_1042
theorem xk184_4 : Cond.selects (xm_mi 184).1.cls (xm_mi 184).1 (xm_mi 184).1 ∈ xw_ALL := by rw [xk184_e]; exact ww_1043
theorem xk184_c : vwCl[9]? = some ((xm_mi 184).1.cls, TX11, 23) := by rw [xk184_e]; rfl
theorem xk185_e : xm_mi 185 = (yX11_cutsTo, cX11_cutsTo, 6, (some .boolean)) := rfl
theorem xk185_0 : Cond.code (xm_mi 185).1 (xm_mi 185).2.1 (xm_mi 185).2.2.1 (xm_mi 185).2.2.2 ∈ xw_ALL := by rw [xk185_e]; exact ww_1064
theorem xk185_2 : Cond.initialized (xm_mi 185).1.cls ∈ xw_ALL := by rw [xk185_e]; exact ww_10
theorem xk185_m : (xm_mi 185).2.2.1 ≤ 21 := by rw [xk185_e]; decide
theorem xk185_d : (xm_mi 185).1.cls ≠ "java/lang/invoke/MethodHandle" ∧ (xm_mi 185).1.cls ≠ "java/lang/invoke/VarHandle" ∧ (parseMethodDescriptor (xm_mi 185).1.desc).map (fun d => d.parameters.length) = some 4 := by rw [xk185_e]; decide +kernel
theorem xk185_3 : Cond.instanceMethod (xm_mi 185).1 ∈ xw_ALL := by rw [xk185_e]; exact ww_1063
theorem xk185_4 : Cond.selects (xm_mi 185).1.cls (xm_mi 185).1 (xm_mi 185).1 ∈ xw_ALL := by rw [xk185_e]; exact wp_39
theorem xk185_c : vwCl[9]? = some ((xm_mi 185).1.cls, TX11, 23) := by rw [xk185_e]; rfl
theorem xk186_e : xm_mi 186 = (yX11_cuts, cX11_cuts, 5, (some .int)) := rfl
theorem xk186_0 : Cond.code (xm_mi 186).1 (xm_mi 186).2.1 (xm_mi 186).2.2.1 (xm_mi 186).2.2.2 ∈ xw_ALL := by rw [xk186_e]; exact ww_1060
theorem xk186_2 : Cond.initialized (xm_mi 186).1.cls ∈ xw_ALL := by rw [xk186_e]; exact ww_10
theorem xk186_m : (xm_mi 186).2.2.1 ≤ 21 := by rw [xk186_e]; decide
theorem xk186_d : (xm_mi 186).1.cls ≠ "java/lang/invoke/MethodHandle" ∧ (xm_mi 186).1.cls ≠ "java/lang/invoke/VarHandle" ∧ (parseMethodDescriptor (xm_mi 186).1.desc).map (fun d => d.parameters.length) = some 1 := by rw [xk186_e]; decide +kernel
theorem xk186_3 : Cond.instanceMethod (xm_mi 186).1 ∈ xw_ALL := by rw [xk186_e]; exact ww_1058
theorem xk186_4 : Cond.selects (xm_mi 186).1.cls (xm_mi 186).1 (xm_mi 186).1 ∈ xw_ALL := by rw [xk186_e]; exact ww_1059
theorem xk186_c : vwCl[9]? = some ((xm_mi 186).1.cls, TX11, 23) := by rw [xk186_e]; rfl
theorem xk187_e : xm_mi 187 = (yX11_goesOn, cX11_goesOn, 4, (some .boolean)) := rfl
theorem xk187_0 : Cond.code (xm_mi 187).1 (xm_mi 187).2.1 (xm_mi 187).2.2.1 (xm_mi 187).2.2.2 ∈ xw_ALL := by rw [xk187_e]; exact ww_1071
theorem xk187_2 : Cond.initialized (xm_mi 187).1.cls ∈ xw_ALL := by rw [xk187_e]; exact ww_10
theorem xk187_m : (xm_mi 187).2.2.1 ≤ 21 := by rw [xk187_e]; decide
theorem xk187_d : (xm_mi 187).1.cls ≠ "java/lang/invoke/MethodHandle" ∧ (xm_mi 187).1.cls ≠ "java/lang/invoke/VarHandle" ∧ (parseMethodDescriptor (xm_mi 187).1.desc).map (fun d => d.parameters.length) = some 2 := by rw [xk187_e]; decide +kernel
theorem xk187_3 : Cond.static (xm_mi 187).1 ∈ xw_ALL := by rw [xk187_e]; exact ww_1070
theorem xk188_e : xm_mi 188 = (yX11_way, cX11_way, 8, (some .int)) := rfl
theorem xk188_0 : Cond.code (xm_mi 188).1 (xm_mi 188).2.1 (xm_mi 188).2.2.1 (xm_mi 188).2.2.2 ∈ xw_ALL := by rw [xk188_e]; exact ww_1068
theorem xk188_2 : Cond.initialized (xm_mi 188).1.cls ∈ xw_ALL := by rw [xk188_e]; exact ww_10
theorem xk188_m : (xm_mi 188).2.2.1 ≤ 21 := by rw [xk188_e]; decide
theorem xk188_d : (xm_mi 188).1.cls ≠ "java/lang/invoke/MethodHandle" ∧ (xm_mi 188).1.cls ≠ "java/lang/invoke/VarHandle" ∧ (parseMethodDescriptor (xm_mi 188).1.desc).map (fun d => d.parameters.length) = some 1 := by rw [xk188_e]; decide +kernel
theorem xk188_3 : Cond.instanceMethod (xm_mi 188).1 ∈ xw_ALL := by rw [xk188_e]; exact ww_1066
theorem xk188_4 : Cond.selects (xm_mi 188).1.cls (xm_mi 188).1 (xm_mi 188).1 ∈ xw_ALL := by rw [xk188_e]; exact ww_1067
theorem xk188_c : vwCl[9]? = some ((xm_mi 188).1.cls, TX11, 23) := by rw [xk188_e]; rfl
theorem xk189_e : xm_mi 189 = (yX11_findHoles, cX11_findHoles, 5, (some .int)) := rfl
theorem xk189_0 : Cond.code (xm_mi 189).1 (xm_mi 189).2.1 (xm_mi 189).2.2.1 (xm_mi 189).2.2.2 ∈ xw_ALL := by rw [xk189_e]; exact ww_1079
theorem xk189_2 : Cond.initialized (xm_mi 189).1.cls ∈ xw_ALL := by rw [xk189_e]; exact ww_10
theorem xk189_m : (xm_mi 189).2.2.1 ≤ 21 := by rw [xk189_e]; decide
theorem xk189_d : (xm_mi 189).1.cls ≠ "java/lang/invoke/MethodHandle" ∧ (xm_mi 189).1.cls ≠ "java/lang/invoke/VarHandle" ∧ (parseMethodDescriptor (xm_mi 189).1.desc).map (fun d => d.parameters.length) = some 0 := by rw [xk189_e]; decide +kernel
theorem xk189_3 : Cond.instanceMethod (xm_mi 189).1 ∈ xw_ALL := by rw [xk189_e]; exact ww_1078
theorem xk189_4 : Cond.selects (xm_mi 189).1.cls (xm_mi 189).1 (xm_mi 189).1 ∈ xw_ALL := by rw [xk189_e]; exact wp_40
theorem xk189_c : vwCl[9]? = some ((xm_mi 189).1.cls, TX11, 23) := by rw [xk189_e]; rfl
theorem xk190_e : xm_mi 190 = (yX11_hole, cX11_hole, 3, (some .int)) := rfl
theorem xk190_0 : Cond.code (xm_mi 190).1 (xm_mi 190).2.1 (xm_mi 190).2.2.1 (xm_mi 190).2.2.2 ∈ xw_ALL := by rw [xk190_e]; exact ww_1075
theorem xk190_2 : Cond.initialized (xm_mi 190).1.cls ∈ xw_ALL := by rw [xk190_e]; exact ww_10
theorem xk190_m : (xm_mi 190).2.2.1 ≤ 21 := by rw [xk190_e]; decide
theorem xk190_d : (xm_mi 190).1.cls ≠ "java/lang/invoke/MethodHandle" ∧ (xm_mi 190).1.cls ≠ "java/lang/invoke/VarHandle" ∧ (parseMethodDescriptor (xm_mi 190).1.desc).map (fun d => d.parameters.length) = some 1 := by rw [xk190_e]; decide +kernel
theorem xk190_3 : Cond.instanceMethod (xm_mi 190).1 ∈ xw_ALL := by rw [xk190_e]; exact ww_1073
theorem xk190_4 : Cond.selects (xm_mi 190).1.cls (xm_mi 190).1 (xm_mi 190).1 ∈ xw_ALL := by rw [xk190_e]; exact ww_1074
theorem xk190_c : vwCl[9]? = some ((xm_mi 190).1.cls, TX11, 23) := by rw [xk190_e]; rfl
theorem xk191_e : xm_mi 191 = (yX11_meshes, cX11_meshes, 3, (some .int)) := rfl
theorem xk191_0 : Cond.code (xm_mi 191).1 (xm_mi 191).2.1 (xm_mi 191).2.2.1 (xm_mi 191).2.2.2 ∈ xw_ALL := by rw [xk191_e]; exact ww_1086
theorem xk191_2 : Cond.initialized (xm_mi 191).1.cls ∈ xw_ALL := by rw [xk191_e]; exact ww_10
theorem xk191_m : (xm_mi 191).2.2.1 ≤ 21 := by rw [xk191_e]; decide
theorem xk191_d : (xm_mi 191).1.cls ≠ "java/lang/invoke/MethodHandle" ∧ (xm_mi 191).1.cls ≠ "java/lang/invoke/VarHandle" ∧ (parseMethodDescriptor (xm_mi 191).1.desc).map (fun d => d.parameters.length) = some 1 := by rw [xk191_e]; decide +kernel
theorem xk191_3 : Cond.static (xm_mi 191).1 ∈ xw_ALL := by rw [xk191_e]; exact ww_1085
theorem xk192_e : xm_mi 192 = (yX11_bitsOf, cX11_bitsOf, 3, (some .int)) := rfl
theorem xk192_0 : Cond.code (xm_mi 192).1 (xm_mi 192).2.1 (xm_mi 192).2.2.1 (xm_mi 192).2.2.2 ∈ xw_ALL := by rw [xk192_e]; exact ww_1089
theorem xk192_2 : Cond.initialized (xm_mi 192).1.cls ∈ xw_ALL := by rw [xk192_e]; exact ww_10
theorem xk192_m : (xm_mi 192).2.2.1 ≤ 21 := by rw [xk192_e]; decide
theorem xk192_d : (xm_mi 192).1.cls ≠ "java/lang/invoke/MethodHandle" ∧ (xm_mi 192).1.cls ≠ "java/lang/invoke/VarHandle" ∧ (parseMethodDescriptor (xm_mi 192).1.desc).map (fun d => d.parameters.length) = some 1 := by rw [xk192_e]; decide +kernel
theorem xk192_3 : Cond.static (xm_mi 192).1 ∈ xw_ALL := by rw [xk192_e]; exact ww_1088
theorem xk193_e : xm_mi 193 = (yX11_open, cX11_open, 8, (some .int)) := rfl
theorem xk193_0 : Cond.code (xm_mi 193).1 (xm_mi 193).2.1 (xm_mi 193).2.2.1 (xm_mi 193).2.2.2 ∈ xw_ALL := by rw [xk193_e]; exact ww_1083
theorem xk193_2 : Cond.initialized (xm_mi 193).1.cls ∈ xw_ALL := by rw [xk193_e]; exact ww_10
theorem xk193_m : (xm_mi 193).2.2.1 ≤ 21 := by rw [xk193_e]; decide
theorem xk193_d : (xm_mi 193).1.cls ≠ "java/lang/invoke/MethodHandle" ∧ (xm_mi 193).1.cls ≠ "java/lang/invoke/VarHandle" ∧ (parseMethodDescriptor (xm_mi 193).1.desc).map (fun d => d.parameters.length) = some 0 := by rw [xk193_e]; decide +kernel
theorem xk193_3 : Cond.instanceMethod (xm_mi 193).1 ∈ xw_ALL := by rw [xk193_e]; exact ww_1081
theorem xk193_4 : Cond.selects (xm_mi 193).1.cls (xm_mi 193).1 (xm_mi 193).1 ∈ xw_ALL := by rw [xk193_e]; exact ww_1082
theorem xk193_c : vwCl[9]? = some ((xm_mi 193).1.cls, TX11, 23) := by rw [xk193_e]; rfl
theorem xk194_e : xm_mi 194 = (yX11_minutesBy, cX11_minutesBy, 5, (some .int)) := rfl
theorem xk194_0 : Cond.code (xm_mi 194).1 (xm_mi 194).2.1 (xm_mi 194).2.2.1 (xm_mi 194).2.2.2 ∈ xw_ALL := by rw [xk194_e]; exact ww_1100
theorem xk194_2 : Cond.initialized (xm_mi 194).1.cls ∈ xw_ALL := by rw [xk194_e]; exact ww_10
theorem xk194_m : (xm_mi 194).2.2.1 ≤ 21 := by rw [xk194_e]; decide
theorem xk194_d : (xm_mi 194).1.cls ≠ "java/lang/invoke/MethodHandle" ∧ (xm_mi 194).1.cls ≠ "java/lang/invoke/VarHandle" ∧ (parseMethodDescriptor (xm_mi 194).1.desc).map (fun d => d.parameters.length) = some 2 := by rw [xk194_e]; decide +kernel
theorem xk194_3 : Cond.instanceMethod (xm_mi 194).1 ∈ xw_ALL := by rw [xk194_e]; exact ww_1099
theorem xk194_4 : Cond.selects (xm_mi 194).1.cls (xm_mi 194).1 (xm_mi 194).1 ∈ xw_ALL := by rw [xk194_e]; exact wp_41
theorem xk194_c : vwCl[9]? = some ((xm_mi 194).1.cls, TX11, 23) := by rw [xk194_e]; rfl
theorem xk195_e : xm_mi 195 = (yX11_threes, cX11_threes, 3, (some .int)) := rfl
theorem xk195_0 : Cond.code (xm_mi 195).1 (xm_mi 195).2.1 (xm_mi 195).2.2.1 (xm_mi 195).2.2.2 ∈ xw_ALL := by rw [xk195_e]; exact ww_1096
theorem xk195_2 : Cond.initialized (xm_mi 195).1.cls ∈ xw_ALL := by rw [xk195_e]; exact ww_10
theorem xk195_m : (xm_mi 195).2.2.1 ≤ 21 := by rw [xk195_e]; decide
theorem xk195_d : (xm_mi 195).1.cls ≠ "java/lang/invoke/MethodHandle" ∧ (xm_mi 195).1.cls ≠ "java/lang/invoke/VarHandle" ∧ (parseMethodDescriptor (xm_mi 195).1.desc).map (fun d => d.parameters.length) = some 1 := by rw [xk195_e]; decide +kernel
theorem xk195_3 : Cond.static (xm_mi 195).1 ∈ xw_ALL := by rw [xk195_e]; exact ww_1095
theorem xk196_e : xm_mi 196 = (yX11_minutes, cX11_minutes, 5, (some .int)) := rfl
theorem xk196_0 : Cond.code (xm_mi 196).1 (xm_mi 196).2.1 (xm_mi 196).2.2.1 (xm_mi 196).2.2.2 ∈ xw_ALL := by rw [xk196_e]; exact ww_1093
theorem xk196_2 : Cond.initialized (xm_mi 196).1.cls ∈ xw_ALL := by rw [xk196_e]; exact ww_10
theorem xk196_m : (xm_mi 196).2.2.1 ≤ 21 := by rw [xk196_e]; decide
theorem xk196_d : (xm_mi 196).1.cls ≠ "java/lang/invoke/MethodHandle" ∧ (xm_mi 196).1.cls ≠ "java/lang/invoke/VarHandle" ∧ (parseMethodDescriptor (xm_mi 196).1.desc).map (fun d => d.parameters.length) = some 1 := by rw [xk196_e]; decide +kernel
theorem xk196_3 : Cond.instanceMethod (xm_mi 196).1 ∈ xw_ALL := by rw [xk196_e]; exact ww_1091
theorem xk196_4 : Cond.selects (xm_mi 196).1.cls (xm_mi 196).1 (xm_mi 196).1 ∈ xw_ALL := by rw [xk196_e]; exact ww_1092
theorem xk196_c : vwCl[9]? = some ((xm_mi 196).1.cls, TX11, 23) := by rw [xk196_e]; rfl
theorem xk197_e : xm_mi 197 = (yX11_wears, cX11_wears, 3, (some .int)) := rfl
theorem xk197_0 : Cond.code (xm_mi 197).1 (xm_mi 197).2.1 (xm_mi 197).2.2.1 (xm_mi 197).2.2.2 ∈ xw_ALL := by rw [xk197_e]; exact ww_1116
theorem xk197_2 : Cond.initialized (xm_mi 197).1.cls ∈ xw_ALL := by rw [xk197_e]; exact ww_10
theorem xk197_m : (xm_mi 197).2.2.1 ≤ 21 := by rw [xk197_e]; decide
theorem xk197_d : (xm_mi 197).1.cls ≠ "java/lang/invoke/MethodHandle" ∧ (xm_mi 197).1.cls ≠ "java/lang/invoke/VarHandle" ∧ (parseMethodDescriptor (xm_mi 197).1.desc).map (fun d => d.parameters.length) = some 1 := by rw [xk197_e]; decide +kernel
theorem xk197_3 : Cond.instanceMethod (xm_mi 197).1 ∈ xw_ALL := by rw [xk197_e]; exact ww_1115
theorem xk197_4 : Cond.selects (xm_mi 197).1.cls (xm_mi 197).1 (xm_mi 197).1 ∈ xw_ALL := by rw [xk197_e]; exact wp_44
theorem xk197_c : vwCl[9]? = some ((xm_mi 197).1.cls, TX11, 23) := by rw [xk197_e]; rfl
theorem xk198_e : xm_mi 198 = (yX11_day, cX11_day, 2, none) := rfl
theorem xk198_0 : Cond.code (xm_mi 198).1 (xm_mi 198).2.1 (xm_mi 198).2.2.1 (xm_mi 198).2.2.2 ∈ xw_ALL := by rw [xk198_e]; exact ww_1112
theorem xk198_2 : Cond.initialized (xm_mi 198).1.cls ∈ xw_ALL := by rw [xk198_e]; exact ww_10
theorem xk198_m : (xm_mi 198).2.2.1 ≤ 21 := by rw [xk198_e]; decide
theorem xk198_d : (xm_mi 198).1.cls ≠ "java/lang/invoke/MethodHandle" ∧ (xm_mi 198).1.cls ≠ "java/lang/invoke/VarHandle" ∧ (parseMethodDescriptor (xm_mi 198).1.desc).map (fun d => d.parameters.length) = some 0 := by rw [xk198_e]; decide +kernel
theorem xk198_3 : Cond.instanceMethod (xm_mi 198).1 ∈ xw_ALL := by rw [xk198_e]; exact ww_1111
theorem xk198_4 : Cond.selects (xm_mi 198).1.cls (xm_mi 198).1 (xm_mi 198).1 ∈ xw_ALL := by rw [xk198_e]; exact wp_43
theorem xk198_c : vwCl[9]? = some ((xm_mi 198).1.cls, TX11, 23) := by rw [xk198_e]; rfl
theorem xk199_e : xm_mi 199 = (yX11_go, cX11_go, 3, none) := rfl
theorem xk199_0 : Cond.code (xm_mi 199).1 (xm_mi 199).2.1 (xm_mi 199).2.2.1 (xm_mi 199).2.2.2 ∈ xw_ALL := by rw [xk199_e]; exact ww_1108
theorem xk199_2 : Cond.initialized (xm_mi 199).1.cls ∈ xw_ALL := by rw [xk199_e]; exact ww_10
theorem xk199_m : (xm_mi 199).2.2.1 ≤ 21 := by rw [xk199_e]; decide
theorem xk199_d : (xm_mi 199).1.cls ≠ "java/lang/invoke/MethodHandle" ∧ (xm_mi 199).1.cls ≠ "java/lang/invoke/VarHandle" ∧ (parseMethodDescriptor (xm_mi 199).1.desc).map (fun d => d.parameters.length) = some 1 := by rw [xk199_e]; decide +kernel
theorem xk199_3 : Cond.instanceMethod (xm_mi 199).1 ∈ xw_ALL := by rw [xk199_e]; exact ww_1107
theorem xk199_4 : Cond.selects (xm_mi 199).1.cls (xm_mi 199).1 (xm_mi 199).1 ∈ xw_ALL := by rw [xk199_e]; exact wp_42
theorem xk199_c : vwCl[9]? = some ((xm_mi 199).1.cls, TX11, 23) := by rw [xk199_e]; rfl
theorem xk200_e : xm_mi 200 = (yX11_days, cX11_days, 2, (some .int)) := rfl
theorem xk200_0 : Cond.code (xm_mi 200).1 (xm_mi 200).2.1 (xm_mi 200).2.2.1 (xm_mi 200).2.2.2 ∈ xw_ALL := by rw [xk200_e]; exact ww_1104
theorem xk200_2 : Cond.initialized (xm_mi 200).1.cls ∈ xw_ALL := by rw [xk200_e]; exact ww_10
theorem xk200_m : (xm_mi 200).2.2.1 ≤ 21 := by rw [xk200_e]; decide
theorem xk200_d : (xm_mi 200).1.cls ≠ "java/lang/invoke/MethodHandle" ∧ (xm_mi 200).1.cls ≠ "java/lang/invoke/VarHandle" ∧ (parseMethodDescriptor (xm_mi 200).1.desc).map (fun d => d.parameters.length) = some 1 := by rw [xk200_e]; decide +kernel
theorem xk200_3 : Cond.instanceMethod (xm_mi 200).1 ∈ xw_ALL := by rw [xk200_e]; exact ww_1102
theorem xk200_4 : Cond.selects (xm_mi 200).1.cls (xm_mi 200).1 (xm_mi 200).1 ∈ xw_ALL := by rw [xk200_e]; exact ww_1103
theorem xk200_c : vwCl[9]? = some ((xm_mi 200).1.cls, TX11, 23) := by rw [xk200_e]; rfl
theorem xk201_e : xm_mi 201 = (yX11_draw, cX11_draw, 1, (some .int)) := rfl
theorem xk201_0 : Cond.code (xm_mi 201).1 (xm_mi 201).2.1 (xm_mi 201).2.2.1 (xm_mi 201).2.2.2 ∈ xw_ALL := by rw [xk201_e]; exact ww_1124
theorem xk201_2 : Cond.initialized (xm_mi 201).1.cls ∈ xw_ALL := by rw [xk201_e]; exact ww_10
theorem xk201_m : (xm_mi 201).2.2.1 ≤ 21 := by rw [xk201_e]; decide
theorem xk201_d : (xm_mi 201).1.cls ≠ "java/lang/invoke/MethodHandle" ∧ (xm_mi 201).1.cls ≠ "java/lang/invoke/VarHandle" ∧ (parseMethodDescriptor (xm_mi 201).1.desc).map (fun d => d.parameters.length) = some 0 := by rw [xk201_e]; decide +kernel
theorem xk201_3 : Cond.instanceMethod (xm_mi 201).1 ∈ xw_ALL := by rw [xk201_e]; exact ww_1123
theorem xk201_4 : Cond.selects (xm_mi 201).1.cls (xm_mi 201).1 (xm_mi 201).1 ∈ xw_ALL := by rw [xk201_e]; exact wp_45
theorem xk201_c : vwCl[9]? = some ((xm_mi 201).1.cls, TX11, 23) := by rw [xk201_e]; rfl
theorem xk202_e : xm_mi 202 = (yX11_draws, cX11_draws, 3, (some .int)) := rfl
theorem xk202_0 : Cond.code (xm_mi 202).1 (xm_mi 202).2.1 (xm_mi 202).2.2.1 (xm_mi 202).2.2.2 ∈ xw_ALL := by rw [xk202_e]; exact ww_1120
theorem xk202_2 : Cond.initialized (xm_mi 202).1.cls ∈ xw_ALL := by rw [xk202_e]; exact ww_10
theorem xk202_m : (xm_mi 202).2.2.1 ≤ 21 := by rw [xk202_e]; decide
theorem xk202_d : (xm_mi 202).1.cls ≠ "java/lang/invoke/MethodHandle" ∧ (xm_mi 202).1.cls ≠ "java/lang/invoke/VarHandle" ∧ (parseMethodDescriptor (xm_mi 202).1.desc).map (fun d => d.parameters.length) = some 1 := by rw [xk202_e]; decide +kernel
theorem xk202_3 : Cond.instanceMethod (xm_mi 202).1 ∈ xw_ALL := by rw [xk202_e]; exact ww_1118
theorem xk202_4 : Cond.selects (xm_mi 202).1.cls (xm_mi 202).1 (xm_mi 202).1 ∈ xw_ALL := by rw [xk202_e]; exact ww_1119
theorem xk202_c : vwCl[9]? = some ((xm_mi 202).1.cls, TX11, 23) := by rw [xk202_e]; rfl
theorem xk203_e : xm_mi 203 = (yX11_seed, cX11_seed, 2, (some .int)) := rfl
theorem xk203_0 : Cond.code (xm_mi 203).1 (xm_mi 203).2.1 (xm_mi 203).2.2.1 (xm_mi 203).2.2.2 ∈ xw_ALL := by rw [xk203_e]; exact ww_1129
theorem xk203_2 : Cond.initialized (xm_mi 203).1.cls ∈ xw_ALL := by rw [xk203_e]; exact ww_10
theorem xk203_m : (xm_mi 203).2.2.1 ≤ 21 := by rw [xk203_e]; decide
theorem xk203_d : (xm_mi 203).1.cls ≠ "java/lang/invoke/MethodHandle" ∧ (xm_mi 203).1.cls ≠ "java/lang/invoke/VarHandle" ∧ (parseMethodDescriptor (xm_mi 203).1.desc).map (fun d => d.parameters.length) = some 1 := by rw [xk203_e]; decide +kernel
theorem xk203_3 : Cond.instanceMethod (xm_mi 203).1 ∈ xw_ALL := by rw [xk203_e]; exact ww_1127
theorem xk203_4 : Cond.selects (xm_mi 203).1.cls (xm_mi 203).1 (xm_mi 203).1 ∈ xw_ALL := by rw [xk203_e]; exact ww_1128
theorem xk203_c : vwCl[9]? = some ((xm_mi 203).1.cls, TX11, 23) := by rw [xk203_e]; rfl
theorem xk204_e : xm_mi 204 = (yX11_then, cX11_then, 5, (some .int)) := rfl
theorem xk204_0 : Cond.code (xm_mi 204).1 (xm_mi 204).2.1 (xm_mi 204).2.2.1 (xm_mi 204).2.2.2 ∈ xw_ALL := by rw [xk204_e]; exact ww_1133
theorem xk204_2 : Cond.initialized (xm_mi 204).1.cls ∈ xw_ALL := by rw [xk204_e]; exact ww_10
theorem xk204_m : (xm_mi 204).2.2.1 ≤ 21 := by rw [xk204_e]; decide
theorem xk204_d : (xm_mi 204).1.cls ≠ "java/lang/invoke/MethodHandle" ∧ (xm_mi 204).1.cls ≠ "java/lang/invoke/VarHandle" ∧ (parseMethodDescriptor (xm_mi 204).1.desc).map (fun d => d.parameters.length) = some 3 := by rw [xk204_e]; decide +kernel
theorem xk204_3 : Cond.instanceMethod (xm_mi 204).1 ∈ xw_ALL := by rw [xk204_e]; exact ww_1131
theorem xk204_4 : Cond.selects (xm_mi 204).1.cls (xm_mi 204).1 (xm_mi 204).1 ∈ xw_ALL := by rw [xk204_e]; exact ww_1132
theorem xk204_c : vwCl[9]? = some ((xm_mi 204).1.cls, TX11, 23) := by rw [xk204_e]; rfl
theorem xk205_e : xm_mi 205 = (yX11_goes, cX11_goes, 6, (some .int)) := rfl
theorem xk205_0 : Cond.code (xm_mi 205).1 (xm_mi 205).2.1 (xm_mi 205).2.2.1 (xm_mi 205).2.2.2 ∈ xw_ALL := by rw [xk205_e]; exact ww_1148
theorem xk205_2 : Cond.initialized (xm_mi 205).1.cls ∈ xw_ALL := by rw [xk205_e]; exact ww_10
theorem xk205_m : (xm_mi 205).2.2.1 ≤ 21 := by rw [xk205_e]; decide
theorem xk205_d : (xm_mi 205).1.cls ≠ "java/lang/invoke/MethodHandle" ∧ (xm_mi 205).1.cls ≠ "java/lang/invoke/VarHandle" ∧ (parseMethodDescriptor (xm_mi 205).1.desc).map (fun d => d.parameters.length) = some 2 := by rw [xk205_e]; decide +kernel
theorem xk205_3 : Cond.instanceMethod (xm_mi 205).1 ∈ xw_ALL := by rw [xk205_e]; exact ww_1146
theorem xk205_4 : Cond.selects (xm_mi 205).1.cls (xm_mi 205).1 (xm_mi 205).1 ∈ xw_ALL := by rw [xk205_e]; exact ww_1147
theorem xk205_c : vwCl[9]? = some ((xm_mi 205).1.cls, TX11, 23) := by rw [xk205_e]; rfl
theorem xk206_e : xm_mi 206 = (yX11_mendAhead, cX11_mendAhead, 7, (some .int)) := rfl
theorem xk206_0 : Cond.code (xm_mi 206).1 (xm_mi 206).2.1 (xm_mi 206).2.2.1 (xm_mi 206).2.2.2 ∈ xw_ALL := by rw [xk206_e]; exact ww_1152
theorem xk206_2 : Cond.initialized (xm_mi 206).1.cls ∈ xw_ALL := by rw [xk206_e]; exact ww_10
theorem xk206_m : (xm_mi 206).2.2.1 ≤ 21 := by rw [xk206_e]; decide
theorem xk206_d : (xm_mi 206).1.cls ≠ "java/lang/invoke/MethodHandle" ∧ (xm_mi 206).1.cls ≠ "java/lang/invoke/VarHandle" ∧ (parseMethodDescriptor (xm_mi 206).1.desc).map (fun d => d.parameters.length) = some 2 := by rw [xk206_e]; decide +kernel
theorem xk206_3 : Cond.instanceMethod (xm_mi 206).1 ∈ xw_ALL := by rw [xk206_e]; exact ww_1150
theorem xk206_4 : Cond.selects (xm_mi 206).1.cls (xm_mi 206).1 (xm_mi 206).1 ∈ xw_ALL := by rw [xk206_e]; exact ww_1151
theorem xk206_c : vwCl[9]? = some ((xm_mi 206).1.cls, TX11, 23) := by rw [xk206_e]; rfl
theorem xk207_e : xm_mi 207 = (yX11_hands, cX11_hands, 5, (some .int)) := rfl
theorem xk207_0 : Cond.code (xm_mi 207).1 (xm_mi 207).2.1 (xm_mi 207).2.2.1 (xm_mi 207).2.2.2 ∈ xw_ALL := by rw [xk207_e]; exact ww_1156
theorem xk207_2 : Cond.initialized (xm_mi 207).1.cls ∈ xw_ALL := by rw [xk207_e]; exact ww_10
theorem xk207_m : (xm_mi 207).2.2.1 ≤ 21 := by rw [xk207_e]; decide
theorem xk207_d : (xm_mi 207).1.cls ≠ "java/lang/invoke/MethodHandle" ∧ (xm_mi 207).1.cls ≠ "java/lang/invoke/VarHandle" ∧ (parseMethodDescriptor (xm_mi 207).1.desc).map (fun d => d.parameters.length) = some 2 := by rw [xk207_e]; decide +kernel
theorem xk207_3 : Cond.instanceMethod (xm_mi 207).1 ∈ xw_ALL := by rw [xk207_e]; exact ww_1154
theorem xk207_4 : Cond.selects (xm_mi 207).1.cls (xm_mi 207).1 (xm_mi 207).1 ∈ xw_ALL := by rw [xk207_e]; exact ww_1155
theorem xk207_c : vwCl[9]? = some ((xm_mi 207).1.cls, TX11, 23) := by rw [xk207_e]; rfl
theorem xk208_e : xm_mi 208 = (yX11_swimsOut, cX11_swimsOut, 7, (some .long)) := rfl
theorem xk208_0 : Cond.code (xm_mi 208).1 (xm_mi 208).2.1 (xm_mi 208).2.2.1 (xm_mi 208).2.2.2 ∈ xw_ALL := by rw [xk208_e]; exact ww_1160
theorem xk208_2 : Cond.initialized (xm_mi 208).1.cls ∈ xw_ALL := by rw [xk208_e]; exact ww_10
theorem xk208_m : (xm_mi 208).2.2.1 ≤ 21 := by rw [xk208_e]; decide
theorem xk208_d : (xm_mi 208).1.cls ≠ "java/lang/invoke/MethodHandle" ∧ (xm_mi 208).1.cls ≠ "java/lang/invoke/VarHandle" ∧ (parseMethodDescriptor (xm_mi 208).1.desc).map (fun d => d.parameters.length) = some 1 := by rw [xk208_e]; decide +kernel
theorem xk208_3 : Cond.instanceMethod (xm_mi 208).1 ∈ xw_ALL := by rw [xk208_e]; exact ww_1158
theorem xk208_4 : Cond.selects (xm_mi 208).1.cls (xm_mi 208).1 (xm_mi 208).1 ∈ xw_ALL := by rw [xk208_e]; exact ww_1159
theorem xk208_c : vwCl[9]? = some ((xm_mi 208).1.cls, TX11, 23) := by rw [xk208_e]; rfl
theorem xk209_e : xm_mi 209 = (yX11_begins, cX11_begins, 2, none) := rfl
theorem xk209_0 : Cond.code (xm_mi 209).1 (xm_mi 209).2.1 (xm_mi 209).2.2.1 (xm_mi 209).2.2.2 ∈ xw_ALL := by rw [xk209_e]; exact ww_1177
theorem xk209_2 : Cond.initialized (xm_mi 209).1.cls ∈ xw_ALL := by rw [xk209_e]; exact ww_10
theorem xk209_m : (xm_mi 209).2.2.1 ≤ 21 := by rw [xk209_e]; decide
theorem xk209_d : (xm_mi 209).1.cls ≠ "java/lang/invoke/MethodHandle" ∧ (xm_mi 209).1.cls ≠ "java/lang/invoke/VarHandle" ∧ (parseMethodDescriptor (xm_mi 209).1.desc).map (fun d => d.parameters.length) = some 1 := by rw [xk209_e]; decide +kernel
theorem xk209_3 : Cond.instanceMethod (xm_mi 209).1 ∈ xw_ALL := by rw [xk209_e]; exact ww_1176
theorem xk209_4 : Cond.selects (xm_mi 209).1.cls (xm_mi 209).1 (xm_mi 209).1 ∈ xw_ALL := by rw [xk209_e]; exact wp_50
theorem xk209_c : vwCl[9]? = some ((xm_mi 209).1.cls, TX11, 23) := by rw [xk209_e]; rfl
theorem xk210_e : xm_mi 210 = (yX11_above, cX11_above, 1, (some .int)) := rfl
theorem xk210_0 : Cond.code (xm_mi 210).1 (xm_mi 210).2.1 (xm_mi 210).2.2.1 (xm_mi 210).2.2.2 ∈ xw_ALL := by rw [xk210_e]; exact ww_1180
theorem xk210_2 : Cond.initialized (xm_mi 210).1.cls ∈ xw_ALL := by rw [xk210_e]; exact ww_10
theorem xk210_m : (xm_mi 210).2.2.1 ≤ 21 := by rw [xk210_e]; decide
theorem xk210_d : (xm_mi 210).1.cls ≠ "java/lang/invoke/MethodHandle" ∧ (xm_mi 210).1.cls ≠ "java/lang/invoke/VarHandle" ∧ (parseMethodDescriptor (xm_mi 210).1.desc).map (fun d => d.parameters.length) = some 1 := by rw [xk210_e]; decide +kernel
theorem xk210_3 : Cond.static (xm_mi 210).1 ∈ xw_ALL := by rw [xk210_e]; exact ww_1179
theorem xk211_e : xm_mi 211 = (yX11_kindNow, cX11_kindNow, 1, (some .int)) := rfl
theorem xk211_0 : Cond.code (xm_mi 211).1 (xm_mi 211).2.1 (xm_mi 211).2.2.1 (xm_mi 211).2.2.2 ∈ xw_ALL := by rw [xk211_e]; exact ww_1169
theorem xk211_2 : Cond.initialized (xm_mi 211).1.cls ∈ xw_ALL := by rw [xk211_e]; exact ww_10
theorem xk211_m : (xm_mi 211).2.2.1 ≤ 21 := by rw [xk211_e]; decide
theorem xk211_d : (xm_mi 211).1.cls ≠ "java/lang/invoke/MethodHandle" ∧ (xm_mi 211).1.cls ≠ "java/lang/invoke/VarHandle" ∧ (parseMethodDescriptor (xm_mi 211).1.desc).map (fun d => d.parameters.length) = some 0 := by rw [xk211_e]; decide +kernel
theorem xk211_3 : Cond.instanceMethod (xm_mi 211).1 ∈ xw_ALL := by rw [xk211_e]; exact ww_1168
theorem xk211_4 : Cond.selects (xm_mi 211).1.cls (xm_mi 211).1 (xm_mi 211).1 ∈ xw_ALL := by rw [xk211_e]; exact wp_48
theorem xk211_c : vwCl[9]? = some ((xm_mi 211).1.cls, TX11, 23) := by rw [xk211_e]; rfl
theorem xk212_e : xm_mi 212 = (yX11_mNow, cX11_mNow, 1, (some .int)) := rfl
theorem xk212_0 : Cond.code (xm_mi 212).1 (xm_mi 212).2.1 (xm_mi 212).2.2.1 (xm_mi 212).2.2.2 ∈ xw_ALL := by rw [xk212_e]; exact ww_1188
theorem xk212_2 : Cond.initialized (xm_mi 212).1.cls ∈ xw_ALL := by rw [xk212_e]; exact ww_10
theorem xk212_m : (xm_mi 212).2.2.1 ≤ 21 := by rw [xk212_e]; decide
theorem xk212_d : (xm_mi 212).1.cls ≠ "java/lang/invoke/MethodHandle" ∧ (xm_mi 212).1.cls ≠ "java/lang/invoke/VarHandle" ∧ (parseMethodDescriptor (xm_mi 212).1.desc).map (fun d => d.parameters.length) = some 0 := by rw [xk212_e]; decide +kernel
theorem xk212_3 : Cond.instanceMethod (xm_mi 212).1 ∈ xw_ALL := by rw [xk212_e]; exact ww_1187
theorem xk212_4 : Cond.selects (xm_mi 212).1.cls (xm_mi 212).1 (xm_mi 212).1 ∈ xw_ALL := by rw [xk212_e]; exact wp_52
theorem xk212_c : vwCl[9]? = some ((xm_mi 212).1.cls, TX11, 23) := by rw [xk212_e]; rfl
theorem xk213_e : xm_mi 213 = (yX11_holdsAs, cX11_holdsAs, 3, (some .int)) := rfl
theorem xk213_0 : Cond.code (xm_mi 213).1 (xm_mi 213).2.1 (xm_mi 213).2.2.1 (xm_mi 213).2.2.2 ∈ xw_ALL := by rw [xk213_e]; exact ww_1173
theorem xk213_2 : Cond.initialized (xm_mi 213).1.cls ∈ xw_ALL := by rw [xk213_e]; exact ww_10
theorem xk213_m : (xm_mi 213).2.2.1 ≤ 21 := by rw [xk213_e]; decide
theorem xk213_d : (xm_mi 213).1.cls ≠ "java/lang/invoke/MethodHandle" ∧ (xm_mi 213).1.cls ≠ "java/lang/invoke/VarHandle" ∧ (parseMethodDescriptor (xm_mi 213).1.desc).map (fun d => d.parameters.length) = some 2 := by rw [xk213_e]; decide +kernel
theorem xk213_3 : Cond.instanceMethod (xm_mi 213).1 ∈ xw_ALL := by rw [xk213_e]; exact ww_1172
theorem xk213_4 : Cond.selects (xm_mi 213).1.cls (xm_mi 213).1 (xm_mi 213).1 ∈ xw_ALL := by rw [xk213_e]; exact wp_49
theorem xk213_c : vwCl[9]? = some ((xm_mi 213).1.cls, TX11, 23) := by rw [xk213_e]; rfl
theorem xk214_e : xm_mi 214 = (yX11_slipsAs, cX11_slipsAs, 3, (some .int)) := rfl
theorem xk214_0 : Cond.code (xm_mi 214).1 (xm_mi 214).2.1 (xm_mi 214).2.2.1 (xm_mi 214).2.2.2 ∈ xw_ALL := by rw [xk214_e]; exact ww_1184
theorem xk214_2 : Cond.initialized (xm_mi 214).1.cls ∈ xw_ALL := by rw [xk214_e]; exact ww_10
theorem xk214_m : (xm_mi 214).2.2.1 ≤ 21 := by rw [xk214_e]; decide
theorem xk214_d : (xm_mi 214).1.cls ≠ "java/lang/invoke/MethodHandle" ∧ (xm_mi 214).1.cls ≠ "java/lang/invoke/VarHandle" ∧ (parseMethodDescriptor (xm_mi 214).1.desc).map (fun d => d.parameters.length) = some 2 := by rw [xk214_e]; decide +kernel
theorem xk214_3 : Cond.instanceMethod (xm_mi 214).1 ∈ xw_ALL := by rw [xk214_e]; exact ww_1183
theorem xk214_4 : Cond.selects (xm_mi 214).1.cls (xm_mi 214).1 (xm_mi 214).1 ∈ xw_ALL := by rw [xk214_e]; exact wp_51
theorem xk214_c : vwCl[9]? = some ((xm_mi 214).1.cls, TX11, 23) := by rw [xk214_e]; rfl
theorem xk215_e : xm_mi 215 = (yX11_tiesAs, cX11_tiesAs, 3, (some .int)) := rfl
theorem xk215_0 : Cond.code (xm_mi 215).1 (xm_mi 215).2.1 (xm_mi 215).2.2.1 (xm_mi 215).2.2.2 ∈ xw_ALL := by rw [xk215_e]; exact ww_1192
theorem xk215_2 : Cond.initialized (xm_mi 215).1.cls ∈ xw_ALL := by rw [xk215_e]; exact ww_10
theorem xk215_m : (xm_mi 215).2.2.1 ≤ 21 := by rw [xk215_e]; decide
theorem xk215_d : (xm_mi 215).1.cls ≠ "java/lang/invoke/MethodHandle" ∧ (xm_mi 215).1.cls ≠ "java/lang/invoke/VarHandle" ∧ (parseMethodDescriptor (xm_mi 215).1.desc).map (fun d => d.parameters.length) = some 2 := by rw [xk215_e]; decide +kernel
theorem xk215_3 : Cond.instanceMethod (xm_mi 215).1 ∈ xw_ALL := by rw [xk215_e]; exact ww_1191
theorem xk215_4 : Cond.selects (xm_mi 215).1.cls (xm_mi 215).1 (xm_mi 215).1 ∈ xw_ALL := by rw [xk215_e]; exact wp_53
theorem xk215_c : vwCl[9]? = some ((xm_mi 215).1.cls, TX11, 23) := by rw [xk215_e]; rfl
theorem xk216_e : xm_mi 216 = (yX11_partsAs, cX11_partsAs, 5, (some .int)) := rfl
theorem xk216_0 : Cond.code (xm_mi 216).1 (xm_mi 216).2.1 (xm_mi 216).2.2.1 (xm_mi 216).2.2.2 ∈ xw_ALL := by rw [xk216_e]; exact ww_1196
theorem xk216_2 : Cond.initialized (xm_mi 216).1.cls ∈ xw_ALL := by rw [xk216_e]; exact ww_10
theorem xk216_m : (xm_mi 216).2.2.1 ≤ 21 := by rw [xk216_e]; decide
theorem xk216_d : (xm_mi 216).1.cls ≠ "java/lang/invoke/MethodHandle" ∧ (xm_mi 216).1.cls ≠ "java/lang/invoke/VarHandle" ∧ (parseMethodDescriptor (xm_mi 216).1.desc).map (fun d => d.parameters.length) = some 2 := by rw [xk216_e]; decide +kernel
theorem xk216_3 : Cond.instanceMethod (xm_mi 216).1 ∈ xw_ALL := by rw [xk216_e]; exact ww_1195
theorem xk216_4 : Cond.selects (xm_mi 216).1.cls (xm_mi 216).1 (xm_mi 216).1 ∈ xw_ALL := by rw [xk216_e]; exact wp_54
theorem xk216_c : vwCl[9]? = some ((xm_mi 216).1.cls, TX11, 23) := by rw [xk216_e]; rfl
theorem xk217_e : xm_mi 217 = (yX11_voice, cX11_voice, 6, (some .int)) := rfl
theorem xk217_0 : Cond.code (xm_mi 217).1 (xm_mi 217).2.1 (xm_mi 217).2.2.1 (xm_mi 217).2.2.2 ∈ xw_ALL := by rw [xk217_e]; exact ww_1165
theorem xk217_2 : Cond.initialized (xm_mi 217).1.cls ∈ xw_ALL := by rw [xk217_e]; exact ww_10
theorem xk217_m : (xm_mi 217).2.2.1 ≤ 21 := by rw [xk217_e]; decide
theorem xk217_d : (xm_mi 217).1.cls ≠ "java/lang/invoke/MethodHandle" ∧ (xm_mi 217).1.cls ≠ "java/lang/invoke/VarHandle" ∧ (parseMethodDescriptor (xm_mi 217).1.desc).map (fun d => d.parameters.length) = some 3 := by rw [xk217_e]; decide +kernel
theorem xk217_3 : Cond.instanceMethod (xm_mi 217).1 ∈ xw_ALL := by rw [xk217_e]; exact ww_1163
theorem xk217_4 : Cond.selects (xm_mi 217).1.cls (xm_mi 217).1 (xm_mi 217).1 ∈ xw_ALL := by rw [xk217_e]; exact ww_1164
theorem xk217_c : vwCl[9]? = some ((xm_mi 217).1.cls, TX11, 23) := by rw [xk217_e]; rfl
theorem xk218_e : xm_mi 218 = (yX11_body, cX11_body, 2, (some .int)) := rfl
theorem xk218_0 : Cond.code (xm_mi 218).1 (xm_mi 218).2.1 (xm_mi 218).2.2.1 (xm_mi 218).2.2.2 ∈ xw_ALL := by rw [xk218_e]; exact ww_1200
theorem xk218_2 : Cond.initialized (xm_mi 218).1.cls ∈ xw_ALL := by rw [xk218_e]; exact ww_10
theorem xk218_m : (xm_mi 218).2.2.1 ≤ 21 := by rw [xk218_e]; decide
theorem xk218_d : (xm_mi 218).1.cls ≠ "java/lang/invoke/MethodHandle" ∧ (xm_mi 218).1.cls ≠ "java/lang/invoke/VarHandle" ∧ (parseMethodDescriptor (xm_mi 218).1.desc).map (fun d => d.parameters.length) = some 1 := by rw [xk218_e]; decide +kernel
theorem xk218_3 : Cond.instanceMethod (xm_mi 218).1 ∈ xw_ALL := by rw [xk218_e]; exact ww_1198
theorem xk218_4 : Cond.selects (xm_mi 218).1.cls (xm_mi 218).1 (xm_mi 218).1 ∈ xw_ALL := by rw [xk218_e]; exact ww_1199
theorem xk218_c : vwCl[9]? = some ((xm_mi 218).1.cls, TX11, 23) := by rw [xk218_e]; rfl
theorem xk219_e : xm_mi 219 = (yX11_isSheet, cX11_isSheet, 1, (some .boolean)) := rfl
theorem xk219_0 : Cond.code (xm_mi 219).1 (xm_mi 219).2.1 (xm_mi 219).2.2.1 (xm_mi 219).2.2.2 ∈ xw_ALL := by rw [xk219_e]; exact ww_1033
theorem xk219_2 : Cond.initialized (xm_mi 219).1.cls ∈ xw_ALL := by rw [xk219_e]; exact ww_10
theorem xk219_m : (xm_mi 219).2.2.1 ≤ 21 := by rw [xk219_e]; decide
theorem xk219_d : (xm_mi 219).1.cls ≠ "java/lang/invoke/MethodHandle" ∧ (xm_mi 219).1.cls ≠ "java/lang/invoke/VarHandle" ∧ (parseMethodDescriptor (xm_mi 219).1.desc).map (fun d => d.parameters.length) = some 1 := by rw [xk219_e]; decide +kernel
theorem xk219_3 : Cond.static (xm_mi 219).1 ∈ xw_ALL := by rw [xk219_e]; exact ww_1032
theorem xk220_e : xm_mi 220 = (yX11_sheet, cX11_sheet, 5, (some .int)) := rfl
theorem xk220_0 : Cond.code (xm_mi 220).1 (xm_mi 220).2.1 (xm_mi 220).2.2.1 (xm_mi 220).2.2.2 ∈ xw_ALL := by rw [xk220_e]; exact ww_1204
theorem xk220_2 : Cond.initialized (xm_mi 220).1.cls ∈ xw_ALL := by rw [xk220_e]; exact ww_10
theorem xk220_m : (xm_mi 220).2.2.1 ≤ 21 := by rw [xk220_e]; decide
theorem xk220_d : (xm_mi 220).1.cls ≠ "java/lang/invoke/MethodHandle" ∧ (xm_mi 220).1.cls ≠ "java/lang/invoke/VarHandle" ∧ (parseMethodDescriptor (xm_mi 220).1.desc).map (fun d => d.parameters.length) = some 3 := by rw [xk220_e]; decide +kernel
theorem xk220_3 : Cond.instanceMethod (xm_mi 220).1 ∈ xw_ALL := by rw [xk220_e]; exact ww_1202
theorem xk220_4 : Cond.selects (xm_mi 220).1.cls (xm_mi 220).1 (xm_mi 220).1 ∈ xw_ALL := by rw [xk220_e]; exact ww_1203
theorem xk220_c : vwCl[9]? = some ((xm_mi 220).1.cls, TX11, 23) := by rw [xk220_e]; rfl
theorem xk221_e : xm_mi 221 = (yX11_put, cX11_put, 5, (some .int)) := rfl
theorem xk221_0 : Cond.code (xm_mi 221).1 (xm_mi 221).2.1 (xm_mi 221).2.2.1 (xm_mi 221).2.2.2 ∈ xw_ALL := by rw [xk221_e]; exact ww_1208
theorem xk221_2 : Cond.initialized (xm_mi 221).1.cls ∈ xw_ALL := by rw [xk221_e]; exact ww_10
theorem xk221_m : (xm_mi 221).2.2.1 ≤ 21 := by rw [xk221_e]; decide
theorem xk221_d : (xm_mi 221).1.cls ≠ "java/lang/invoke/MethodHandle" ∧ (xm_mi 221).1.cls ≠ "java/lang/invoke/VarHandle" ∧ (parseMethodDescriptor (xm_mi 221).1.desc).map (fun d => d.parameters.length) = some 3 := by rw [xk221_e]; decide +kernel
theorem xk221_3 : Cond.instanceMethod (xm_mi 221).1 ∈ xw_ALL := by rw [xk221_e]; exact ww_1206
theorem xk221_4 : Cond.selects (xm_mi 221).1.cls (xm_mi 221).1 (xm_mi 221).1 ∈ xw_ALL := by rw [xk221_e]; exact ww_1207
theorem xk221_c : vwCl[9]? = some ((xm_mi 221).1.cls, TX11, 23) := by rw [xk221_e]; rfl
theorem xk222_e : xm_mi 222 = (yX11_move, cX11_move, 7, (some .int)) := rfl
theorem xk222_0 : Cond.code (xm_mi 222).1 (xm_mi 222).2.1 (xm_mi 222).2.2.1 (xm_mi 222).2.2.2 ∈ xw_ALL := by rw [xk222_e]; exact ww_1212
theorem xk222_2 : Cond.initialized (xm_mi 222).1.cls ∈ xw_ALL := by rw [xk222_e]; exact ww_10
theorem xk222_m : (xm_mi 222).2.2.1 ≤ 21 := by rw [xk222_e]; decide
theorem xk222_d : (xm_mi 222).1.cls ≠ "java/lang/invoke/MethodHandle" ∧ (xm_mi 222).1.cls ≠ "java/lang/invoke/VarHandle" ∧ (parseMethodDescriptor (xm_mi 222).1.desc).map (fun d => d.parameters.length) = some 5 := by rw [xk222_e]; decide +kernel
theorem xk222_3 : Cond.instanceMethod (xm_mi 222).1 ∈ xw_ALL := by rw [xk222_e]; exact ww_1210
theorem xk222_4 : Cond.selects (xm_mi 222).1.cls (xm_mi 222).1 (xm_mi 222).1 ∈ xw_ALL := by rw [xk222_e]; exact ww_1211
theorem xk222_c : vwCl[9]? = some ((xm_mi 222).1.cls, TX11, 23) := by rw [xk222_e]; rfl
theorem xk223_e : xm_mi 223 = (yX11_lacks, cX11_lacks, 2, (some .int)) := rfl
theorem xk223_0 : Cond.code (xm_mi 223).1 (xm_mi 223).2.1 (xm_mi 223).2.2.1 (xm_mi 223).2.2.2 ∈ xw_ALL := by rw [xk223_e]; exact ww_1220
theorem xk223_2 : Cond.initialized (xm_mi 223).1.cls ∈ xw_ALL := by rw [xk223_e]; exact ww_10
theorem xk223_m : (xm_mi 223).2.2.1 ≤ 21 := by rw [xk223_e]; decide
theorem xk223_d : (xm_mi 223).1.cls ≠ "java/lang/invoke/MethodHandle" ∧ (xm_mi 223).1.cls ≠ "java/lang/invoke/VarHandle" ∧ (parseMethodDescriptor (xm_mi 223).1.desc).map (fun d => d.parameters.length) = some 1 := by rw [xk223_e]; decide +kernel
theorem xk223_3 : Cond.instanceMethod (xm_mi 223).1 ∈ xw_ALL := by rw [xk223_e]; exact ww_1219
theorem xk223_4 : Cond.selects (xm_mi 223).1.cls (xm_mi 223).1 (xm_mi 223).1 ∈ xw_ALL := by rw [xk223_e]; exact wp_55
theorem xk223_c : vwCl[9]? = some ((xm_mi 223).1.cls, TX11, 23) := by rw [xk223_e]; rfl
theorem xk224_e : xm_mi 224 = (yX11_cutAll, cX11_cutAll, 4, (some .int)) := rfl
theorem xk224_0 : Cond.code (xm_mi 224).1 (xm_mi 224).2.1 (xm_mi 224).2.2.1 (xm_mi 224).2.2.2 ∈ xw_ALL := by rw [xk224_e]; exact ww_1216
theorem xk224_2 : Cond.initialized (xm_mi 224).1.cls ∈ xw_ALL := by rw [xk224_e]; exact ww_10
theorem xk224_m : (xm_mi 224).2.2.1 ≤ 21 := by rw [xk224_e]; decide
theorem xk224_d : (xm_mi 224).1.cls ≠ "java/lang/invoke/MethodHandle" ∧ (xm_mi 224).1.cls ≠ "java/lang/invoke/VarHandle" ∧ (parseMethodDescriptor (xm_mi 224).1.desc).map (fun d => d.parameters.length) = some 1 := by rw [xk224_e]; decide +kernel
theorem xk224_3 : Cond.instanceMethod (xm_mi 224).1 ∈ xw_ALL := by rw [xk224_e]; exact ww_1214
theorem xk224_4 : Cond.selects (xm_mi 224).1.cls (xm_mi 224).1 (xm_mi 224).1 ∈ xw_ALL := by rw [xk224_e]; exact ww_1215
theorem xk224_c : vwCl[9]? = some ((xm_mi 224).1.cls, TX11, 23) := by rw [xk224_e]; rfl
theorem xk225_e : xm_mi 225 = (yX11_judge, cX11_judge, 4, (some .int)) := rfl
theorem xk225_0 : Cond.code (xm_mi 225).1 (xm_mi 225).2.1 (xm_mi 225).2.2.1 (xm_mi 225).2.2.2 ∈ xw_ALL := by rw [xk225_e]; exact ww_1224
theorem xk225_2 : Cond.initialized (xm_mi 225).1.cls ∈ xw_ALL := by rw [xk225_e]; exact ww_10
theorem xk225_m : (xm_mi 225).2.2.1 ≤ 21 := by rw [xk225_e]; decide
theorem xk225_d : (xm_mi 225).1.cls ≠ "java/lang/invoke/MethodHandle" ∧ (xm_mi 225).1.cls ≠ "java/lang/invoke/VarHandle" ∧ (parseMethodDescriptor (xm_mi 225).1.desc).map (fun d => d.parameters.length) = some 1 := by rw [xk225_e]; decide +kernel
theorem xk225_3 : Cond.instanceMethod (xm_mi 225).1 ∈ xw_ALL := by rw [xk225_e]; exact ww_1222
theorem xk225_4 : Cond.selects (xm_mi 225).1.cls (xm_mi 225).1 (xm_mi 225).1 ∈ xw_ALL := by rw [xk225_e]; exact ww_1223
theorem xk225_c : vwCl[9]? = some ((xm_mi 225).1.cls, TX11, 23) := by rw [xk225_e]; rfl
theorem xk226_e : xm_mi 226 = (yX11_image, cX11_image, 1, (some .int)) := rfl
theorem xk226_0 : Cond.code (xm_mi 226).1 (xm_mi 226).2.1 (xm_mi 226).2.2.1 (xm_mi 226).2.2.2 ∈ xw_ALL := by rw [xk226_e]; exact ww_1228
theorem xk226_2 : Cond.initialized (xm_mi 226).1.cls ∈ xw_ALL := by rw [xk226_e]; exact ww_10
theorem xk226_m : (xm_mi 226).2.2.1 ≤ 21 := by rw [xk226_e]; decide
theorem xk226_d : (xm_mi 226).1.cls ≠ "java/lang/invoke/MethodHandle" ∧ (xm_mi 226).1.cls ≠ "java/lang/invoke/VarHandle" ∧ (parseMethodDescriptor (xm_mi 226).1.desc).map (fun d => d.parameters.length) = some 0 := by rw [xk226_e]; decide +kernel
theorem xk226_3 : Cond.instanceMethod (xm_mi 226).1 ∈ xw_ALL := by rw [xk226_e]; exact ww_1226
theorem xk226_4 : Cond.selects (xm_mi 226).1.cls (xm_mi 226).1 (xm_mi 226).1 ∈ xw_ALL := by rw [xk226_e]; exact ww_1227
theorem xk226_c : vwCl[9]? = some ((xm_mi 226).1.cls, TX11, 23) := by rw [xk226_e]; rfl
theorem xk227_e : xm_mi 227 = (yX11_restore, cX11_restore, 1, (some .int)) := rfl
theorem xk227_0 : Cond.code (xm_mi 227).1 (xm_mi 227).2.1 (xm_mi 227).2.2.1 (xm_mi 227).2.2.2 ∈ xw_ALL := by rw [xk227_e]; exact ww_1232
theorem xk227_2 : Cond.initialized (xm_mi 227).1.cls ∈ xw_ALL := by rw [xk227_e]; exact ww_10
theorem xk227_m : (xm_mi 227).2.2.1 ≤ 21 := by rw [xk227_e]; decide
theorem xk227_d : (xm_mi 227).1.cls ≠ "java/lang/invoke/MethodHandle" ∧ (xm_mi 227).1.cls ≠ "java/lang/invoke/VarHandle" ∧ (parseMethodDescriptor (xm_mi 227).1.desc).map (fun d => d.parameters.length) = some 0 := by rw [xk227_e]; decide +kernel
theorem xk227_3 : Cond.instanceMethod (xm_mi 227).1 ∈ xw_ALL := by rw [xk227_e]; exact ww_1230
theorem xk227_4 : Cond.selects (xm_mi 227).1.cls (xm_mi 227).1 (xm_mi 227).1 ∈ xw_ALL := by rw [xk227_e]; exact ww_1231
theorem xk227_c : vwCl[9]? = some ((xm_mi 227).1.cls, TX11, 23) := by rw [xk227_e]; rfl
theorem xk228_e : xm_mi 228 = (yX11_tell, cX11_tell, 2, (some .int)) := rfl
theorem xk228_0 : Cond.code (xm_mi 228).1 (xm_mi 228).2.1 (xm_mi 228).2.2.1 (xm_mi 228).2.2.2 ∈ xw_ALL := by rw [xk228_e]; exact ww_1236
theorem xk228_2 : Cond.initialized (xm_mi 228).1.cls ∈ xw_ALL := by rw [xk228_e]; exact ww_10
theorem xk228_m : (xm_mi 228).2.2.1 ≤ 21 := by rw [xk228_e]; decide
theorem xk228_d : (xm_mi 228).1.cls ≠ "java/lang/invoke/MethodHandle" ∧ (xm_mi 228).1.cls ≠ "java/lang/invoke/VarHandle" ∧ (parseMethodDescriptor (xm_mi 228).1.desc).map (fun d => d.parameters.length) = some 1 := by rw [xk228_e]; decide +kernel
theorem xk228_3 : Cond.instanceMethod (xm_mi 228).1 ∈ xw_ALL := by rw [xk228_e]; exact ww_1234
theorem xk228_4 : Cond.selects (xm_mi 228).1.cls (xm_mi 228).1 (xm_mi 228).1 ∈ xw_ALL := by rw [xk228_e]; exact ww_1235
theorem xk228_c : vwCl[9]? = some ((xm_mi 228).1.cls, TX11, 23) := by rw [xk228_e]; rfl
theorem xk229_e : xm_mi 229 = (yX11_check, cX11_check, 4, (some .int)) := rfl
theorem xk229_0 : Cond.code (xm_mi 229).1 (xm_mi 229).2.1 (xm_mi 229).2.2.1 (xm_mi 229).2.2.2 ∈ xw_ALL := by rw [xk229_e]; exact ww_1240
theorem xk229_2 : Cond.initialized (xm_mi 229).1.cls ∈ xw_ALL := by rw [xk229_e]; exact ww_10
theorem xk229_m : (xm_mi 229).2.2.1 ≤ 21 := by rw [xk229_e]; decide
theorem xk229_d : (xm_mi 229).1.cls ≠ "java/lang/invoke/MethodHandle" ∧ (xm_mi 229).1.cls ≠ "java/lang/invoke/VarHandle" ∧ (parseMethodDescriptor (xm_mi 229).1.desc).map (fun d => d.parameters.length) = some 0 := by rw [xk229_e]; decide +kernel
theorem xk229_3 : Cond.instanceMethod (xm_mi 229).1 ∈ xw_ALL := by rw [xk229_e]; exact ww_1238
theorem xk229_4 : Cond.selects (xm_mi 229).1.cls (xm_mi 229).1 (xm_mi 229).1 ∈ xw_ALL := by rw [xk229_e]; exact ww_1239
theorem xk229_c : vwCl[9]? = some ((xm_mi 229).1.cls, TX11, 23) := by rw [xk229_e]; rfl
theorem xk230_e : xm_mi 230 = (yX11_count, cX11_count, 5, (some .int)) := rfl
theorem xk230_0 : Cond.code (xm_mi 230).1 (xm_mi 230).2.1 (xm_mi 230).2.2.1 (xm_mi 230).2.2.2 ∈ xw_ALL := by rw [xk230_e]; exact ww_1244
theorem xk230_2 : Cond.initialized (xm_mi 230).1.cls ∈ xw_ALL := by rw [xk230_e]; exact ww_10
theorem xk230_m : (xm_mi 230).2.2.1 ≤ 21 := by rw [xk230_e]; decide
theorem xk230_d : (xm_mi 230).1.cls ≠ "java/lang/invoke/MethodHandle" ∧ (xm_mi 230).1.cls ≠ "java/lang/invoke/VarHandle" ∧ (parseMethodDescriptor (xm_mi 230).1.desc).map (fun d => d.parameters.length) = some 1 := by rw [xk230_e]; decide +kernel
theorem xk230_3 : Cond.instanceMethod (xm_mi 230).1 ∈ xw_ALL := by rw [xk230_e]; exact ww_1242
theorem xk230_4 : Cond.selects (xm_mi 230).1.cls (xm_mi 230).1 (xm_mi 230).1 ∈ xw_ALL := by rw [xk230_e]; exact ww_1243
theorem xk230_c : vwCl[9]? = some ((xm_mi 230).1.cls, TX11, 23) := by rw [xk230_e]; rfl
theorem xk231_e : xm_mi 231 = (yX11_told, cX11_told, 2, (some .int)) := rfl
theorem xk231_0 : Cond.code (xm_mi 231).1 (xm_mi 231).2.1 (xm_mi 231).2.2.1 (xm_mi 231).2.2.2 ∈ xw_ALL := by rw [xk231_e]; exact ww_1248
theorem xk231_2 : Cond.initialized (xm_mi 231).1.cls ∈ xw_ALL := by rw [xk231_e]; exact ww_10
theorem xk231_m : (xm_mi 231).2.2.1 ≤ 21 := by rw [xk231_e]; decide
theorem xk231_d : (xm_mi 231).1.cls ≠ "java/lang/invoke/MethodHandle" ∧ (xm_mi 231).1.cls ≠ "java/lang/invoke/VarHandle" ∧ (parseMethodDescriptor (xm_mi 231).1.desc).map (fun d => d.parameters.length) = some 1 := by rw [xk231_e]; decide +kernel
theorem xk231_3 : Cond.instanceMethod (xm_mi 231).1 ∈ xw_ALL := by rw [xk231_e]; exact ww_1246
theorem xk231_4 : Cond.selects (xm_mi 231).1.cls (xm_mi 231).1 (xm_mi 231).1 ∈ xw_ALL := by rw [xk231_e]; exact ww_1247
theorem xk231_c : vwCl[9]? = some ((xm_mi 231).1.cls, TX11, 23) := by rw [xk231_e]; rfl
theorem xk232_e : xm_mi 232 = (yJ6_bitCount_0f7a4, cJ6_bitCount_0f7a4, 1, (some .int)) := rfl
theorem xk232_0 : Cond.code (xm_mi 232).1 (xm_mi 232).2.1 (xm_mi 232).2.2.1 (xm_mi 232).2.2.2 ∈ xw_ALL := by rw [xk232_e]; exact ww_339
theorem xk232_2 : Cond.initialized (xm_mi 232).1.cls ∈ xw_ALL := by rw [xk232_e]; exact ww_14
theorem xk232_m : (xm_mi 232).2.2.1 ≤ 21 := by rw [xk232_e]; decide
theorem xk232_d : (xm_mi 232).1.cls ≠ "java/lang/invoke/MethodHandle" ∧ (xm_mi 232).1.cls ≠ "java/lang/invoke/VarHandle" ∧ (parseMethodDescriptor (xm_mi 232).1.desc).map (fun d => d.parameters.length) = some 1 := by rw [xk232_e]; decide +kernel
theorem xk232_3 : Cond.static (xm_mi 232).1 ∈ xw_ALL := by rw [xk232_e]; exact ww_338
theorem xn_X1 : ∀ j, j < 5 → defaultValue (tyX1 j) = vp_V [.null, .null, .null, .null, .int 0] j := by
  intro j hj
  match j, hj with
  | 0, _ => rfl
  | 1, _ => rfl
  | 2, _ => rfl
  | 3, _ => rfl
  | 4, _ => rfl
  | n + 5, h => exact absurd h (by omega)
theorem xn_X3 : ∀ j, j < 3 → defaultValue (tyX3 j) = vp_V [.null, .null, .int 0] j := by
  intro j hj
  match j, hj with
  | 0, _ => rfl
  | 1, _ => rfl
  | 2, _ => rfl
  | n + 3, h => exact absurd h (by omega)
theorem xn_X4 : ∀ j, j < 1 → defaultValue (tyX4 j) = vp_V [.null] j := by
  intro j hj
  match j, hj with
  | 0, _ => rfl
  | n + 1, h => exact absurd h (by omega)
theorem xn_X5 : ∀ j, j < 11 → defaultValue (tyX5 j) = vp_V [.null, .null, .null, .null, .null, .null, .null, .null, .null, .int 0, .int 0] j := by
  intro j hj
  match j, hj with
  | 0, _ => rfl
  | 1, _ => rfl
  | 2, _ => rfl
  | 3, _ => rfl
  | 4, _ => rfl
  | 5, _ => rfl
  | 6, _ => rfl
  | 7, _ => rfl
  | 8, _ => rfl
  | 9, _ => rfl
  | 10, _ => rfl
  | n + 11, h => exact absurd h (by omega)
theorem xn_X6 : ∀ j, j < 8 → defaultValue (tyX6 j) = vp_V [.null, .null, .null, .null, .int 0, .int 0, .int 0, .int 0] j := by
  intro j hj
  match j, hj with
  | 0, _ => rfl
  | 1, _ => rfl
  | 2, _ => rfl
  | 3, _ => rfl
  | 4, _ => rfl
  | 5, _ => rfl
  | 6, _ => rfl
  | 7, _ => rfl
  | n + 8, h => exact absurd h (by omega)
theorem xn_X7 : ∀ j, j < 3 → defaultValue (tyX7 j) = vp_V [.null, .int 0, .int 0] j := by
  intro j hj
  match j, hj with
  | 0, _ => rfl
  | 1, _ => rfl
  | 2, _ => rfl
  | n + 3, h => exact absurd h (by omega)
theorem xn_X8 : ∀ j, j < 5 → defaultValue (tyX8 j) = vp_V [.null, .null, .int 0, .int 0, .int 0] j := by
  intro j hj
  match j, hj with
  | 0, _ => rfl
  | 1, _ => rfl
  | 2, _ => rfl
  | 3, _ => rfl
  | 4, _ => rfl
  | n + 5, h => exact absurd h (by omega)
theorem xn_X9 : ∀ j, j < 6 → defaultValue (tyX9 j) = vp_V [.null, .int 0, .int 0, .int 0, .int 0, .int 0] j := by
  intro j hj
  match j, hj with
  | 0, _ => rfl
  | 1, _ => rfl
  | 2, _ => rfl
  | 3, _ => rfl
  | 4, _ => rfl
  | 5, _ => rfl
  | n + 6, h => exact absurd h (by omega)
theorem xn_X10 : ∀ j, j < 11 → defaultValue (tyX10 j) = vp_V [.null, .null, .null, .null, .null, .null, .null, .null, .null, .null, .int 0] j := by
  intro j hj
  match j, hj with
  | 0, _ => rfl
  | 1, _ => rfl
  | 2, _ => rfl
  | 3, _ => rfl
  | 4, _ => rfl
  | 5, _ => rfl
  | 6, _ => rfl
  | 7, _ => rfl
  | 8, _ => rfl
  | 9, _ => rfl
  | 10, _ => rfl
  | n + 11, h => exact absurd h (by omega)
theorem xn_X11 : ∀ j, j < 23 → defaultValue (tyX11 j) = vp_V [.null, .null, .null, .int 0, .null, .int 0, .int 0, .int 0, .int 0, .null, .null, .null, .null, .null, .null, .null, .int 0, .int 0, .int 0, .null, .null, .null, .null] j := by
  intro j hj
  match j, hj with
  | 0, _ => rfl
  | 1, _ => rfl
  | 2, _ => rfl
  | 3, _ => rfl
  | 4, _ => rfl
  | 5, _ => rfl
  | 6, _ => rfl
  | 7, _ => rfl
  | 8, _ => rfl
  | 9, _ => rfl
  | 10, _ => rfl
  | 11, _ => rfl
  | 12, _ => rfl
  | 13, _ => rfl
  | 14, _ => rfl
  | 15, _ => rfl
  | 16, _ => rfl
  | 17, _ => rfl
  | 18, _ => rfl
  | 19, _ => rfl
  | 20, _ => rfl
  | 21, _ => rfl
  | 22, _ => rfl
  | n + 23, h => exact absurd h (by omega)
abbrev xT : Type := UInt32 → Option (Nat × (Nat → Int32))
def xP (st : xT) (own : String) (isI : Bool) (cc : ByteArray) (nL : Nat) (rt : Option FieldType) (pc : Nat) (op : qx_O) : Prop := qx_Sw vwCl "NetMender$Sheet" "NetMender$Voices" "BODIES" "[I" st xw_ALL xm_mi own isI cc nL rt pc op ∧ qx_Mn op
theorem xz {st : xT} {own : String} {isI : Bool} {cc : ByteArray} {nL : Nat} {rt : Option FieldType} : qx_okP (xP st own isI cc nL rt) := fun _ => ⟨qs_no, qm_no⟩
