theorem ok_Mo_localAt_0 : okS m_Mo_localAt 0 27 = true := by decide +kernel
theorem ok_Mo_localAt : okC m_Mo_localAt = true := okS_all (n := 27) (ok_Mo_localAt_0) (by decide +kernel)
theorem ok_Mo_need_0 : okS m_Mo_need 0 11 = true := by decide +kernel
theorem ok_Mo_need : okC m_Mo_need = true := okS_all (n := 11) (ok_Mo_need_0) (by decide +kernel)
theorem ok_Mo_take_0 : okS m_Mo_take 0 15 = true := by decide +kernel
theorem ok_Mo_take : okC m_Mo_take = true := okS_all (n := 15) (ok_Mo_take_0) (by decide +kernel)
theorem ok_Mo_pop_0 : okS m_Mo_pop 0 48 = true := by decide +kernel
theorem ok_Mo_pop : okC m_Mo_pop = true := okS_all (n := 48) (ok_Mo_pop_0) (by decide +kernel)
theorem ok_Mo_argumentAt_0 : okS m_Mo_argumentAt 0 27 = true := by decide +kernel
theorem ok_Mo_argumentAt : okC m_Mo_argumentAt = true := okS_all (n := 27) (ok_Mo_argumentAt_0) (by decide +kernel)
theorem ok_Mo_isObject_0 : okS m_Mo_isObject 0 13 = true := by decide +kernel
theorem ok_Mo_isObject : okC m_Mo_isObject = true := okS_all (n := 13) (ok_Mo_isObject_0) (by decide +kernel)
theorem ok_Mo_things_0 : okS m_Mo_things 0 60 = true := by decide +kernel
theorem ok_Mo_things_1 : okS m_Mo_things 60 60 = true := by decide +kernel
theorem ok_Mo_things_2 : okS m_Mo_things 120 23 = true := by decide +kernel
theorem ok_Mo_things : okC m_Mo_things = true := okS_all (n := 143) (okS_join 120 143 rfl rfl (okS_join 60 120 rfl rfl (ok_Mo_things_0) ok_Mo_things_1) ok_Mo_things_2) (by decide +kernel)
theorem ok_Mo_fieldAt_0 : okS m_Mo_fieldAt 0 36 = true := by decide +kernel
theorem ok_Mo_fieldAt : okC m_Mo_fieldAt = true := okS_all (n := 36) (ok_Mo_fieldAt_0) (by decide +kernel)
theorem ok_Mo_taken_0 : okS m_Mo_taken 0 14 = true := by decide +kernel
theorem ok_Mo_taken : okC m_Mo_taken = true := okS_all (n := 14) (ok_Mo_taken_0) (by decide +kernel)
theorem ok_Mo_calls_0 : okS m_Mo_calls 0 60 = true := by decide +kernel
theorem ok_Mo_calls_1 : okS m_Mo_calls 60 60 = true := by decide +kernel
theorem ok_Mo_calls_2 : okS m_Mo_calls 120 38 = true := by decide +kernel
theorem ok_Mo_calls : okC m_Mo_calls = true := okS_all (n := 158) (okS_join 120 158 rfl rfl (okS_join 60 120 rfl rfl (ok_Mo_calls_0) ok_Mo_calls_1) ok_Mo_calls_2) (by decide +kernel)
theorem ok_Mo_innermost_0 : okS m_Mo_innermost 0 35 = true := by decide +kernel
theorem ok_Mo_innermost : okC m_Mo_innermost = true := okS_all (n := 35) (ok_Mo_innermost_0) (by decide +kernel)
theorem ok_Mo_inHandler_0 : okS m_Mo_inHandler 0 16 = true := by decide +kernel
theorem ok_Mo_inHandler : okC m_Mo_inHandler = true := okS_all (n := 16) (ok_Mo_inHandler_0) (by decide +kernel)
theorem ok_Mo_target_0 : okS m_Mo_target 0 9 = true := by decide +kernel
theorem ok_Mo_target : okC m_Mo_target = true := okS_all (n := 9) (ok_Mo_target_0) (by decide +kernel)
theorem ok_Mo_signed_0 : okS m_Mo_signed 0 9 = true := by decide +kernel
theorem ok_Mo_signed : okC m_Mo_signed = true := okS_all (n := 9) (ok_Mo_signed_0) (by decide +kernel)
theorem ok_Mo_leaves_0 : okS m_Mo_leaves 0 60 = true := by decide +kernel
theorem ok_Mo_leaves_1 : okS m_Mo_leaves 60 17 = true := by decide +kernel
theorem ok_Mo_leaves : okC m_Mo_leaves = true := okS_all (n := 77) (okS_join 60 77 rfl rfl (ok_Mo_leaves_0) ok_Mo_leaves_1) (by decide +kernel)
theorem ok_Mo_goes_0 : okS m_Mo_goes 0 60 = true := by decide +kernel
theorem ok_Mo_goes_1 : okS m_Mo_goes 60 43 = true := by decide +kernel
theorem ok_Mo_goes : okC m_Mo_goes = true := okS_all (n := 103) (okS_join 60 103 rfl rfl (ok_Mo_goes_0) ok_Mo_goes_1) (by decide +kernel)
theorem ok_Mo_verified_0 : okS m_Mo_verified 0 4 = true := by decide +kernel
theorem ok_Mo_verified : okC m_Mo_verified = true := okS_all (n := 4) (ok_Mo_verified_0) (by decide +kernel)
theorem ok_Mo_isGood_0 : okS m_Mo_isGood 0 15 = true := by decide +kernel
theorem ok_Mo_isGood : okC m_Mo_isGood = true := okS_all (n := 15) (ok_Mo_isGood_0) (by decide +kernel)
theorem ok_Mo_depth_0 : okS m_Mo_depth 0 25 = true := by decide +kernel
theorem ok_Mo_depth : okC m_Mo_depth = true := okS_all (n := 25) (ok_Mo_depth_0) (by decide +kernel)
theorem ok_Mo_type_0 : okS m_Mo_type 0 29 = true := by decide +kernel
theorem ok_Mo_type : okC m_Mo_type = true := okS_all (n := 29) (ok_Mo_type_0) (by decide +kernel)
theorem ok_Mo_start_0 : okS m_Mo_start 0 60 = true := by decide +kernel
theorem ok_Mo_start_1 : okS m_Mo_start 60 12 = true := by decide +kernel
theorem ok_Mo_start : okC m_Mo_start = true := okS_all (n := 72) (okS_join 60 72 rfl rfl (ok_Mo_start_0) ok_Mo_start_1) (by decide +kernel)
theorem ok_Mo_allGood_0 : okS m_Mo_allGood 0 55 = true := by decide +kernel
theorem ok_Mo_allGood : okC m_Mo_allGood = true := okS_all (n := 55) (ok_Mo_allGood_0) (by decide +kernel)
theorem ok_Mo_direct_0 : okS m_Mo_direct 0 57 = true := by decide +kernel
theorem ok_Mo_direct : okC m_Mo_direct = true := okS_all (n := 57) (ok_Mo_direct_0) (by decide +kernel)
theorem ok_Mo_enter_0 : okS m_Mo_enter 0 60 = true := by decide +kernel
theorem ok_Mo_enter_1 : okS m_Mo_enter 60 24 = true := by decide +kernel
theorem ok_Mo_enter : okC m_Mo_enter = true := okS_all (n := 84) (okS_join 60 84 rfl rfl (ok_Mo_enter_0) ok_Mo_enter_1) (by decide +kernel)
theorem ok_Mo_isReference_0 : okS m_Mo_isReference 0 7 = true := by decide +kernel
theorem ok_Mo_isReference : okC m_Mo_isReference = true := okS_all (n := 7) (ok_Mo_isReference_0) (by decide +kernel)
theorem ok_Mo_step_0 : okS m_Mo_step 0 25 = true := by decide +kernel
theorem ok_Mo_step : okC m_Mo_step = true := okS_all (n := 25) (ok_Mo_step_0) (by decide +kernel)
