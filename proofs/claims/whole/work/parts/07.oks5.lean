theorem ok_Ru_doThing_0 : okS m_Ru_doThing 0 33 = true := by decide +kernel
theorem ok_Ru_doThing : okC m_Ru_doThing = true := okS_all (n := 33) (ok_Ru_doThing_0) (by decide +kernel)
theorem ok_Ru_make_0 : okS m_Ru_make 0 44 = true := by decide +kernel
theorem ok_Ru_make : okC m_Ru_make = true := okS_all (n := 44) (ok_Ru_make_0) (by decide +kernel)
theorem ok_Ru_addressIn_0 : okS m_Ru_addressIn 0 10 = true := by decide +kernel
theorem ok_Ru_addressIn : okC m_Ru_addressIn = true := okS_all (n := 10) (ok_Ru_addressIn_0) (by decide +kernel)
theorem ok_Ru_doField_0 : okS m_Ru_doField 0 42 = true := by decide +kernel
theorem ok_Ru_doField : okC m_Ru_doField = true := okS_all (n := 42) (ok_Ru_doField_0) (by decide +kernel)
theorem ok_Ru_makeArray_0 : okS m_Ru_makeArray 0 17 = true := by decide +kernel
theorem ok_Ru_makeArray : okC m_Ru_makeArray = true := okS_all (n := 17) (ok_Ru_makeArray_0) (by decide +kernel)
theorem ok_Ru_pushSize_0 : okS m_Ru_pushSize 0 17 = true := by decide +kernel
theorem ok_Ru_pushSize : okC m_Ru_pushSize = true := okS_all (n := 17) (ok_Ru_pushSize_0) (by decide +kernel)
theorem ok_Ru_itemCount_0 : okS m_Ru_itemCount 0 15 = true := by decide +kernel
theorem ok_Ru_itemCount : okC m_Ru_itemCount = true := okS_all (n := 15) (ok_Ru_itemCount_0) (by decide +kernel)
theorem ok_Ru_doItem_0 : okS m_Ru_doItem 0 56 = true := by decide +kernel
theorem ok_Ru_doItem : okC m_Ru_doItem = true := okS_all (n := 56) (ok_Ru_doItem_0) (by decide +kernel)
theorem ok_Ru_doValue_0 : okS m_Ru_doValue 0 57 = true := by decide +kernel
theorem ok_Ru_doValue : okC m_Ru_doValue = true := okS_all (n := 57) (ok_Ru_doValue_0) (by decide +kernel)
theorem ok_Ru_firstOf_0 : okS m_Ru_firstOf 0 5 = true := by decide +kernel
theorem ok_Ru_firstOf : okC m_Ru_firstOf = true := okS_all (n := 5) (ok_Ru_firstOf_0) (by decide +kernel)
theorem ok_Ru_makeBox_0 : okS m_Ru_makeBox 0 16 = true := by decide +kernel
theorem ok_Ru_makeBox : okC m_Ru_makeBox = true := okS_all (n := 16) (ok_Ru_makeBox_0) (by decide +kernel)
theorem ok_Ru_openBox_0 : okS m_Ru_openBox 0 15 = true := by decide +kernel
theorem ok_Ru_openBox : okC m_Ru_openBox = true := okS_all (n := 15) (ok_Ru_openBox_0) (by decide +kernel)
theorem ok_Ru_doFlow_0 : okS m_Ru_doFlow 0 34 = true := by decide +kernel
theorem ok_Ru_doFlow : okC m_Ru_doFlow = true := okS_all (n := 34) (ok_Ru_doFlow_0) (by decide +kernel)
theorem ok_Ru_call_0 : okS m_Ru_call 0 29 = true := by decide +kernel
theorem ok_Ru_call : okC m_Ru_call = true := okS_all (n := 29) (ok_Ru_call_0) (by decide +kernel)
theorem ok_Ru_giveBack_0 : okS m_Ru_giveBack 0 45 = true := by decide +kernel
theorem ok_Ru_giveBack : okC m_Ru_giveBack = true := okS_all (n := 45) (ok_Ru_giveBack_0) (by decide +kernel)
theorem ok_Ru_numberOf_0 : okS m_Ru_numberOf 0 14 = true := by decide +kernel
theorem ok_Ru_numberOf : okC m_Ru_numberOf = true := okS_all (n := 14) (ok_Ru_numberOf_0) (by decide +kernel)
theorem ok_Ru_end_0 : okS m_Ru_end 0 7 = true := by decide +kernel
theorem ok_Ru_end : okC m_Ru_end = true := okS_all (n := 7) (ok_Ru_end_0) (by decide +kernel)
theorem ok_Ru_leave_0 : okS m_Ru_leave 0 46 = true := by decide +kernel
theorem ok_Ru_leave : okC m_Ru_leave = true := okS_all (n := 46) (ok_Ru_leave_0) (by decide +kernel)
theorem ok_Ru_enter_0 : okS m_Ru_enter 0 32 = true := by decide +kernel
theorem ok_Ru_enter : okC m_Ru_enter = true := okS_all (n := 32) (ok_Ru_enter_0) (by decide +kernel)
theorem ok_Ru_finish_0 : okS m_Ru_finish 0 56 = true := by decide +kernel
theorem ok_Ru_finish : okC m_Ru_finish = true := okS_all (n := 56) (ok_Ru_finish_0) (by decide +kernel)
theorem ok_Ru_throwOn_0 : okS m_Ru_throwOn 0 39 = true := by decide +kernel
theorem ok_Ru_throwOn : okC m_Ru_throwOn = true := okS_all (n := 39) (ok_Ru_throwOn_0) (by decide +kernel)
theorem ok_Ru_handle_0 : okS m_Ru_handle 0 48 = true := by decide +kernel
theorem ok_Ru_handle : okC m_Ru_handle = true := okS_all (n := 48) (ok_Ru_handle_0) (by decide +kernel)
theorem ok_Ru_entriesOf_0 : okS m_Ru_entriesOf 0 27 = true := by decide +kernel
theorem ok_Ru_entriesOf : okC m_Ru_entriesOf = true := okS_all (n := 27) (ok_Ru_entriesOf_0) (by decide +kernel)
theorem ok_Rw_with_0 : okS m_Rw_with 0 21 = true := by decide +kernel
theorem ok_Rw_with : okC m_Rw_with = true := okS_all (n := 21) (ok_Rw_with_0) (by decide +kernel)
theorem ok_Rw_size_0 : okS m_Rw_size 0 15 = true := by decide +kernel
theorem ok_Rw_size : okC m_Rw_size = true := okS_all (n := 15) (ok_Rw_size_0) (by decide +kernel)
theorem ok_Rw_without_0 : okS m_Rw_without 0 29 = true := by decide +kernel
theorem ok_Rw_without : okC m_Rw_without = true := okS_all (n := 29) (ok_Rw_without_0) (by decide +kernel)
theorem ok_Rw_typeAt_0 : okS m_Rw_typeAt 0 15 = true := by decide +kernel
theorem ok_Rw_typeAt : okC m_Rw_typeAt = true := okS_all (n := 15) (ok_Rw_typeAt_0) (by decide +kernel)
theorem ok_Rw_top_0 : okS m_Rw_top 0 7 = true := by decide +kernel
theorem ok_Rw_top : okC m_Rw_top = true := okS_all (n := 7) (ok_Rw_top_0) (by decide +kernel)
theorem ok_TE_init_0 : okS m_TE_init 0 39 = true := by decide +kernel
theorem ok_TE_init : okC m_TE_init = true := okS_all (n := 39) (ok_TE_init_0) (by decide +kernel)
theorem ok_TE_draft_0 : okS m_TE_draft 0 42 = true := by decide +kernel
theorem ok_TE_draft : okC m_TE_draft = true := okS_all (n := 42) (ok_TE_draft_0) (by decide +kernel)
theorem ok_TE_clear_0 : okS m_TE_clear 0 4 = true := by decide +kernel
theorem ok_TE_clear : okC m_TE_clear = true := okS_all (n := 4) (ok_TE_clear_0) (by decide +kernel)
theorem ok_TE_load_0 : okS m_TE_load 0 48 = true := by decide +kernel
theorem ok_TE_load : okC m_TE_load = true := okS_all (n := 48) (ok_TE_load_0) (by decide +kernel)
theorem ok_TE_verified_0 : okS m_TE_verified 0 9 = true := by decide +kernel
theorem ok_TE_verified : okC m_TE_verified = true := okS_all (n := 9) (ok_TE_verified_0) (by decide +kernel)
theorem ok_TE_depth_0 : okS m_TE_depth 0 21 = true := by decide +kernel
theorem ok_TE_depth : okC m_TE_depth = true := okS_all (n := 21) (ok_TE_depth_0) (by decide +kernel)
theorem ok_TE_type_0 : okS m_TE_type 0 22 = true := by decide +kernel
theorem ok_TE_type : okC m_TE_type = true := okS_all (n := 22) (ok_TE_type_0) (by decide +kernel)
theorem ok_TE_start_0 : okS m_TE_start 0 27 = true := by decide +kernel
theorem ok_TE_start : okC m_TE_start = true := okS_all (n := 27) (ok_TE_start_0) (by decide +kernel)
theorem ok_TE_step_0 : okS m_TE_step 0 28 = true := by decide +kernel
theorem ok_TE_step : okC m_TE_step = true := okS_all (n := 28) (ok_TE_step_0) (by decide +kernel)
theorem ok_TE_state_0 : okS m_TE_state 0 4 = true := by decide +kernel
theorem ok_TE_state : okC m_TE_state = true := okS_all (n := 4) (ok_TE_state_0) (by decide +kernel)
theorem ok_TE_result_0 : okS m_TE_result 0 4 = true := by decide +kernel
theorem ok_TE_result : okC m_TE_result = true := okS_all (n := 4) (ok_TE_result_0) (by decide +kernel)
theorem ok_TE_look_0 : okS m_TE_look 0 41 = true := by decide +kernel
theorem ok_TE_look : okC m_TE_look = true := okS_all (n := 41) (ok_TE_look_0) (by decide +kernel)
theorem ok_TE_peek_0 : okS m_TE_peek 0 29 = true := by decide +kernel
theorem ok_TE_peek : okC m_TE_peek = true := okS_all (n := 29) (ok_TE_peek_0) (by decide +kernel)
