theorem ok_Mo_goOn_0 : okS m_Mo_goOn 0 58 = true := by decide +kernel
theorem ok_Mo_goOn : okC m_Mo_goOn = true := okS_all (n := 58) (ok_Mo_goOn_0) (by decide +kernel)
theorem ok_Mo_state_0 : okS m_Mo_state 0 3 = true := by decide +kernel
theorem ok_Mo_state : okC m_Mo_state = true := okS_all (n := 3) (ok_Mo_state_0) (by decide +kernel)
theorem ok_Mo_result_0 : okS m_Mo_result 0 9 = true := by decide +kernel
theorem ok_Mo_result : okC m_Mo_result = true := okS_all (n := 9) (ok_Mo_result_0) (by decide +kernel)
theorem ok_Mo_look_0 : okS m_Mo_look 0 54 = true := by decide +kernel
theorem ok_Mo_look : okC m_Mo_look = true := okS_all (n := 54) (ok_Mo_look_0) (by decide +kernel)
theorem ok_Mo_peek_0 : okS m_Mo_peek 0 35 = true := by decide +kernel
theorem ok_Mo_peek : okC m_Mo_peek = true := okS_all (n := 35) (ok_Mo_peek_0) (by decide +kernel)
theorem ok_Mo_entered_0 : okS m_Mo_entered 0 28 = true := by decide +kernel
theorem ok_Mo_entered : okC m_Mo_entered = true := okS_all (n := 28) (ok_Mo_entered_0) (by decide +kernel)
theorem ok_Op_isKnown_0 : okS m_Op_isKnown 0 9 = true := by decide +kernel
theorem ok_Op_isKnown : okC m_Op_isKnown = true := okS_all (n := 9) (ok_Op_isKnown_0) (by decide +kernel)
theorem ok_Op_width_0 : okS m_Op_width 0 34 = true := by decide +kernel
theorem ok_Op_width : okC m_Op_width = true := okS_all (n := 34) (ok_Op_width_0) (by decide +kernel)
theorem ok_Op_signed_0 : okS m_Op_signed 0 9 = true := by decide +kernel
theorem ok_Op_signed : okC m_Op_signed = true := okS_all (n := 9) (ok_Op_signed_0) (by decide +kernel)
theorem ok_Op_jumps_0 : okS m_Op_jumps 0 13 = true := by decide +kernel
theorem ok_Op_jumps : okC m_Op_jumps = true := okS_all (n := 13) (ok_Op_jumps_0) (by decide +kernel)
theorem ok_Op_goesBehind_0 : okS m_Op_goesBehind 0 10 = true := by decide +kernel
theorem ok_Op_goesBehind : okC m_Op_goesBehind = true := okS_all (n := 10) (ok_Op_goesBehind_0) (by decide +kernel)
theorem ok_Rd_init_0 : okS m_Rd_init 0 7 = true := by decide +kernel
theorem ok_Rd_init : okC m_Rd_init = true := okS_all (n := 7) (ok_Rd_init_0) (by decide +kernel)
theorem ok_Rd_readInto_0 : okS m_Rd_readInto 0 56 = true := by decide +kernel
theorem ok_Rd_readInto : okC m_Rd_readInto = true := okS_all (n := 56) (ok_Rd_readInto_0) (by decide +kernel)
theorem ok_Rd_number_0 : okS m_Rd_number 0 32 = true := by decide +kernel
theorem ok_Rd_number : okC m_Rd_number = true := okS_all (n := 32) (ok_Rd_number_0) (by decide +kernel)
theorem ok_Rd_readClasses_0 : okS m_Rd_readClasses 0 44 = true := by decide +kernel
theorem ok_Rd_readClasses : okC m_Rd_readClasses = true := okS_all (n := 44) (ok_Rd_readClasses_0) (by decide +kernel)
theorem ok_Rd_keptType_0 : okS m_Rd_keptType 0 20 = true := by decide +kernel
theorem ok_Rd_keptType : okC m_Rd_keptType = true := okS_all (n := 20) (ok_Rd_keptType_0) (by decide +kernel)
theorem ok_Rd_readMethod_0 : okS m_Rd_readMethod 0 60 = true := by decide +kernel
theorem ok_Rd_readMethod_1 : okS m_Rd_readMethod 60 48 = true := by decide +kernel
theorem ok_Rd_readMethod : okC m_Rd_readMethod = true := okS_all (n := 108) (okS_join 60 108 rfl rfl (ok_Rd_readMethod_0) ok_Rd_readMethod_1) (by decide +kernel)
theorem ok_Rd_nextIs_0 : okS m_Rd_nextIs 0 16 = true := by decide +kernel
theorem ok_Rd_nextIs : okC m_Rd_nextIs = true := okS_all (n := 16) (ok_Rd_nextIs_0) (by decide +kernel)
theorem ok_Rd_readRegion_0 : okS m_Rd_readRegion 0 30 = true := by decide +kernel
theorem ok_Rd_readRegion : okC m_Rd_readRegion = true := okS_all (n := 30) (ok_Rd_readRegion_0) (by decide +kernel)
theorem ok_Rg_init_0 : okS m_Rg_init 0 3 = true := by decide +kernel
theorem ok_Rg_init : okC m_Rg_init = true := okS_all (n := 3) (ok_Rg_init_0) (by decide +kernel)
theorem ok_Rg_isApartFromOrWithin_0 : okS m_Rg_isApartFromOrWithin 0 52 = true := by decide +kernel
theorem ok_Rg_isApartFromOrWithin : okC m_Rg_isApartFromOrWithin = true := okS_all (n := 52) (ok_Rg_isApartFromOrWithin_0) (by decide +kernel)
theorem ok_Rg_keeps_0 : okS m_Rg_keeps 0 12 = true := by decide +kernel
theorem ok_Rg_keeps : okC m_Rg_keeps = true := okS_all (n := 12) (ok_Rg_keeps_0) (by decide +kernel)
theorem ok_Rg_handles_0 : okS m_Rg_handles 0 12 = true := by decide +kernel
theorem ok_Rg_handles : okC m_Rg_handles = true := okS_all (n := 12) (ok_Rg_handles_0) (by decide +kernel)
theorem ok_Ru_init_0 : okS m_Ru_init 0 46 = true := by decide +kernel
theorem ok_Ru_init : okC m_Ru_init = true := okS_all (n := 46) (ok_Ru_init_0) (by decide +kernel)
theorem ok_Ru_drop_0 : okS m_Ru_drop 0 7 = true := by decide +kernel
theorem ok_Ru_drop : okC m_Ru_drop = true := okS_all (n := 7) (ok_Ru_drop_0) (by decide +kernel)
theorem ok_Ru_begin_0 : okS m_Ru_begin 0 48 = true := by decide +kernel
theorem ok_Ru_begin : okC m_Ru_begin = true := okS_all (n := 48) (ok_Ru_begin_0) (by decide +kernel)
theorem ok_Ru_activate_0 : okS m_Ru_activate 0 42 = true := by decide +kernel
theorem ok_Ru_activate : okC m_Ru_activate = true := okS_all (n := 42) (ok_Ru_activate_0) (by decide +kernel)
theorem ok_Ru_latest_0 : okS m_Ru_latest 0 18 = true := by decide +kernel
theorem ok_Ru_latest : okC m_Ru_latest = true := okS_all (n := 18) (ok_Ru_latest_0) (by decide +kernel)
theorem ok_Ru_setCell_0 : okS m_Ru_setCell 0 13 = true := by decide +kernel
theorem ok_Ru_setCell : okC m_Ru_setCell = true := okS_all (n := 13) (ok_Ru_setCell_0) (by decide +kernel)
theorem ok_Ru_doInstruction_0 : okS m_Ru_doInstruction 0 60 = true := by decide +kernel
theorem ok_Ru_doInstruction_1 : okS m_Ru_doInstruction 60 11 = true := by decide +kernel
theorem ok_Ru_doInstruction : okC m_Ru_doInstruction = true := okS_all (n := 71) (okS_join 60 71 rfl rfl (ok_Ru_doInstruction_0) ok_Ru_doInstruction_1) (by decide +kernel)
theorem ok_Ru_doSimple_0 : okS m_Ru_doSimple 0 60 = true := by decide +kernel
theorem ok_Ru_doSimple_1 : okS m_Ru_doSimple 60 33 = true := by decide +kernel
theorem ok_Ru_doSimple : okC m_Ru_doSimple = true := okS_all (n := 93) (okS_join 60 93 rfl rfl (ok_Ru_doSimple_0) ok_Ru_doSimple_1) (by decide +kernel)
theorem ok_Ru_cell_0 : okS m_Ru_cell 0 14 = true := by decide +kernel
theorem ok_Ru_cell : okC m_Ru_cell = true := okS_all (n := 14) (ok_Ru_cell_0) (by decide +kernel)
theorem ok_Ru_compute_0 : okS m_Ru_compute 0 50 = true := by decide +kernel
theorem ok_Ru_compute : okC m_Ru_compute = true := okS_all (n := 50) (ok_Ru_compute_0) (by decide +kernel)
theorem ok_Ru_raise_0 : okS m_Ru_raise 0 8 = true := by decide +kernel
theorem ok_Ru_raise : okC m_Ru_raise = true := okS_all (n := 8) (ok_Ru_raise_0) (by decide +kernel)
theorem ok_Ru_raiseFrom_0 : okS m_Ru_raiseFrom 0 14 = true := by decide +kernel
theorem ok_Ru_raiseFrom : okC m_Ru_raiseFrom = true := okS_all (n := 14) (ok_Ru_raiseFrom_0) (by decide +kernel)
theorem ok_Ru_jump_0 : okS m_Ru_jump 0 17 = true := by decide +kernel
theorem ok_Ru_jump : okC m_Ru_jump = true := okS_all (n := 17) (ok_Ru_jump_0) (by decide +kernel)
theorem ok_Ru_jumpIfLess_0 : okS m_Ru_jumpIfLess 0 16 = true := by decide +kernel
theorem ok_Ru_jumpIfLess : okC m_Ru_jumpIfLess = true := okS_all (n := 16) (ok_Ru_jumpIfLess_0) (by decide +kernel)
