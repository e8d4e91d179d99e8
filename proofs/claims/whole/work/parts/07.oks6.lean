theorem ok_TE_entered_0 : okS m_TE_entered 0 17 = true := by decide +kernel
theorem ok_TE_entered : okC m_TE_entered = true := okS_all (n := 17) (ok_TE_entered_0) (by decide +kernel)
theorem ok_Vf_init_0 : okS m_Vf_init 0 20 = true := by decide +kernel
theorem ok_Vf_init : okC m_Vf_init = true := okS_all (n := 20) (ok_Vf_init_0) (by decide +kernel)
theorem ok_Vf_verify_0 : okS m_Vf_verify 0 53 = true := by decide +kernel
theorem ok_Vf_verify : okC m_Vf_verify = true := okS_all (n := 53) (ok_Vf_verify_0) (by decide +kernel)
theorem ok_Vf_findBeginnings_0 : okS m_Vf_findBeginnings 0 58 = true := by decide +kernel
theorem ok_Vf_findBeginnings : okC m_Vf_findBeginnings = true := okS_all (n := 58) (ok_Vf_findBeginnings_0) (by decide +kernel)
theorem ok_Vf_areRegionsWellMade_0 : okS m_Vf_areRegionsWellMade 0 44 = true := by decide +kernel
theorem ok_Vf_areRegionsWellMade : okC m_Vf_areRegionsWellMade = true := okS_all (n := 44) (ok_Vf_areRegionsWellMade_0) (by decide +kernel)
theorem ok_Vf_isWellMade_0 : okS m_Vf_isWellMade 0 47 = true := by decide +kernel
theorem ok_Vf_isWellMade : okC m_Vf_isWellMade = true := okS_all (n := 47) (ok_Vf_isWellMade_0) (by decide +kernel)
theorem ok_Vf_beginsAt_0 : okS m_Vf_beginsAt 0 16 = true := by decide +kernel
theorem ok_Vf_beginsAt : okC m_Vf_beginsAt = true := okS_all (n := 16) (ok_Vf_beginsAt_0) (by decide +kernel)
theorem ok_Vf_reach_0 : okS m_Vf_reach 0 53 = true := by decide +kernel
theorem ok_Vf_reach : okC m_Vf_reach = true := okS_all (n := 53) (ok_Vf_reach_0) (by decide +kernel)
theorem ok_Vf_follow_0 : okS m_Vf_follow 0 60 = true := by decide +kernel
theorem ok_Vf_follow_1 : okS m_Vf_follow 60 14 = true := by decide +kernel
theorem ok_Vf_follow : okC m_Vf_follow = true := okS_all (n := 74) (okS_join 60 74 rfl rfl (ok_Vf_follow_0) ok_Vf_follow_1) (by decide +kernel)
theorem ok_Vf_rowBehindSimple_0 : okS m_Vf_rowBehindSimple 0 60 = true := by decide +kernel
theorem ok_Vf_rowBehindSimple_1 : okS m_Vf_rowBehindSimple 60 8 = true := by decide +kernel
theorem ok_Vf_rowBehindSimple : okC m_Vf_rowBehindSimple = true := okS_all (n := 68) (okS_join 60 68 rfl rfl (ok_Vf_rowBehindSimple_0) ok_Vf_rowBehindSimple_1) (by decide +kernel)
theorem ok_Vf_placeOf_0 : okS m_Vf_placeOf 0 7 = true := by decide +kernel
theorem ok_Vf_placeOf : okC m_Vf_placeOf = true := okS_all (n := 7) (ok_Vf_placeOf_0) (by decide +kernel)
theorem ok_Vf_withoutNumbers_0 : okS m_Vf_withoutNumbers 0 15 = true := by decide +kernel
theorem ok_Vf_withoutNumbers : okC m_Vf_withoutNumbers = true := okS_all (n := 15) (ok_Vf_withoutNumbers_0) (by decide +kernel)
theorem ok_Vf_rowBehindThing_0 : okS m_Vf_rowBehindThing 0 60 = true := by decide +kernel
theorem ok_Vf_rowBehindThing_1 : okS m_Vf_rowBehindThing 60 36 = true := by decide +kernel
theorem ok_Vf_rowBehindThing : okC m_Vf_rowBehindThing = true := okS_all (n := 96) (okS_join 60 96 rfl rfl (ok_Vf_rowBehindThing_0) ok_Vf_rowBehindThing_1) (by decide +kernel)
theorem ok_Vf_rowBehindValue_0 : okS m_Vf_rowBehindValue 0 40 = true := by decide +kernel
theorem ok_Vf_rowBehindValue : okC m_Vf_rowBehindValue = true := okS_all (n := 40) (ok_Vf_rowBehindValue_0) (by decide +kernel)
theorem ok_Vf_rowBehindFlow_0 : okS m_Vf_rowBehindFlow 0 25 = true := by decide +kernel
theorem ok_Vf_rowBehindFlow : okC m_Vf_rowBehindFlow = true := okS_all (n := 25) (ok_Vf_rowBehindFlow_0) (by decide +kernel)
theorem ok_Vf_rowBehindCall_0 : okS m_Vf_rowBehindCall 0 46 = true := by decide +kernel
theorem ok_Vf_rowBehindCall : okC m_Vf_rowBehindCall = true := okS_all (n := 46) (ok_Vf_rowBehindCall_0) (by decide +kernel)
theorem ok_Vf_liesWhereItMay_0 : okS m_Vf_liesWhereItMay 0 36 = true := by decide +kernel
theorem ok_Vf_liesWhereItMay : okC m_Vf_liesWhereItMay = true := okS_all (n := 36) (ok_Vf_liesWhereItMay_0) (by decide +kernel)
theorem ok_Vf_reachHandlers_0 : okS m_Vf_reachHandlers 0 38 = true := by decide +kernel
theorem ok_Vf_reachHandlers : okC m_Vf_reachHandlers = true := okS_all (n := 38) (ok_Vf_reachHandlers_0) (by decide +kernel)
theorem ok_Vf_reachNext_0 : okS m_Vf_reachNext 0 51 = true := by decide +kernel
theorem ok_Vf_reachNext : okC m_Vf_reachNext = true := okS_all (n := 51) (ok_Vf_reachNext_0) (by decide +kernel)
theorem ok_Vf_mayLeave_0 : okS m_Vf_mayLeave 0 60 = true := by decide +kernel
theorem ok_Vf_mayLeave_1 : okS m_Vf_mayLeave 60 3 = true := by decide +kernel
theorem ok_Vf_mayLeave : okC m_Vf_mayLeave = true := okS_all (n := 63) (okS_join 60 63 rfl rfl (ok_Vf_mayLeave_0) ok_Vf_mayLeave_1) (by decide +kernel)
theorem ok_Vf_goOn_0 : okS m_Vf_goOn 0 60 = true := by decide +kernel
theorem ok_Vf_goOn_1 : okS m_Vf_goOn 60 6 = true := by decide +kernel
theorem ok_Vf_goOn : okC m_Vf_goOn = true := okS_all (n := 66) (okS_join 60 66 rfl rfl (ok_Vf_goOn_0) ok_Vf_goOn_1) (by decide +kernel)
