theorem ok_Mo_perform_0 : okS m_Mo_perform 0 60 = true := by decide +kernel
theorem ok_Mo_perform_1 : okS m_Mo_perform 60 9 = true := by decide +kernel
theorem ok_Mo_perform : okC m_Mo_perform = true := okS_all (n := 69) (okS_join 60 69 rfl rfl (ok_Mo_perform_0) ok_Mo_perform_1) (by decide +kernel)
theorem ok_Mo_plain_0 : okS m_Mo_plain 0 60 = true := by decide +kernel
theorem ok_Mo_plain_1 : okS m_Mo_plain 60 60 = true := by decide +kernel
theorem ok_Mo_plain_2 : okS m_Mo_plain 120 30 = true := by decide +kernel
theorem ok_Mo_plain : okC m_Mo_plain = true := okS_all (n := 150) (okS_join 120 150 rfl rfl (okS_join 60 120 rfl rfl (ok_Mo_plain_0) ok_Mo_plain_1) ok_Mo_plain_2) (by decide +kernel)
theorem ok_Mo_put_0 : okS m_Mo_put 0 38 = true := by decide +kernel
theorem ok_Mo_put : okC m_Mo_put = true := okS_all (n := 38) (ok_Mo_put_0) (by decide +kernel)
theorem ok_Mo_putCell_0 : okS m_Mo_putCell 0 13 = true := by decide +kernel
theorem ok_Mo_putCell : okC m_Mo_putCell = true := okS_all (n := 13) (ok_Mo_putCell_0) (by decide +kernel)
theorem ok_Mo_get_0 : okS m_Mo_get 0 38 = true := by decide +kernel
theorem ok_Mo_get : okC m_Mo_get = true := okS_all (n := 38) (ok_Mo_get_0) (by decide +kernel)
theorem ok_Mo_setCell_0 : okS m_Mo_setCell 0 14 = true := by decide +kernel
theorem ok_Mo_setCell : okC m_Mo_setCell = true := okS_all (n := 14) (ok_Mo_setCell_0) (by decide +kernel)
theorem ok_Mo_reckon_0 : okS m_Mo_reckon 0 47 = true := by decide +kernel
theorem ok_Mo_reckon : okC m_Mo_reckon = true := okS_all (n := 47) (ok_Mo_reckon_0) (by decide +kernel)
theorem ok_Mo_work_0 : okS m_Mo_work 0 60 = true := by decide +kernel
theorem ok_Mo_work_1 : okS m_Mo_work 60 60 = true := by decide +kernel
theorem ok_Mo_work_2 : okS m_Mo_work 120 60 = true := by decide +kernel
theorem ok_Mo_work_3 : okS m_Mo_work 180 45 = true := by decide +kernel
theorem ok_Mo_work : okC m_Mo_work = true := okS_all (n := 225) (okS_join 180 225 rfl rfl (okS_join 120 180 rfl rfl (okS_join 60 120 rfl rfl (ok_Mo_work_0) ok_Mo_work_1) ok_Mo_work_2) ok_Mo_work_3) (by decide +kernel)
theorem ok_Mo_create_0 : okS m_Mo_create 0 49 = true := by decide +kernel
theorem ok_Mo_create : okC m_Mo_create = true := okS_all (n := 49) (ok_Mo_create_0) (by decide +kernel)
theorem ok_Mo_make_0 : okS m_Mo_make 0 57 = true := by decide +kernel
theorem ok_Mo_make : okC m_Mo_make = true := okS_all (n := 57) (ok_Mo_make_0) (by decide +kernel)
theorem ok_Mo_cellOf_0 : okS m_Mo_cellOf 0 33 = true := by decide +kernel
theorem ok_Mo_cellOf : okC m_Mo_cellOf = true := okS_all (n := 33) (ok_Mo_cellOf_0) (by decide +kernel)
theorem ok_Mo_putPlace_0 : okS m_Mo_putPlace 0 7 = true := by decide +kernel
theorem ok_Mo_putPlace : okC m_Mo_putPlace = true := okS_all (n := 7) (ok_Mo_putPlace_0) (by decide +kernel)
theorem ok_Mo_control_0 : okS m_Mo_control 0 30 = true := by decide +kernel
theorem ok_Mo_control : okC m_Mo_control = true := okS_all (n := 30) (ok_Mo_control_0) (by decide +kernel)
theorem ok_Mo_call_0 : okS m_Mo_call 0 51 = true := by decide +kernel
theorem ok_Mo_call : okC m_Mo_call = true := okS_all (n := 51) (ok_Mo_call_0) (by decide +kernel)
theorem ok_Mo_finish_0 : okS m_Mo_finish 0 47 = true := by decide +kernel
theorem ok_Mo_finish : okC m_Mo_finish = true := okS_all (n := 47) (ok_Mo_finish_0) (by decide +kernel)
theorem ok_Mo_raise_0 : okS m_Mo_raise 0 7 = true := by decide +kernel
theorem ok_Mo_raise : okC m_Mo_raise = true := okS_all (n := 7) (ok_Mo_raise_0) (by decide +kernel)
theorem ok_Mo_raiseBehind_0 : okS m_Mo_raiseBehind 0 60 = true := by decide +kernel
theorem ok_Mo_raiseBehind_1 : okS m_Mo_raiseBehind 60 27 = true := by decide +kernel
theorem ok_Mo_raiseBehind : okC m_Mo_raiseBehind = true := okS_all (n := 87) (okS_join 60 87 rfl rfl (ok_Mo_raiseBehind_0) ok_Mo_raiseBehind_1) (by decide +kernel)
theorem ok_Mo_handle_0 : okS m_Mo_handle 0 60 = true := by decide +kernel
theorem ok_Mo_handle_1 : okS m_Mo_handle 60 16 = true := by decide +kernel
theorem ok_Mo_handle : okC m_Mo_handle = true := okS_all (n := 76) (okS_join 60 76 rfl rfl (ok_Mo_handle_0) ok_Mo_handle_1) (by decide +kernel)
theorem ok_Mo_drop_0 : okS m_Mo_drop 0 44 = true := by decide +kernel
theorem ok_Mo_drop : okC m_Mo_drop = true := okS_all (n := 44) (ok_Mo_drop_0) (by decide +kernel)
theorem ok_Mo_leave_0 : okS m_Mo_leave 0 7 = true := by decide +kernel
theorem ok_Mo_leave : okC m_Mo_leave = true := okS_all (n := 7) (ok_Mo_leave_0) (by decide +kernel)
theorem ok_Mo_leaveBehind_0 : okS m_Mo_leaveBehind 0 60 = true := by decide +kernel
theorem ok_Mo_leaveBehind_1 : okS m_Mo_leaveBehind 60 18 = true := by decide +kernel
theorem ok_Mo_leaveBehind : okC m_Mo_leaveBehind = true := okS_all (n := 78) (okS_join 60 78 rfl rfl (ok_Mo_leaveBehind_0) ok_Mo_leaveBehind_1) (by decide +kernel)
