theorem ok_Mo_next_0 : okS m_Mo_next 0 32 = true := by decide +kernel
theorem ok_Mo_next : okC m_Mo_next = true := okS_all (n := 32) (ok_Mo_next_0) (by decide +kernel)
theorem ok_Mo_between_0 : okS m_Mo_between 0 24 = true := by decide +kernel
theorem ok_Mo_between : okC m_Mo_between = true := okS_all (n := 24) (ok_Mo_between_0) (by decide +kernel)
theorem ok_Mo_typeOf_0 : okS m_Mo_typeOf 0 53 = true := by decide +kernel
theorem ok_Mo_typeOf : okC m_Mo_typeOf = true := okS_all (n := 53) (ok_Mo_typeOf_0) (by decide +kernel)
theorem ok_Mo_scanMethod_0 : okS m_Mo_scanMethod 0 60 = true := by decide +kernel
theorem ok_Mo_scanMethod_1 : okS m_Mo_scanMethod 60 60 = true := by decide +kernel
theorem ok_Mo_scanMethod_2 : okS m_Mo_scanMethod 120 60 = true := by decide +kernel
theorem ok_Mo_scanMethod_3 : okS m_Mo_scanMethod 180 28 = true := by decide +kernel
theorem ok_Mo_scanMethod : okC m_Mo_scanMethod = true := okS_all (n := 208) (okS_join 180 208 rfl rfl (okS_join 120 180 rfl rfl (okS_join 60 120 rfl rfl (ok_Mo_scanMethod_0) ok_Mo_scanMethod_1) ok_Mo_scanMethod_2) ok_Mo_scanMethod_3) (by decide +kernel)
theorem ok_Mo_verify_0 : okS m_Mo_verify 0 60 = true := by decide +kernel
theorem ok_Mo_verify_1 : okS m_Mo_verify 60 30 = true := by decide +kernel
theorem ok_Mo_verify : okC m_Mo_verify = true := okS_all (n := 90) (okS_join 60 90 rfl rfl (ok_Mo_verify_0) ok_Mo_verify_1) (by decide +kernel)
theorem ok_Mo_split_0 : okS m_Mo_split 0 60 = true := by decide +kernel
theorem ok_Mo_split_1 : okS m_Mo_split 60 20 = true := by decide +kernel
theorem ok_Mo_split : okC m_Mo_split = true := okS_all (n := 80) (okS_join 60 80 rfl rfl (ok_Mo_split_0) ok_Mo_split_1) (by decide +kernel)
theorem ok_Mo_op_0 : okS m_Mo_op 0 10 = true := by decide +kernel
theorem ok_Mo_op : okC m_Mo_op = true := okS_all (n := 10) (ok_Mo_op_0) (by decide +kernel)
theorem ok_Mo_bytes_0 : okS m_Mo_bytes 0 22 = true := by decide +kernel
theorem ok_Mo_bytes : okC m_Mo_bytes = true := okS_all (n := 22) (ok_Mo_bytes_0) (by decide +kernel)
theorem ok_Mo_wellMade_0 : okS m_Mo_wellMade 0 60 = true := by decide +kernel
theorem ok_Mo_wellMade_1 : okS m_Mo_wellMade 60 60 = true := by decide +kernel
theorem ok_Mo_wellMade_2 : okS m_Mo_wellMade 120 60 = true := by decide +kernel
theorem ok_Mo_wellMade_3 : okS m_Mo_wellMade 180 4 = true := by decide +kernel
theorem ok_Mo_wellMade : okC m_Mo_wellMade = true := okS_all (n := 184) (okS_join 180 184 rfl rfl (okS_join 120 180 rfl rfl (okS_join 60 120 rfl rfl (ok_Mo_wellMade_0) ok_Mo_wellMade_1) ok_Mo_wellMade_2) ok_Mo_wellMade_3) (by decide +kernel)
theorem ok_Mo_isBeginning_0 : okS m_Mo_isBeginning 0 23 = true := by decide +kernel
theorem ok_Mo_isBeginning : okC m_Mo_isBeginning = true := okS_all (n := 23) (ok_Mo_isBeginning_0) (by decide +kernel)
theorem ok_Mo_meet_0 : okS m_Mo_meet 0 60 = true := by decide +kernel
theorem ok_Mo_meet : okC m_Mo_meet = true := okS_all (n := 60) (ok_Mo_meet_0) (by decide +kernel)
theorem ok_Mo_flow_0 : okS m_Mo_flow 0 60 = true := by decide +kernel
theorem ok_Mo_flow_1 : okS m_Mo_flow 60 60 = true := by decide +kernel
theorem ok_Mo_flow_2 : okS m_Mo_flow 120 21 = true := by decide +kernel
theorem ok_Mo_flow : okC m_Mo_flow = true := okS_all (n := 141) (okS_join 120 141 rfl rfl (okS_join 60 120 rfl rfl (ok_Mo_flow_0) ok_Mo_flow_1) ok_Mo_flow_2) (by decide +kernel)
theorem ok_Mo_inPart_0 : okS m_Mo_inPart 0 16 = true := by decide +kernel
theorem ok_Mo_inPart : okC m_Mo_inPart = true := okS_all (n := 16) (ok_Mo_inPart_0) (by decide +kernel)
theorem ok_Mo_simple_0 : okS m_Mo_simple 0 60 = true := by decide +kernel
theorem ok_Mo_simple_1 : okS m_Mo_simple 60 57 = true := by decide +kernel
theorem ok_Mo_simple : okC m_Mo_simple = true := okS_all (n := 117) (okS_join 60 117 rfl rfl (ok_Mo_simple_0) ok_Mo_simple_1) (by decide +kernel)
theorem ok_Mo_push_0 : okS m_Mo_push 0 35 = true := by decide +kernel
theorem ok_Mo_push : okC m_Mo_push = true := okS_all (n := 35) (ok_Mo_push_0) (by decide +kernel)
theorem ok_Mo_operand_0 : okS m_Mo_operand 0 12 = true := by decide +kernel
theorem ok_Mo_operand : okC m_Mo_operand = true := okS_all (n := 12) (ok_Mo_operand_0) (by decide +kernel)
