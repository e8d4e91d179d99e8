/-! The tables are as they must be: decided by the kernel, some instructions at a time. -/
def okS (m : MI) (a n : Nat) : Bool := ((m.2.2.2.2.2.1.drop a).take n).all (okI m.1.cls (isIn m) m.2.1 m.2.2.1 m.2.2.2.1)
theorem okS_join {m : MI} {a n k : Nat} (h1 : okS m a n = true) (h2 : okS m (a + n) k = true) : okS m a (n + k) = true := by
  unfold okS at *
  rw [List.take_add, List.all_append, List.drop_drop, Bool.and_eq_true]
  exact ⟨h1, h2⟩
theorem okS_all {m : MI} {n : Nat} (h : okS m 0 n = true) (hn : m.2.2.2.2.2.1.length = n) : okC m = true := by
  unfold okS at h
  rw [List.drop_zero, List.take_of_length_le (by omega)] at h
  exact h
theorem ok_La_law_0 : okS m_La_law 0 60 = true := by decide +kernel
theorem ok_La_law_1 : okS m_La_law 60 60 = true := by decide +kernel
theorem ok_La_law_2 : okS m_La_law 120 60 = true := by decide +kernel
theorem ok_La_law_3 : okS m_La_law 180 60 = true := by decide +kernel
theorem ok_La_law_4 : okS m_La_law 240 59 = true := by decide +kernel
theorem ok_La_law : okC m_La_law = true := okS_all (n := 299) (okS_join (okS_join (okS_join (okS_join (ok_La_law_0) ok_La_law_1) ok_La_law_2) ok_La_law_3) ok_La_law_4) rfl
theorem ok_Fr_init_0 : okS m_Fr_init 0 29 = true := by decide +kernel
theorem ok_Fr_init : okC m_Fr_init = true := okS_all (n := 29) (ok_Fr_init_0) rfl
theorem oh_Fr_init : okH m_Fr_init = true := by decide +kernel
theorem ok_Fr_begin_0 : okS m_Fr_begin 0 25 = true := by decide +kernel
theorem ok_Fr_begin : okC m_Fr_begin = true := okS_all (n := 25) (ok_Fr_begin_0) rfl
theorem oh_Fr_begin : okH m_Fr_begin = true := by decide +kernel
theorem ok_Fr_setArgument_0 : okS m_Fr_setArgument 0 11 = true := by decide +kernel
theorem ok_Fr_setArgument : okC m_Fr_setArgument = true := okS_all (n := 11) (ok_Fr_setArgument_0) rfl
theorem oh_Fr_setArgument : okH m_Fr_setArgument = true := by decide +kernel
theorem ok_Fr_push_0 : okS m_Fr_push 0 20 = true := by decide +kernel
theorem ok_Fr_push : okC m_Fr_push = true := okS_all (n := 20) (ok_Fr_push_0) rfl
theorem oh_Fr_push : okH m_Fr_push = true := by decide +kernel
theorem ok_Fr_pop_0 : okS m_Fr_pop 0 21 = true := by decide +kernel
theorem ok_Fr_pop : okC m_Fr_pop = true := okS_all (n := 21) (ok_Fr_pop_0) rfl
theorem oh_Fr_pop : okH m_Fr_pop = true := by decide +kernel
theorem ok_Fr_argument_0 : okS m_Fr_argument 0 12 = true := by decide +kernel
theorem ok_Fr_argument : okC m_Fr_argument = true := okS_all (n := 12) (ok_Fr_argument_0) rfl
theorem oh_Fr_argument : okH m_Fr_argument = true := by decide +kernel
theorem ok_Fr_popInt_0 : okS m_Fr_popInt 0 4 = true := by decide +kernel
theorem ok_Fr_popInt : okC m_Fr_popInt = true := okS_all (n := 4) (ok_Fr_popInt_0) rfl
theorem oh_Fr_popInt : okH m_Fr_popInt = true := by decide +kernel
theorem ok_Fr_valueAt_0 : okS m_Fr_valueAt 0 16 = true := by decide +kernel
theorem ok_Fr_valueAt : okC m_Fr_valueAt = true := okS_all (n := 16) (ok_Fr_valueAt_0) rfl
theorem oh_Fr_valueAt : okH m_Fr_valueAt = true := by decide +kernel
theorem ok_Fr_keepPending_0 : okS m_Fr_keepPending 0 16 = true := by decide +kernel
theorem ok_Fr_keepPending : okC m_Fr_keepPending = true := okS_all (n := 16) (ok_Fr_keepPending_0) rfl
theorem oh_Fr_keepPending : okH m_Fr_keepPending = true := by decide +kernel
theorem ok_Fr_forgetPending_0 : okS m_Fr_forgetPending 0 32 = true := by decide +kernel
theorem ok_Fr_forgetPending : okC m_Fr_forgetPending = true := okS_all (n := 32) (ok_Fr_forgetPending_0) rfl
theorem oh_Fr_forgetPending : okH m_Fr_forgetPending = true := by decide +kernel
theorem ok_Im_init_0 : okS m_Im_init 0 29 = true := by decide +kernel
theorem ok_Im_init : okC m_Im_init = true := okS_all (n := 29) (ok_Im_init_0) rfl
theorem oh_Im_init : okH m_Im_init = true := by decide +kernel
theorem ok_Im_canBeNull_0 : okS m_Im_canBeNull 0 16 = true := by decide +kernel
theorem ok_Im_canBeNull : okC m_Im_canBeNull = true := okS_all (n := 16) (ok_Im_canBeNull_0) rfl
theorem oh_Im_canBeNull : okH m_Im_canBeNull = true := by decide +kernel
theorem ok_Im_hasClass_0 : okS m_Im_hasClass 0 10 = true := by decide +kernel
theorem ok_Im_hasClass : okC m_Im_hasClass = true := okS_all (n := 10) (ok_Im_hasClass_0) rfl
theorem oh_Im_hasClass : okH m_Im_hasClass = true := by decide +kernel
theorem ok_Im_fieldType_0 : okS m_Im_fieldType 0 31 = true := by decide +kernel
theorem ok_Im_fieldType : okC m_Im_fieldType = true := okS_all (n := 31) (ok_Im_fieldType_0) rfl
theorem oh_Im_fieldType : okH m_Im_fieldType = true := by decide +kernel
theorem ok_Im_method_0 : okS m_Im_method 0 13 = true := by decide +kernel
theorem ok_Im_method : okC m_Im_method = true := okS_all (n := 13) (ok_Im_method_0) rfl
theorem oh_Im_method : okH m_Im_method = true := by decide +kernel
theorem ok_Im_verifiedMethod_0 : okS m_Im_verifiedMethod 0 13 = true := by decide +kernel
theorem ok_Im_verifiedMethod : okC m_Im_verifiedMethod = true := okS_all (n := 13) (ok_Im_verifiedMethod_0) rfl
theorem oh_Im_verifiedMethod : okH m_Im_verifiedMethod = true := by decide +kernel
theorem ok_Im_callsVerifiedAlone_0 : okS m_Im_callsVerifiedAlone 0 45 = true := by decide +kernel
theorem ok_Im_callsVerifiedAlone : okC m_Im_callsVerifiedAlone = true := okS_all (n := 45) (ok_Im_callsVerifiedAlone_0) rfl
theorem oh_Im_callsVerifiedAlone : okH m_Im_callsVerifiedAlone = true := by decide +kernel
theorem ok_Ma_min_0 : okS m_Ma_min 0 7 = true := by decide +kernel
theorem ok_Ma_min : okC m_Ma_min = true := okS_all (n := 7) (ok_Ma_min_0) rfl
theorem oh_Ma_min : okH m_Ma_min = true := by decide +kernel
theorem ok_Me_init_0 : okS m_Me_init 0 37 = true := by decide +kernel
theorem ok_Me_init : okC m_Me_init = true := okS_all (n := 37) (ok_Me_init_0) rfl
theorem oh_Me_init : okH m_Me_init = true := by decide +kernel
theorem ok_Me_codeAt_0 : okS m_Me_codeAt 0 13 = true := by decide +kernel
theorem ok_Me_codeAt : okC m_Me_codeAt = true := okS_all (n := 13) (ok_Me_codeAt_0) rfl
theorem oh_Me_codeAt : okH m_Me_codeAt = true := by decide +kernel
theorem ok_Me_rowAt_0 : okS m_Me_rowAt 0 13 = true := by decide +kernel
theorem ok_Me_rowAt : okC m_Me_rowAt = true := okS_all (n := 13) (ok_Me_rowAt_0) rfl
theorem oh_Me_rowAt : okH m_Me_rowAt = true := by decide +kernel
theorem ok_Me_localType_0 : okS m_Me_localType 0 13 = true := by decide +kernel
theorem ok_Me_localType : okC m_Me_localType = true := okS_all (n := 13) (ok_Me_localType_0) rfl
theorem oh_Me_localType : okH m_Me_localType = true := by decide +kernel
theorem ok_Me_argumentType_0 : okS m_Me_argumentType 0 13 = true := by decide +kernel
theorem ok_Me_argumentType : okC m_Me_argumentType = true := okS_all (n := 13) (ok_Me_argumentType_0) rfl
theorem oh_Me_argumentType : okH m_Me_argumentType = true := by decide +kernel
theorem ok_Me_partsAt_0 : okS m_Me_partsAt 0 25 = true := by decide +kernel
theorem ok_Me_partsAt : okC m_Me_partsAt = true := okS_all (n := 25) (ok_Me_partsAt_0) rfl
theorem oh_Me_partsAt : okH m_Me_partsAt = true := by decide +kernel
theorem ok_Me_handlersAt_0 : okS m_Me_handlersAt 0 25 = true := by decide +kernel
theorem ok_Me_handlersAt : okC m_Me_handlersAt = true := okS_all (n := 25) (ok_Me_handlersAt_0) rfl
theorem oh_Me_handlersAt : okH m_Me_handlersAt = true := by decide +kernel
theorem ok_Me_finallyAround_0 : okS m_Me_finallyAround 0 36 = true := by decide +kernel
theorem ok_Me_finallyAround : okC m_Me_finallyAround = true := okS_all (n := 36) (ok_Me_finallyAround_0) rfl
theorem oh_Me_finallyAround : okH m_Me_finallyAround = true := by decide +kernel
theorem ok_Me_takesNumbersAlone_0 : okS m_Me_takesNumbersAlone 0 18 = true := by decide +kernel
theorem ok_Me_takesNumbersAlone : okC m_Me_takesNumbersAlone = true := okS_all (n := 18) (ok_Me_takesNumbersAlone_0) rfl
theorem oh_Me_takesNumbersAlone : okH m_Me_takesNumbersAlone = true := by decide +kernel
theorem ok_Mo_init_0 : okS m_Mo_init 0 60 = true := by decide +kernel
theorem ok_Mo_init_1 : okS m_Mo_init 60 60 = true := by decide +kernel
theorem ok_Mo_init_2 : okS m_Mo_init 120 11 = true := by decide +kernel
theorem ok_Mo_init : okC m_Mo_init = true := okS_all (n := 131) (okS_join (okS_join (ok_Mo_init_0) ok_Mo_init_1) ok_Mo_init_2) rfl
theorem oh_Mo_init : okH m_Mo_init = true := by decide +kernel
theorem ok_Mo_draft_0 : okS m_Mo_draft 0 44 = true := by decide +kernel
theorem ok_Mo_draft : okC m_Mo_draft = true := okS_all (n := 44) (ok_Mo_draft_0) rfl
theorem oh_Mo_draft : okH m_Mo_draft = true := by decide +kernel
theorem ok_Mo_clear_0 : okS m_Mo_clear 0 4 = true := by decide +kernel
theorem ok_Mo_clear : okC m_Mo_clear = true := okS_all (n := 4) (ok_Mo_clear_0) rfl
theorem oh_Mo_clear : okH m_Mo_clear = true := by decide +kernel
theorem ok_Mo_load_0 : okS m_Mo_load 0 28 = true := by decide +kernel
theorem ok_Mo_load : okC m_Mo_load = true := okS_all (n := 28) (ok_Mo_load_0) rfl
theorem oh_Mo_load : okH m_Mo_load = true := by decide +kernel
theorem ok_Mo_scan_0 : okS m_Mo_scan 0 60 = true := by decide +kernel
theorem ok_Mo_scan_1 : okS m_Mo_scan 60 59 = true := by decide +kernel
theorem ok_Mo_scan : okC m_Mo_scan = true := okS_all (n := 119) (okS_join (ok_Mo_scan_0) ok_Mo_scan_1) rfl
theorem oh_Mo_scan : okH m_Mo_scan = true := by decide +kernel
theorem ok_Mo_next_0 : okS m_Mo_next 0 32 = true := by decide +kernel
theorem ok_Mo_next : okC m_Mo_next = true := okS_all (n := 32) (ok_Mo_next_0) rfl
theorem oh_Mo_next : okH m_Mo_next = true := by decide +kernel
theorem ok_Mo_between_0 : okS m_Mo_between 0 24 = true := by decide +kernel
theorem ok_Mo_between : okC m_Mo_between = true := okS_all (n := 24) (ok_Mo_between_0) rfl
theorem oh_Mo_between : okH m_Mo_between = true := by decide +kernel
theorem ok_Mo_typeOf_0 : okS m_Mo_typeOf 0 53 = true := by decide +kernel
theorem ok_Mo_typeOf : okC m_Mo_typeOf = true := okS_all (n := 53) (ok_Mo_typeOf_0) rfl
theorem oh_Mo_typeOf : okH m_Mo_typeOf = true := by decide +kernel
theorem ok_Mo_scanMethod_0 : okS m_Mo_scanMethod 0 60 = true := by decide +kernel
theorem ok_Mo_scanMethod_1 : okS m_Mo_scanMethod 60 60 = true := by decide +kernel
theorem ok_Mo_scanMethod_2 : okS m_Mo_scanMethod 120 60 = true := by decide +kernel
theorem ok_Mo_scanMethod_3 : okS m_Mo_scanMethod 180 28 = true := by decide +kernel
theorem ok_Mo_scanMethod : okC m_Mo_scanMethod = true := okS_all (n := 208) (okS_join (okS_join (okS_join (ok_Mo_scanMethod_0) ok_Mo_scanMethod_1) ok_Mo_scanMethod_2) ok_Mo_scanMethod_3) rfl
theorem oh_Mo_scanMethod : okH m_Mo_scanMethod = true := by decide +kernel
theorem ok_Mo_verify_0 : okS m_Mo_verify 0 60 = true := by decide +kernel
theorem ok_Mo_verify_1 : okS m_Mo_verify 60 30 = true := by decide +kernel
theorem ok_Mo_verify : okC m_Mo_verify = true := okS_all (n := 90) (okS_join (ok_Mo_verify_0) ok_Mo_verify_1) rfl
theorem oh_Mo_verify : okH m_Mo_verify = true := by decide +kernel
theorem ok_Mo_split_0 : okS m_Mo_split 0 60 = true := by decide +kernel
theorem ok_Mo_split_1 : okS m_Mo_split 60 20 = true := by decide +kernel
theorem ok_Mo_split : okC m_Mo_split = true := okS_all (n := 80) (okS_join (ok_Mo_split_0) ok_Mo_split_1) rfl
theorem oh_Mo_split : okH m_Mo_split = true := by decide +kernel
theorem ok_Mo_op_0 : okS m_Mo_op 0 10 = true := by decide +kernel
theorem ok_Mo_op : okC m_Mo_op = true := okS_all (n := 10) (ok_Mo_op_0) rfl
theorem oh_Mo_op : okH m_Mo_op = true := by decide +kernel
theorem ok_Mo_bytes_0 : okS m_Mo_bytes 0 22 = true := by decide +kernel
theorem ok_Mo_bytes : okC m_Mo_bytes = true := okS_all (n := 22) (ok_Mo_bytes_0) rfl
theorem oh_Mo_bytes : okH m_Mo_bytes = true := by decide +kernel
theorem ok_Mo_wellMade_0 : okS m_Mo_wellMade 0 60 = true := by decide +kernel
theorem ok_Mo_wellMade_1 : okS m_Mo_wellMade 60 60 = true := by decide +kernel
theorem ok_Mo_wellMade_2 : okS m_Mo_wellMade 120 60 = true := by decide +kernel
theorem ok_Mo_wellMade_3 : okS m_Mo_wellMade 180 4 = true := by decide +kernel
theorem ok_Mo_wellMade : okC m_Mo_wellMade = true := okS_all (n := 184) (okS_join (okS_join (okS_join (ok_Mo_wellMade_0) ok_Mo_wellMade_1) ok_Mo_wellMade_2) ok_Mo_wellMade_3) rfl
theorem oh_Mo_wellMade : okH m_Mo_wellMade = true := by decide +kernel
theorem ok_Mo_isBeginning_0 : okS m_Mo_isBeginning 0 23 = true := by decide +kernel
theorem ok_Mo_isBeginning : okC m_Mo_isBeginning = true := okS_all (n := 23) (ok_Mo_isBeginning_0) rfl
theorem oh_Mo_isBeginning : okH m_Mo_isBeginning = true := by decide +kernel
theorem ok_Mo_meet_0 : okS m_Mo_meet 0 60 = true := by decide +kernel
theorem ok_Mo_meet : okC m_Mo_meet = true := okS_all (n := 60) (ok_Mo_meet_0) rfl
theorem oh_Mo_meet : okH m_Mo_meet = true := by decide +kernel
theorem ok_Mo_flow_0 : okS m_Mo_flow 0 60 = true := by decide +kernel
theorem ok_Mo_flow_1 : okS m_Mo_flow 60 60 = true := by decide +kernel
theorem ok_Mo_flow_2 : okS m_Mo_flow 120 21 = true := by decide +kernel
theorem ok_Mo_flow : okC m_Mo_flow = true := okS_all (n := 141) (okS_join (okS_join (ok_Mo_flow_0) ok_Mo_flow_1) ok_Mo_flow_2) rfl
theorem oh_Mo_flow : okH m_Mo_flow = true := by decide +kernel
theorem ok_Mo_inPart_0 : okS m_Mo_inPart 0 16 = true := by decide +kernel
theorem ok_Mo_inPart : okC m_Mo_inPart = true := okS_all (n := 16) (ok_Mo_inPart_0) rfl
theorem oh_Mo_inPart : okH m_Mo_inPart = true := by decide +kernel
theorem ok_Mo_simple_0 : okS m_Mo_simple 0 60 = true := by decide +kernel
theorem ok_Mo_simple_1 : okS m_Mo_simple 60 57 = true := by decide +kernel
theorem ok_Mo_simple : okC m_Mo_simple = true := okS_all (n := 117) (okS_join (ok_Mo_simple_0) ok_Mo_simple_1) rfl
theorem oh_Mo_simple : okH m_Mo_simple = true := by decide +kernel
theorem ok_Mo_push_0 : okS m_Mo_push 0 35 = true := by decide +kernel
theorem ok_Mo_push : okC m_Mo_push = true := okS_all (n := 35) (ok_Mo_push_0) rfl
theorem oh_Mo_push : okH m_Mo_push = true := by decide +kernel
theorem ok_Mo_operand_0 : okS m_Mo_operand 0 12 = true := by decide +kernel
theorem ok_Mo_operand : okC m_Mo_operand = true := okS_all (n := 12) (ok_Mo_operand_0) rfl
theorem oh_Mo_operand : okH m_Mo_operand = true := by decide +kernel
theorem ok_Mo_localAt_0 : okS m_Mo_localAt 0 27 = true := by decide +kernel
theorem ok_Mo_localAt : okC m_Mo_localAt = true := okS_all (n := 27) (ok_Mo_localAt_0) rfl
theorem oh_Mo_localAt : okH m_Mo_localAt = true := by decide +kernel
theorem ok_Mo_need_0 : okS m_Mo_need 0 11 = true := by decide +kernel
theorem ok_Mo_need : okC m_Mo_need = true := okS_all (n := 11) (ok_Mo_need_0) rfl
theorem oh_Mo_need : okH m_Mo_need = true := by decide +kernel
theorem ok_Mo_take_0 : okS m_Mo_take 0 15 = true := by decide +kernel
theorem ok_Mo_take : okC m_Mo_take = true := okS_all (n := 15) (ok_Mo_take_0) rfl
theorem oh_Mo_take : okH m_Mo_take = true := by decide +kernel
theorem ok_Mo_pop_0 : okS m_Mo_pop 0 48 = true := by decide +kernel
theorem ok_Mo_pop : okC m_Mo_pop = true := okS_all (n := 48) (ok_Mo_pop_0) rfl
theorem oh_Mo_pop : okH m_Mo_pop = true := by decide +kernel
theorem ok_Mo_argumentAt_0 : okS m_Mo_argumentAt 0 27 = true := by decide +kernel
theorem ok_Mo_argumentAt : okC m_Mo_argumentAt = true := okS_all (n := 27) (ok_Mo_argumentAt_0) rfl
theorem oh_Mo_argumentAt : okH m_Mo_argumentAt = true := by decide +kernel
theorem ok_Mo_isObject_0 : okS m_Mo_isObject 0 13 = true := by decide +kernel
theorem ok_Mo_isObject : okC m_Mo_isObject = true := okS_all (n := 13) (ok_Mo_isObject_0) rfl
theorem oh_Mo_isObject : okH m_Mo_isObject = true := by decide +kernel
theorem ok_Mo_things_0 : okS m_Mo_things 0 60 = true := by decide +kernel
theorem ok_Mo_things_1 : okS m_Mo_things 60 60 = true := by decide +kernel
theorem ok_Mo_things_2 : okS m_Mo_things 120 23 = true := by decide +kernel
theorem ok_Mo_things : okC m_Mo_things = true := okS_all (n := 143) (okS_join (okS_join (ok_Mo_things_0) ok_Mo_things_1) ok_Mo_things_2) rfl
theorem oh_Mo_things : okH m_Mo_things = true := by decide +kernel
theorem ok_Mo_fieldAt_0 : okS m_Mo_fieldAt 0 36 = true := by decide +kernel
theorem ok_Mo_fieldAt : okC m_Mo_fieldAt = true := okS_all (n := 36) (ok_Mo_fieldAt_0) rfl
theorem oh_Mo_fieldAt : okH m_Mo_fieldAt = true := by decide +kernel
theorem ok_Mo_taken_0 : okS m_Mo_taken 0 14 = true := by decide +kernel
theorem ok_Mo_taken : okC m_Mo_taken = true := okS_all (n := 14) (ok_Mo_taken_0) rfl
theorem oh_Mo_taken : okH m_Mo_taken = true := by decide +kernel
theorem ok_Mo_calls_0 : okS m_Mo_calls 0 60 = true := by decide +kernel
theorem ok_Mo_calls_1 : okS m_Mo_calls 60 60 = true := by decide +kernel
theorem ok_Mo_calls_2 : okS m_Mo_calls 120 38 = true := by decide +kernel
theorem ok_Mo_calls : okC m_Mo_calls = true := okS_all (n := 158) (okS_join (okS_join (ok_Mo_calls_0) ok_Mo_calls_1) ok_Mo_calls_2) rfl
theorem oh_Mo_calls : okH m_Mo_calls = true := by decide +kernel
theorem ok_Mo_innermost_0 : okS m_Mo_innermost 0 35 = true := by decide +kernel
theorem ok_Mo_innermost : okC m_Mo_innermost = true := okS_all (n := 35) (ok_Mo_innermost_0) rfl
theorem oh_Mo_innermost : okH m_Mo_innermost = true := by decide +kernel
theorem ok_Mo_inHandler_0 : okS m_Mo_inHandler 0 16 = true := by decide +kernel
theorem ok_Mo_inHandler : okC m_Mo_inHandler = true := okS_all (n := 16) (ok_Mo_inHandler_0) rfl
theorem oh_Mo_inHandler : okH m_Mo_inHandler = true := by decide +kernel
theorem ok_Mo_target_0 : okS m_Mo_target 0 9 = true := by decide +kernel
theorem ok_Mo_target : okC m_Mo_target = true := okS_all (n := 9) (ok_Mo_target_0) rfl
theorem oh_Mo_target : okH m_Mo_target = true := by decide +kernel
theorem ok_Mo_signed_0 : okS m_Mo_signed 0 9 = true := by decide +kernel
theorem ok_Mo_signed : okC m_Mo_signed = true := okS_all (n := 9) (ok_Mo_signed_0) rfl
theorem oh_Mo_signed : okH m_Mo_signed = true := by decide +kernel
theorem ok_Mo_leaves_0 : okS m_Mo_leaves 0 60 = true := by decide +kernel
theorem ok_Mo_leaves_1 : okS m_Mo_leaves 60 17 = true := by decide +kernel
theorem ok_Mo_leaves : okC m_Mo_leaves = true := okS_all (n := 77) (okS_join (ok_Mo_leaves_0) ok_Mo_leaves_1) rfl
theorem oh_Mo_leaves : okH m_Mo_leaves = true := by decide +kernel
theorem ok_Mo_goes_0 : okS m_Mo_goes 0 60 = true := by decide +kernel
theorem ok_Mo_goes_1 : okS m_Mo_goes 60 43 = true := by decide +kernel
theorem ok_Mo_goes : okC m_Mo_goes = true := okS_all (n := 103) (okS_join (ok_Mo_goes_0) ok_Mo_goes_1) rfl
theorem oh_Mo_goes : okH m_Mo_goes = true := by decide +kernel
theorem ok_Mo_verified_0 : okS m_Mo_verified 0 4 = true := by decide +kernel
theorem ok_Mo_verified : okC m_Mo_verified = true := okS_all (n := 4) (ok_Mo_verified_0) rfl
theorem oh_Mo_verified : okH m_Mo_verified = true := by decide +kernel
theorem ok_Mo_isGood_0 : okS m_Mo_isGood 0 15 = true := by decide +kernel
theorem ok_Mo_isGood : okC m_Mo_isGood = true := okS_all (n := 15) (ok_Mo_isGood_0) rfl
theorem oh_Mo_isGood : okH m_Mo_isGood = true := by decide +kernel
theorem ok_Mo_depth_0 : okS m_Mo_depth 0 25 = true := by decide +kernel
theorem ok_Mo_depth : okC m_Mo_depth = true := okS_all (n := 25) (ok_Mo_depth_0) rfl
theorem oh_Mo_depth : okH m_Mo_depth = true := by decide +kernel
theorem ok_Mo_type_0 : okS m_Mo_type 0 29 = true := by decide +kernel
theorem ok_Mo_type : okC m_Mo_type = true := okS_all (n := 29) (ok_Mo_type_0) rfl
theorem oh_Mo_type : okH m_Mo_type = true := by decide +kernel
theorem ok_Mo_start_0 : okS m_Mo_start 0 60 = true := by decide +kernel
theorem ok_Mo_start_1 : okS m_Mo_start 60 12 = true := by decide +kernel
theorem ok_Mo_start : okC m_Mo_start = true := okS_all (n := 72) (okS_join (ok_Mo_start_0) ok_Mo_start_1) rfl
theorem oh_Mo_start : okH m_Mo_start = true := by decide +kernel
theorem ok_Mo_allGood_0 : okS m_Mo_allGood 0 55 = true := by decide +kernel
theorem ok_Mo_allGood : okC m_Mo_allGood = true := okS_all (n := 55) (ok_Mo_allGood_0) rfl
theorem oh_Mo_allGood : okH m_Mo_allGood = true := by decide +kernel
theorem ok_Mo_direct_0 : okS m_Mo_direct 0 57 = true := by decide +kernel
theorem ok_Mo_direct : okC m_Mo_direct = true := okS_all (n := 57) (ok_Mo_direct_0) rfl
theorem oh_Mo_direct : okH m_Mo_direct = true := by decide +kernel
theorem ok_Mo_enter_0 : okS m_Mo_enter 0 60 = true := by decide +kernel
theorem ok_Mo_enter_1 : okS m_Mo_enter 60 24 = true := by decide +kernel
theorem ok_Mo_enter : okC m_Mo_enter = true := okS_all (n := 84) (okS_join (ok_Mo_enter_0) ok_Mo_enter_1) rfl
theorem oh_Mo_enter : okH m_Mo_enter = true := by decide +kernel
theorem ok_Mo_isReference_0 : okS m_Mo_isReference 0 7 = true := by decide +kernel
theorem ok_Mo_isReference : okC m_Mo_isReference = true := okS_all (n := 7) (ok_Mo_isReference_0) rfl
theorem oh_Mo_isReference : okH m_Mo_isReference = true := by decide +kernel
theorem ok_Mo_step_0 : okS m_Mo_step 0 25 = true := by decide +kernel
theorem ok_Mo_step : okC m_Mo_step = true := okS_all (n := 25) (ok_Mo_step_0) rfl
theorem oh_Mo_step : okH m_Mo_step = true := by decide +kernel
theorem ok_Mo_perform_0 : okS m_Mo_perform 0 60 = true := by decide +kernel
theorem ok_Mo_perform_1 : okS m_Mo_perform 60 9 = true := by decide +kernel
theorem ok_Mo_perform : okC m_Mo_perform = true := okS_all (n := 69) (okS_join (ok_Mo_perform_0) ok_Mo_perform_1) rfl
theorem oh_Mo_perform : okH m_Mo_perform = true := by decide +kernel
theorem ok_Mo_plain_0 : okS m_Mo_plain 0 60 = true := by decide +kernel
theorem ok_Mo_plain_1 : okS m_Mo_plain 60 60 = true := by decide +kernel
theorem ok_Mo_plain_2 : okS m_Mo_plain 120 30 = true := by decide +kernel
theorem ok_Mo_plain : okC m_Mo_plain = true := okS_all (n := 150) (okS_join (okS_join (ok_Mo_plain_0) ok_Mo_plain_1) ok_Mo_plain_2) rfl
theorem oh_Mo_plain : okH m_Mo_plain = true := by decide +kernel
theorem ok_Mo_put_0 : okS m_Mo_put 0 38 = true := by decide +kernel
theorem ok_Mo_put : okC m_Mo_put = true := okS_all (n := 38) (ok_Mo_put_0) rfl
theorem oh_Mo_put : okH m_Mo_put = true := by decide +kernel
theorem ok_Mo_putCell_0 : okS m_Mo_putCell 0 13 = true := by decide +kernel
theorem ok_Mo_putCell : okC m_Mo_putCell = true := okS_all (n := 13) (ok_Mo_putCell_0) rfl
theorem oh_Mo_putCell : okH m_Mo_putCell = true := by decide +kernel
theorem ok_Mo_get_0 : okS m_Mo_get 0 38 = true := by decide +kernel
theorem ok_Mo_get : okC m_Mo_get = true := okS_all (n := 38) (ok_Mo_get_0) rfl
theorem oh_Mo_get : okH m_Mo_get = true := by decide +kernel
theorem ok_Mo_setCell_0 : okS m_Mo_setCell 0 14 = true := by decide +kernel
theorem ok_Mo_setCell : okC m_Mo_setCell = true := okS_all (n := 14) (ok_Mo_setCell_0) rfl
theorem oh_Mo_setCell : okH m_Mo_setCell = true := by decide +kernel
theorem ok_Mo_reckon_0 : okS m_Mo_reckon 0 47 = true := by decide +kernel
theorem ok_Mo_reckon : okC m_Mo_reckon = true := okS_all (n := 47) (ok_Mo_reckon_0) rfl
theorem oh_Mo_reckon : okH m_Mo_reckon = true := by decide +kernel
theorem ok_Mo_work_0 : okS m_Mo_work 0 60 = true := by decide +kernel
theorem ok_Mo_work_1 : okS m_Mo_work 60 60 = true := by decide +kernel
theorem ok_Mo_work_2 : okS m_Mo_work 120 60 = true := by decide +kernel
theorem ok_Mo_work_3 : okS m_Mo_work 180 45 = true := by decide +kernel
theorem ok_Mo_work : okC m_Mo_work = true := okS_all (n := 225) (okS_join (okS_join (okS_join (ok_Mo_work_0) ok_Mo_work_1) ok_Mo_work_2) ok_Mo_work_3) rfl
theorem oh_Mo_work : okH m_Mo_work = true := by decide +kernel
theorem ok_Mo_create_0 : okS m_Mo_create 0 49 = true := by decide +kernel
theorem ok_Mo_create : okC m_Mo_create = true := okS_all (n := 49) (ok_Mo_create_0) rfl
theorem oh_Mo_create : okH m_Mo_create = true := by decide +kernel
theorem ok_Mo_make_0 : okS m_Mo_make 0 57 = true := by decide +kernel
theorem ok_Mo_make : okC m_Mo_make = true := okS_all (n := 57) (ok_Mo_make_0) rfl
theorem oh_Mo_make : okH m_Mo_make = true := by decide +kernel
theorem ok_Mo_cellOf_0 : okS m_Mo_cellOf 0 33 = true := by decide +kernel
theorem ok_Mo_cellOf : okC m_Mo_cellOf = true := okS_all (n := 33) (ok_Mo_cellOf_0) rfl
theorem oh_Mo_cellOf : okH m_Mo_cellOf = true := by decide +kernel
theorem ok_Mo_putPlace_0 : okS m_Mo_putPlace 0 7 = true := by decide +kernel
theorem ok_Mo_putPlace : okC m_Mo_putPlace = true := okS_all (n := 7) (ok_Mo_putPlace_0) rfl
theorem oh_Mo_putPlace : okH m_Mo_putPlace = true := by decide +kernel
theorem ok_Mo_control_0 : okS m_Mo_control 0 30 = true := by decide +kernel
theorem ok_Mo_control : okC m_Mo_control = true := okS_all (n := 30) (ok_Mo_control_0) rfl
theorem oh_Mo_control : okH m_Mo_control = true := by decide +kernel
theorem ok_Mo_call_0 : okS m_Mo_call 0 51 = true := by decide +kernel
theorem ok_Mo_call : okC m_Mo_call = true := okS_all (n := 51) (ok_Mo_call_0) rfl
theorem oh_Mo_call : okH m_Mo_call = true := by decide +kernel
theorem ok_Mo_finish_0 : okS m_Mo_finish 0 47 = true := by decide +kernel
theorem ok_Mo_finish : okC m_Mo_finish = true := okS_all (n := 47) (ok_Mo_finish_0) rfl
theorem oh_Mo_finish : okH m_Mo_finish = true := by decide +kernel
theorem ok_Mo_raise_0 : okS m_Mo_raise 0 7 = true := by decide +kernel
theorem ok_Mo_raise : okC m_Mo_raise = true := okS_all (n := 7) (ok_Mo_raise_0) rfl
theorem oh_Mo_raise : okH m_Mo_raise = true := by decide +kernel
theorem ok_Mo_raiseBehind_0 : okS m_Mo_raiseBehind 0 60 = true := by decide +kernel
theorem ok_Mo_raiseBehind_1 : okS m_Mo_raiseBehind 60 27 = true := by decide +kernel
theorem ok_Mo_raiseBehind : okC m_Mo_raiseBehind = true := okS_all (n := 87) (okS_join (ok_Mo_raiseBehind_0) ok_Mo_raiseBehind_1) rfl
theorem oh_Mo_raiseBehind : okH m_Mo_raiseBehind = true := by decide +kernel
theorem ok_Mo_handle_0 : okS m_Mo_handle 0 60 = true := by decide +kernel
theorem ok_Mo_handle_1 : okS m_Mo_handle 60 16 = true := by decide +kernel
theorem ok_Mo_handle : okC m_Mo_handle = true := okS_all (n := 76) (okS_join (ok_Mo_handle_0) ok_Mo_handle_1) rfl
theorem oh_Mo_handle : okH m_Mo_handle = true := by decide +kernel
theorem ok_Mo_drop_0 : okS m_Mo_drop 0 44 = true := by decide +kernel
theorem ok_Mo_drop : okC m_Mo_drop = true := okS_all (n := 44) (ok_Mo_drop_0) rfl
theorem oh_Mo_drop : okH m_Mo_drop = true := by decide +kernel
theorem ok_Mo_leave_0 : okS m_Mo_leave 0 7 = true := by decide +kernel
theorem ok_Mo_leave : okC m_Mo_leave = true := okS_all (n := 7) (ok_Mo_leave_0) rfl
theorem oh_Mo_leave : okH m_Mo_leave = true := by decide +kernel
theorem ok_Mo_leaveBehind_0 : okS m_Mo_leaveBehind 0 60 = true := by decide +kernel
theorem ok_Mo_leaveBehind_1 : okS m_Mo_leaveBehind 60 18 = true := by decide +kernel
theorem ok_Mo_leaveBehind : okC m_Mo_leaveBehind = true := okS_all (n := 78) (okS_join (ok_Mo_leaveBehind_0) ok_Mo_leaveBehind_1) rfl
theorem oh_Mo_leaveBehind : okH m_Mo_leaveBehind = true := by decide +kernel
theorem ok_Mo_goOn_0 : okS m_Mo_goOn 0 58 = true := by decide +kernel
theorem ok_Mo_goOn : okC m_Mo_goOn = true := okS_all (n := 58) (ok_Mo_goOn_0) rfl
theorem oh_Mo_goOn : okH m_Mo_goOn = true := by decide +kernel
theorem ok_Mo_state_0 : okS m_Mo_state 0 3 = true := by decide +kernel
theorem ok_Mo_state : okC m_Mo_state = true := okS_all (n := 3) (ok_Mo_state_0) rfl
theorem oh_Mo_state : okH m_Mo_state = true := by decide +kernel
theorem ok_Mo_result_0 : okS m_Mo_result 0 9 = true := by decide +kernel
theorem ok_Mo_result : okC m_Mo_result = true := okS_all (n := 9) (ok_Mo_result_0) rfl
theorem oh_Mo_result : okH m_Mo_result = true := by decide +kernel
theorem ok_Mo_look_0 : okS m_Mo_look 0 54 = true := by decide +kernel
theorem ok_Mo_look : okC m_Mo_look = true := okS_all (n := 54) (ok_Mo_look_0) rfl
theorem oh_Mo_look : okH m_Mo_look = true := by decide +kernel
theorem ok_Mo_peek_0 : okS m_Mo_peek 0 35 = true := by decide +kernel
theorem ok_Mo_peek : okC m_Mo_peek = true := okS_all (n := 35) (ok_Mo_peek_0) rfl
theorem oh_Mo_peek : okH m_Mo_peek = true := by decide +kernel
theorem ok_Mo_entered_0 : okS m_Mo_entered 0 28 = true := by decide +kernel
theorem ok_Mo_entered : okC m_Mo_entered = true := okS_all (n := 28) (ok_Mo_entered_0) rfl
theorem oh_Mo_entered : okH m_Mo_entered = true := by decide +kernel
theorem ok_Op_isKnown_0 : okS m_Op_isKnown 0 9 = true := by decide +kernel
theorem ok_Op_isKnown : okC m_Op_isKnown = true := okS_all (n := 9) (ok_Op_isKnown_0) rfl
theorem oh_Op_isKnown : okH m_Op_isKnown = true := by decide +kernel
theorem ok_Op_width_0 : okS m_Op_width 0 34 = true := by decide +kernel
theorem ok_Op_width : okC m_Op_width = true := okS_all (n := 34) (ok_Op_width_0) rfl
theorem oh_Op_width : okH m_Op_width = true := by decide +kernel
theorem ok_Op_signed_0 : okS m_Op_signed 0 9 = true := by decide +kernel
theorem ok_Op_signed : okC m_Op_signed = true := okS_all (n := 9) (ok_Op_signed_0) rfl
theorem oh_Op_signed : okH m_Op_signed = true := by decide +kernel
theorem ok_Op_jumps_0 : okS m_Op_jumps 0 13 = true := by decide +kernel
theorem ok_Op_jumps : okC m_Op_jumps = true := okS_all (n := 13) (ok_Op_jumps_0) rfl
theorem oh_Op_jumps : okH m_Op_jumps = true := by decide +kernel
theorem ok_Op_goesBehind_0 : okS m_Op_goesBehind 0 10 = true := by decide +kernel
theorem ok_Op_goesBehind : okC m_Op_goesBehind = true := okS_all (n := 10) (ok_Op_goesBehind_0) rfl
theorem oh_Op_goesBehind : okH m_Op_goesBehind = true := by decide +kernel
theorem ok_Rd_init_0 : okS m_Rd_init 0 7 = true := by decide +kernel
theorem ok_Rd_init : okC m_Rd_init = true := okS_all (n := 7) (ok_Rd_init_0) rfl
theorem oh_Rd_init : okH m_Rd_init = true := by decide +kernel
theorem ok_Rd_readInto_0 : okS m_Rd_readInto 0 56 = true := by decide +kernel
theorem ok_Rd_readInto : okC m_Rd_readInto = true := okS_all (n := 56) (ok_Rd_readInto_0) rfl
theorem oh_Rd_readInto : okH m_Rd_readInto = true := by decide +kernel
theorem ok_Rd_number_0 : okS m_Rd_number 0 32 = true := by decide +kernel
theorem ok_Rd_number : okC m_Rd_number = true := okS_all (n := 32) (ok_Rd_number_0) rfl
theorem oh_Rd_number : okH m_Rd_number = true := by decide +kernel
theorem ok_Rd_readClasses_0 : okS m_Rd_readClasses 0 44 = true := by decide +kernel
theorem ok_Rd_readClasses : okC m_Rd_readClasses = true := okS_all (n := 44) (ok_Rd_readClasses_0) rfl
theorem oh_Rd_readClasses : okH m_Rd_readClasses = true := by decide +kernel
theorem ok_Rd_keptType_0 : okS m_Rd_keptType 0 20 = true := by decide +kernel
theorem ok_Rd_keptType : okC m_Rd_keptType = true := okS_all (n := 20) (ok_Rd_keptType_0) rfl
theorem oh_Rd_keptType : okH m_Rd_keptType = true := by decide +kernel
theorem ok_Rd_readMethod_0 : okS m_Rd_readMethod 0 60 = true := by decide +kernel
theorem ok_Rd_readMethod_1 : okS m_Rd_readMethod 60 48 = true := by decide +kernel
theorem ok_Rd_readMethod : okC m_Rd_readMethod = true := okS_all (n := 108) (okS_join (ok_Rd_readMethod_0) ok_Rd_readMethod_1) rfl
theorem oh_Rd_readMethod : okH m_Rd_readMethod = true := by decide +kernel
theorem ok_Rd_nextIs_0 : okS m_Rd_nextIs 0 16 = true := by decide +kernel
theorem ok_Rd_nextIs : okC m_Rd_nextIs = true := okS_all (n := 16) (ok_Rd_nextIs_0) rfl
theorem oh_Rd_nextIs : okH m_Rd_nextIs = true := by decide +kernel
theorem ok_Rd_readRegion_0 : okS m_Rd_readRegion 0 30 = true := by decide +kernel
theorem ok_Rd_readRegion : okC m_Rd_readRegion = true := okS_all (n := 30) (ok_Rd_readRegion_0) rfl
theorem oh_Rd_readRegion : okH m_Rd_readRegion = true := by decide +kernel
theorem ok_Rg_init_0 : okS m_Rg_init 0 3 = true := by decide +kernel
theorem ok_Rg_init : okC m_Rg_init = true := okS_all (n := 3) (ok_Rg_init_0) rfl
theorem oh_Rg_init : okH m_Rg_init = true := by decide +kernel
theorem ok_Rg_isApartFromOrWithin_0 : okS m_Rg_isApartFromOrWithin 0 52 = true := by decide +kernel
theorem ok_Rg_isApartFromOrWithin : okC m_Rg_isApartFromOrWithin = true := okS_all (n := 52) (ok_Rg_isApartFromOrWithin_0) rfl
theorem oh_Rg_isApartFromOrWithin : okH m_Rg_isApartFromOrWithin = true := by decide +kernel
theorem ok_Rg_keeps_0 : okS m_Rg_keeps 0 12 = true := by decide +kernel
theorem ok_Rg_keeps : okC m_Rg_keeps = true := okS_all (n := 12) (ok_Rg_keeps_0) rfl
theorem oh_Rg_keeps : okH m_Rg_keeps = true := by decide +kernel
theorem ok_Rg_handles_0 : okS m_Rg_handles 0 12 = true := by decide +kernel
theorem ok_Rg_handles : okC m_Rg_handles = true := okS_all (n := 12) (ok_Rg_handles_0) rfl
theorem oh_Rg_handles : okH m_Rg_handles = true := by decide +kernel
theorem ok_Ru_init_0 : okS m_Ru_init 0 46 = true := by decide +kernel
theorem ok_Ru_init : okC m_Ru_init = true := okS_all (n := 46) (ok_Ru_init_0) rfl
theorem oh_Ru_init : okH m_Ru_init = true := by decide +kernel
theorem ok_Ru_drop_0 : okS m_Ru_drop 0 7 = true := by decide +kernel
theorem ok_Ru_drop : okC m_Ru_drop = true := okS_all (n := 7) (ok_Ru_drop_0) rfl
theorem oh_Ru_drop : okH m_Ru_drop = true := by decide +kernel
theorem ok_Ru_begin_0 : okS m_Ru_begin 0 48 = true := by decide +kernel
theorem ok_Ru_begin : okC m_Ru_begin = true := okS_all (n := 48) (ok_Ru_begin_0) rfl
theorem oh_Ru_begin : okH m_Ru_begin = true := by decide +kernel
theorem ok_Ru_activate_0 : okS m_Ru_activate 0 42 = true := by decide +kernel
theorem ok_Ru_activate : okC m_Ru_activate = true := okS_all (n := 42) (ok_Ru_activate_0) rfl
theorem oh_Ru_activate : okH m_Ru_activate = true := by decide +kernel
theorem ok_Ru_latest_0 : okS m_Ru_latest 0 18 = true := by decide +kernel
theorem ok_Ru_latest : okC m_Ru_latest = true := okS_all (n := 18) (ok_Ru_latest_0) rfl
theorem oh_Ru_latest : okH m_Ru_latest = true := by decide +kernel
theorem ok_Ru_setCell_0 : okS m_Ru_setCell 0 13 = true := by decide +kernel
theorem ok_Ru_setCell : okC m_Ru_setCell = true := okS_all (n := 13) (ok_Ru_setCell_0) rfl
theorem oh_Ru_setCell : okH m_Ru_setCell = true := by decide +kernel
theorem ok_Ru_doInstruction_0 : okS m_Ru_doInstruction 0 60 = true := by decide +kernel
theorem ok_Ru_doInstruction_1 : okS m_Ru_doInstruction 60 11 = true := by decide +kernel
theorem ok_Ru_doInstruction : okC m_Ru_doInstruction = true := okS_all (n := 71) (okS_join (ok_Ru_doInstruction_0) ok_Ru_doInstruction_1) rfl
theorem oh_Ru_doInstruction : okH m_Ru_doInstruction = true := by decide +kernel
theorem ok_Ru_doSimple_0 : okS m_Ru_doSimple 0 60 = true := by decide +kernel
theorem ok_Ru_doSimple_1 : okS m_Ru_doSimple 60 33 = true := by decide +kernel
theorem ok_Ru_doSimple : okC m_Ru_doSimple = true := okS_all (n := 93) (okS_join (ok_Ru_doSimple_0) ok_Ru_doSimple_1) rfl
theorem oh_Ru_doSimple : okH m_Ru_doSimple = true := by decide +kernel
theorem ok_Ru_cell_0 : okS m_Ru_cell 0 14 = true := by decide +kernel
theorem ok_Ru_cell : okC m_Ru_cell = true := okS_all (n := 14) (ok_Ru_cell_0) rfl
theorem oh_Ru_cell : okH m_Ru_cell = true := by decide +kernel
theorem ok_Ru_compute_0 : okS m_Ru_compute 0 50 = true := by decide +kernel
theorem ok_Ru_compute : okC m_Ru_compute = true := okS_all (n := 50) (ok_Ru_compute_0) rfl
theorem oh_Ru_compute : okH m_Ru_compute = true := by decide +kernel
theorem ok_Ru_raise_0 : okS m_Ru_raise 0 8 = true := by decide +kernel
theorem ok_Ru_raise : okC m_Ru_raise = true := okS_all (n := 8) (ok_Ru_raise_0) rfl
theorem oh_Ru_raise : okH m_Ru_raise = true := by decide +kernel
theorem ok_Ru_raiseFrom_0 : okS m_Ru_raiseFrom 0 14 = true := by decide +kernel
theorem ok_Ru_raiseFrom : okC m_Ru_raiseFrom = true := okS_all (n := 14) (ok_Ru_raiseFrom_0) rfl
theorem oh_Ru_raiseFrom : okH m_Ru_raiseFrom = true := by decide +kernel
theorem ok_Ru_jump_0 : okS m_Ru_jump 0 17 = true := by decide +kernel
theorem ok_Ru_jump : okC m_Ru_jump = true := okS_all (n := 17) (ok_Ru_jump_0) rfl
theorem oh_Ru_jump : okH m_Ru_jump = true := by decide +kernel
theorem ok_Ru_jumpIfLess_0 : okS m_Ru_jumpIfLess 0 16 = true := by decide +kernel
theorem ok_Ru_jumpIfLess : okC m_Ru_jumpIfLess = true := okS_all (n := 16) (ok_Ru_jumpIfLess_0) rfl
theorem oh_Ru_jumpIfLess : okH m_Ru_jumpIfLess = true := by decide +kernel
theorem ok_Ru_doThing_0 : okS m_Ru_doThing 0 33 = true := by decide +kernel
theorem ok_Ru_doThing : okC m_Ru_doThing = true := okS_all (n := 33) (ok_Ru_doThing_0) rfl
theorem oh_Ru_doThing : okH m_Ru_doThing = true := by decide +kernel
theorem ok_Ru_make_0 : okS m_Ru_make 0 44 = true := by decide +kernel
theorem ok_Ru_make : okC m_Ru_make = true := okS_all (n := 44) (ok_Ru_make_0) rfl
theorem oh_Ru_make : okH m_Ru_make = true := by decide +kernel
theorem ok_Ru_addressIn_0 : okS m_Ru_addressIn 0 10 = true := by decide +kernel
theorem ok_Ru_addressIn : okC m_Ru_addressIn = true := okS_all (n := 10) (ok_Ru_addressIn_0) rfl
theorem oh_Ru_addressIn : okH m_Ru_addressIn = true := by decide +kernel
theorem ok_Ru_doField_0 : okS m_Ru_doField 0 42 = true := by decide +kernel
theorem ok_Ru_doField : okC m_Ru_doField = true := okS_all (n := 42) (ok_Ru_doField_0) rfl
theorem oh_Ru_doField : okH m_Ru_doField = true := by decide +kernel
theorem ok_Ru_makeArray_0 : okS m_Ru_makeArray 0 17 = true := by decide +kernel
theorem ok_Ru_makeArray : okC m_Ru_makeArray = true := okS_all (n := 17) (ok_Ru_makeArray_0) rfl
theorem oh_Ru_makeArray : okH m_Ru_makeArray = true := by decide +kernel
theorem ok_Ru_pushSize_0 : okS m_Ru_pushSize 0 17 = true := by decide +kernel
theorem ok_Ru_pushSize : okC m_Ru_pushSize = true := okS_all (n := 17) (ok_Ru_pushSize_0) rfl
theorem oh_Ru_pushSize : okH m_Ru_pushSize = true := by decide +kernel
theorem ok_Ru_itemCount_0 : okS m_Ru_itemCount 0 15 = true := by decide +kernel
theorem ok_Ru_itemCount : okC m_Ru_itemCount = true := okS_all (n := 15) (ok_Ru_itemCount_0) rfl
theorem oh_Ru_itemCount : okH m_Ru_itemCount = true := by decide +kernel
theorem ok_Ru_doItem_0 : okS m_Ru_doItem 0 56 = true := by decide +kernel
theorem ok_Ru_doItem : okC m_Ru_doItem = true := okS_all (n := 56) (ok_Ru_doItem_0) rfl
theorem oh_Ru_doItem : okH m_Ru_doItem = true := by decide +kernel
theorem ok_Ru_doValue_0 : okS m_Ru_doValue 0 57 = true := by decide +kernel
theorem ok_Ru_doValue : okC m_Ru_doValue = true := okS_all (n := 57) (ok_Ru_doValue_0) rfl
theorem oh_Ru_doValue : okH m_Ru_doValue = true := by decide +kernel
theorem ok_Ru_firstOf_0 : okS m_Ru_firstOf 0 5 = true := by decide +kernel
theorem ok_Ru_firstOf : okC m_Ru_firstOf = true := okS_all (n := 5) (ok_Ru_firstOf_0) rfl
theorem oh_Ru_firstOf : okH m_Ru_firstOf = true := by decide +kernel
theorem ok_Ru_makeBox_0 : okS m_Ru_makeBox 0 16 = true := by decide +kernel
theorem ok_Ru_makeBox : okC m_Ru_makeBox = true := okS_all (n := 16) (ok_Ru_makeBox_0) rfl
theorem oh_Ru_makeBox : okH m_Ru_makeBox = true := by decide +kernel
theorem ok_Ru_openBox_0 : okS m_Ru_openBox 0 15 = true := by decide +kernel
theorem ok_Ru_openBox : okC m_Ru_openBox = true := okS_all (n := 15) (ok_Ru_openBox_0) rfl
theorem oh_Ru_openBox : okH m_Ru_openBox = true := by decide +kernel
theorem ok_Ru_doFlow_0 : okS m_Ru_doFlow 0 34 = true := by decide +kernel
theorem ok_Ru_doFlow : okC m_Ru_doFlow = true := okS_all (n := 34) (ok_Ru_doFlow_0) rfl
theorem oh_Ru_doFlow : okH m_Ru_doFlow = true := by decide +kernel
theorem ok_Ru_call_0 : okS m_Ru_call 0 29 = true := by decide +kernel
theorem ok_Ru_call : okC m_Ru_call = true := okS_all (n := 29) (ok_Ru_call_0) rfl
theorem oh_Ru_call : okH m_Ru_call = true := by decide +kernel
theorem ok_Ru_giveBack_0 : okS m_Ru_giveBack 0 45 = true := by decide +kernel
theorem ok_Ru_giveBack : okC m_Ru_giveBack = true := okS_all (n := 45) (ok_Ru_giveBack_0) rfl
theorem oh_Ru_giveBack : okH m_Ru_giveBack = true := by decide +kernel
theorem ok_Ru_numberOf_0 : okS m_Ru_numberOf 0 14 = true := by decide +kernel
theorem ok_Ru_numberOf : okC m_Ru_numberOf = true := okS_all (n := 14) (ok_Ru_numberOf_0) rfl
theorem oh_Ru_numberOf : okH m_Ru_numberOf = true := by decide +kernel
theorem ok_Ru_end_0 : okS m_Ru_end 0 7 = true := by decide +kernel
theorem ok_Ru_end : okC m_Ru_end = true := okS_all (n := 7) (ok_Ru_end_0) rfl
theorem oh_Ru_end : okH m_Ru_end = true := by decide +kernel
theorem ok_Ru_leave_0 : okS m_Ru_leave 0 46 = true := by decide +kernel
theorem ok_Ru_leave : okC m_Ru_leave = true := okS_all (n := 46) (ok_Ru_leave_0) rfl
theorem oh_Ru_leave : okH m_Ru_leave = true := by decide +kernel
theorem ok_Ru_enter_0 : okS m_Ru_enter 0 32 = true := by decide +kernel
theorem ok_Ru_enter : okC m_Ru_enter = true := okS_all (n := 32) (ok_Ru_enter_0) rfl
theorem oh_Ru_enter : okH m_Ru_enter = true := by decide +kernel
theorem ok_Ru_finish_0 : okS m_Ru_finish 0 56 = true := by decide +kernel
theorem ok_Ru_finish : okC m_Ru_finish = true := okS_all (n := 56) (ok_Ru_finish_0) rfl
theorem oh_Ru_finish : okH m_Ru_finish = true := by decide +kernel
theorem ok_Ru_throwOn_0 : okS m_Ru_throwOn 0 39 = true := by decide +kernel
theorem ok_Ru_throwOn : okC m_Ru_throwOn = true := okS_all (n := 39) (ok_Ru_throwOn_0) rfl
theorem oh_Ru_throwOn : okH m_Ru_throwOn = true := by decide +kernel
theorem ok_Ru_handle_0 : okS m_Ru_handle 0 48 = true := by decide +kernel
theorem ok_Ru_handle : okC m_Ru_handle = true := okS_all (n := 48) (ok_Ru_handle_0) rfl
theorem oh_Ru_handle : okH m_Ru_handle = true := by decide +kernel
theorem ok_Ru_entriesOf_0 : okS m_Ru_entriesOf 0 27 = true := by decide +kernel
theorem ok_Ru_entriesOf : okC m_Ru_entriesOf = true := okS_all (n := 27) (ok_Ru_entriesOf_0) rfl
theorem oh_Ru_entriesOf : okH m_Ru_entriesOf = true := by decide +kernel
theorem ok_Rw_with_0 : okS m_Rw_with 0 21 = true := by decide +kernel
theorem ok_Rw_with : okC m_Rw_with = true := okS_all (n := 21) (ok_Rw_with_0) rfl
theorem oh_Rw_with : okH m_Rw_with = true := by decide +kernel
theorem ok_Rw_size_0 : okS m_Rw_size 0 15 = true := by decide +kernel
theorem ok_Rw_size : okC m_Rw_size = true := okS_all (n := 15) (ok_Rw_size_0) rfl
theorem oh_Rw_size : okH m_Rw_size = true := by decide +kernel
theorem ok_Rw_without_0 : okS m_Rw_without 0 29 = true := by decide +kernel
theorem ok_Rw_without : okC m_Rw_without = true := okS_all (n := 29) (ok_Rw_without_0) rfl
theorem oh_Rw_without : okH m_Rw_without = true := by decide +kernel
theorem ok_Rw_typeAt_0 : okS m_Rw_typeAt 0 15 = true := by decide +kernel
theorem ok_Rw_typeAt : okC m_Rw_typeAt = true := okS_all (n := 15) (ok_Rw_typeAt_0) rfl
theorem oh_Rw_typeAt : okH m_Rw_typeAt = true := by decide +kernel
theorem ok_Rw_top_0 : okS m_Rw_top 0 7 = true := by decide +kernel
theorem ok_Rw_top : okC m_Rw_top = true := okS_all (n := 7) (ok_Rw_top_0) rfl
theorem oh_Rw_top : okH m_Rw_top = true := by decide +kernel
theorem ok_TE_init_0 : okS m_TE_init 0 39 = true := by decide +kernel
theorem ok_TE_init : okC m_TE_init = true := okS_all (n := 39) (ok_TE_init_0) rfl
theorem oh_TE_init : okH m_TE_init = true := by decide +kernel
theorem ok_TE_draft_0 : okS m_TE_draft 0 42 = true := by decide +kernel
theorem ok_TE_draft : okC m_TE_draft = true := okS_all (n := 42) (ok_TE_draft_0) rfl
theorem oh_TE_draft : okH m_TE_draft = true := by decide +kernel
theorem ok_TE_clear_0 : okS m_TE_clear 0 4 = true := by decide +kernel
theorem ok_TE_clear : okC m_TE_clear = true := okS_all (n := 4) (ok_TE_clear_0) rfl
theorem oh_TE_clear : okH m_TE_clear = true := by decide +kernel
theorem ok_TE_load_0 : okS m_TE_load 0 48 = true := by decide +kernel
theorem ok_TE_load : okC m_TE_load = true := okS_all (n := 48) (ok_TE_load_0) rfl
theorem oh_TE_load : okH m_TE_load = true := by decide +kernel
theorem ok_TE_verified_0 : okS m_TE_verified 0 9 = true := by decide +kernel
theorem ok_TE_verified : okC m_TE_verified = true := okS_all (n := 9) (ok_TE_verified_0) rfl
theorem oh_TE_verified : okH m_TE_verified = true := by decide +kernel
theorem ok_TE_depth_0 : okS m_TE_depth 0 21 = true := by decide +kernel
theorem ok_TE_depth : okC m_TE_depth = true := okS_all (n := 21) (ok_TE_depth_0) rfl
theorem oh_TE_depth : okH m_TE_depth = true := by decide +kernel
theorem ok_TE_type_0 : okS m_TE_type 0 22 = true := by decide +kernel
theorem ok_TE_type : okC m_TE_type = true := okS_all (n := 22) (ok_TE_type_0) rfl
theorem oh_TE_type : okH m_TE_type = true := by decide +kernel
theorem ok_TE_start_0 : okS m_TE_start 0 27 = true := by decide +kernel
theorem ok_TE_start : okC m_TE_start = true := okS_all (n := 27) (ok_TE_start_0) rfl
theorem oh_TE_start : okH m_TE_start = true := by decide +kernel
theorem ok_TE_step_0 : okS m_TE_step 0 28 = true := by decide +kernel
theorem ok_TE_step : okC m_TE_step = true := okS_all (n := 28) (ok_TE_step_0) rfl
theorem oh_TE_step : okH m_TE_step = true := by decide +kernel
theorem ok_TE_state_0 : okS m_TE_state 0 4 = true := by decide +kernel
theorem ok_TE_state : okC m_TE_state = true := okS_all (n := 4) (ok_TE_state_0) rfl
theorem oh_TE_state : okH m_TE_state = true := by decide +kernel
theorem ok_TE_result_0 : okS m_TE_result 0 4 = true := by decide +kernel
theorem ok_TE_result : okC m_TE_result = true := okS_all (n := 4) (ok_TE_result_0) rfl
theorem oh_TE_result : okH m_TE_result = true := by decide +kernel
theorem ok_TE_look_0 : okS m_TE_look 0 41 = true := by decide +kernel
theorem ok_TE_look : okC m_TE_look = true := okS_all (n := 41) (ok_TE_look_0) rfl
theorem oh_TE_look : okH m_TE_look = true := by decide +kernel
theorem ok_TE_peek_0 : okS m_TE_peek 0 29 = true := by decide +kernel
theorem ok_TE_peek : okC m_TE_peek = true := okS_all (n := 29) (ok_TE_peek_0) rfl
theorem oh_TE_peek : okH m_TE_peek = true := by decide +kernel
theorem ok_TE_entered_0 : okS m_TE_entered 0 17 = true := by decide +kernel
theorem ok_TE_entered : okC m_TE_entered = true := okS_all (n := 17) (ok_TE_entered_0) rfl
theorem oh_TE_entered : okH m_TE_entered = true := by decide +kernel
theorem ok_Vf_init_0 : okS m_Vf_init 0 20 = true := by decide +kernel
theorem ok_Vf_init : okC m_Vf_init = true := okS_all (n := 20) (ok_Vf_init_0) rfl
theorem oh_Vf_init : okH m_Vf_init = true := by decide +kernel
theorem ok_Vf_verify_0 : okS m_Vf_verify 0 53 = true := by decide +kernel
theorem ok_Vf_verify : okC m_Vf_verify = true := okS_all (n := 53) (ok_Vf_verify_0) rfl
theorem oh_Vf_verify : okH m_Vf_verify = true := by decide +kernel
theorem ok_Vf_findBeginnings_0 : okS m_Vf_findBeginnings 0 58 = true := by decide +kernel
theorem ok_Vf_findBeginnings : okC m_Vf_findBeginnings = true := okS_all (n := 58) (ok_Vf_findBeginnings_0) rfl
theorem oh_Vf_findBeginnings : okH m_Vf_findBeginnings = true := by decide +kernel
theorem ok_Vf_areRegionsWellMade_0 : okS m_Vf_areRegionsWellMade 0 44 = true := by decide +kernel
theorem ok_Vf_areRegionsWellMade : okC m_Vf_areRegionsWellMade = true := okS_all (n := 44) (ok_Vf_areRegionsWellMade_0) rfl
theorem oh_Vf_areRegionsWellMade : okH m_Vf_areRegionsWellMade = true := by decide +kernel
theorem ok_Vf_isWellMade_0 : okS m_Vf_isWellMade 0 47 = true := by decide +kernel
theorem ok_Vf_isWellMade : okC m_Vf_isWellMade = true := okS_all (n := 47) (ok_Vf_isWellMade_0) rfl
theorem oh_Vf_isWellMade : okH m_Vf_isWellMade = true := by decide +kernel
theorem ok_Vf_beginsAt_0 : okS m_Vf_beginsAt 0 16 = true := by decide +kernel
theorem ok_Vf_beginsAt : okC m_Vf_beginsAt = true := okS_all (n := 16) (ok_Vf_beginsAt_0) rfl
theorem oh_Vf_beginsAt : okH m_Vf_beginsAt = true := by decide +kernel
theorem ok_Vf_reach_0 : okS m_Vf_reach 0 53 = true := by decide +kernel
theorem ok_Vf_reach : okC m_Vf_reach = true := okS_all (n := 53) (ok_Vf_reach_0) rfl
theorem oh_Vf_reach : okH m_Vf_reach = true := by decide +kernel
theorem ok_Vf_follow_0 : okS m_Vf_follow 0 60 = true := by decide +kernel
theorem ok_Vf_follow_1 : okS m_Vf_follow 60 14 = true := by decide +kernel
theorem ok_Vf_follow : okC m_Vf_follow = true := okS_all (n := 74) (okS_join (ok_Vf_follow_0) ok_Vf_follow_1) rfl
theorem oh_Vf_follow : okH m_Vf_follow = true := by decide +kernel
theorem ok_Vf_rowBehindSimple_0 : okS m_Vf_rowBehindSimple 0 60 = true := by decide +kernel
theorem ok_Vf_rowBehindSimple_1 : okS m_Vf_rowBehindSimple 60 8 = true := by decide +kernel
theorem ok_Vf_rowBehindSimple : okC m_Vf_rowBehindSimple = true := okS_all (n := 68) (okS_join (ok_Vf_rowBehindSimple_0) ok_Vf_rowBehindSimple_1) rfl
theorem oh_Vf_rowBehindSimple : okH m_Vf_rowBehindSimple = true := by decide +kernel
theorem ok_Vf_placeOf_0 : okS m_Vf_placeOf 0 7 = true := by decide +kernel
theorem ok_Vf_placeOf : okC m_Vf_placeOf = true := okS_all (n := 7) (ok_Vf_placeOf_0) rfl
theorem oh_Vf_placeOf : okH m_Vf_placeOf = true := by decide +kernel
theorem ok_Vf_withoutNumbers_0 : okS m_Vf_withoutNumbers 0 15 = true := by decide +kernel
theorem ok_Vf_withoutNumbers : okC m_Vf_withoutNumbers = true := okS_all (n := 15) (ok_Vf_withoutNumbers_0) rfl
theorem oh_Vf_withoutNumbers : okH m_Vf_withoutNumbers = true := by decide +kernel
theorem ok_Vf_rowBehindThing_0 : okS m_Vf_rowBehindThing 0 60 = true := by decide +kernel
theorem ok_Vf_rowBehindThing_1 : okS m_Vf_rowBehindThing 60 36 = true := by decide +kernel
theorem ok_Vf_rowBehindThing : okC m_Vf_rowBehindThing = true := okS_all (n := 96) (okS_join (ok_Vf_rowBehindThing_0) ok_Vf_rowBehindThing_1) rfl
theorem oh_Vf_rowBehindThing : okH m_Vf_rowBehindThing = true := by decide +kernel
theorem ok_Vf_rowBehindValue_0 : okS m_Vf_rowBehindValue 0 40 = true := by decide +kernel
theorem ok_Vf_rowBehindValue : okC m_Vf_rowBehindValue = true := okS_all (n := 40) (ok_Vf_rowBehindValue_0) rfl
theorem oh_Vf_rowBehindValue : okH m_Vf_rowBehindValue = true := by decide +kernel
theorem ok_Vf_rowBehindFlow_0 : okS m_Vf_rowBehindFlow 0 25 = true := by decide +kernel
theorem ok_Vf_rowBehindFlow : okC m_Vf_rowBehindFlow = true := okS_all (n := 25) (ok_Vf_rowBehindFlow_0) rfl
theorem oh_Vf_rowBehindFlow : okH m_Vf_rowBehindFlow = true := by decide +kernel
theorem ok_Vf_rowBehindCall_0 : okS m_Vf_rowBehindCall 0 46 = true := by decide +kernel
theorem ok_Vf_rowBehindCall : okC m_Vf_rowBehindCall = true := okS_all (n := 46) (ok_Vf_rowBehindCall_0) rfl
theorem oh_Vf_rowBehindCall : okH m_Vf_rowBehindCall = true := by decide +kernel
theorem ok_Vf_liesWhereItMay_0 : okS m_Vf_liesWhereItMay 0 36 = true := by decide +kernel
theorem ok_Vf_liesWhereItMay : okC m_Vf_liesWhereItMay = true := okS_all (n := 36) (ok_Vf_liesWhereItMay_0) rfl
theorem oh_Vf_liesWhereItMay : okH m_Vf_liesWhereItMay = true := by decide +kernel
theorem ok_Vf_reachHandlers_0 : okS m_Vf_reachHandlers 0 38 = true := by decide +kernel
theorem ok_Vf_reachHandlers : okC m_Vf_reachHandlers = true := okS_all (n := 38) (ok_Vf_reachHandlers_0) rfl
theorem oh_Vf_reachHandlers : okH m_Vf_reachHandlers = true := by decide +kernel
theorem ok_Vf_reachNext_0 : okS m_Vf_reachNext 0 51 = true := by decide +kernel
theorem ok_Vf_reachNext : okC m_Vf_reachNext = true := okS_all (n := 51) (ok_Vf_reachNext_0) rfl
theorem oh_Vf_reachNext : okH m_Vf_reachNext = true := by decide +kernel
theorem ok_Vf_mayLeave_0 : okS m_Vf_mayLeave 0 60 = true := by decide +kernel
theorem ok_Vf_mayLeave_1 : okS m_Vf_mayLeave 60 3 = true := by decide +kernel
theorem ok_Vf_mayLeave : okC m_Vf_mayLeave = true := okS_all (n := 63) (okS_join (ok_Vf_mayLeave_0) ok_Vf_mayLeave_1) rfl
theorem oh_Vf_mayLeave : okH m_Vf_mayLeave = true := by decide +kernel
theorem ok_Vf_goOn_0 : okS m_Vf_goOn 0 60 = true := by decide +kernel
theorem ok_Vf_goOn_1 : okS m_Vf_goOn 60 6 = true := by decide +kernel
theorem ok_Vf_goOn : okC m_Vf_goOn = true := okS_all (n := 66) (okS_join (ok_Vf_goOn_0) ok_Vf_goOn_1) rfl
theorem oh_Vf_goOn : okH m_Vf_goOn = true := by decide +kernel
theorem ok_all {M : Nat} {m : MI} (h : mts[M]? = some m) : okC m = true := by
  have h1 : ∀ x ∈ mts, okC x = true := by
    unfold mts
    simp only [List.forall_mem_cons, List.not_mem_nil, false_implies, implies_true, and_true]
    exact ⟨ok_La_law, ok_Fr_init, ok_Fr_begin, ok_Fr_setArgument, ok_Fr_push, ok_Fr_pop, ok_Fr_argument, ok_Fr_popInt, ok_Fr_valueAt, ok_Fr_keepPending, ok_Fr_forgetPending, ok_Im_init, ok_Im_canBeNull, ok_Im_hasClass, ok_Im_fieldType, ok_Im_method, ok_Im_verifiedMethod, ok_Im_callsVerifiedAlone, ok_Ma_min, ok_Me_init, ok_Me_codeAt, ok_Me_rowAt, ok_Me_localType, ok_Me_argumentType, ok_Me_partsAt, ok_Me_handlersAt, ok_Me_finallyAround, ok_Me_takesNumbersAlone, ok_Mo_init, ok_Mo_draft, ok_Mo_clear, ok_Mo_load, ok_Mo_scan, ok_Mo_next, ok_Mo_between, ok_Mo_typeOf, ok_Mo_scanMethod, ok_Mo_verify, ok_Mo_split, ok_Mo_op, ok_Mo_bytes, ok_Mo_wellMade, ok_Mo_isBeginning, ok_Mo_meet, ok_Mo_flow, ok_Mo_inPart, ok_Mo_simple, ok_Mo_push, ok_Mo_operand, ok_Mo_localAt, ok_Mo_need, ok_Mo_take, ok_Mo_pop, ok_Mo_argumentAt, ok_Mo_isObject, ok_Mo_things, ok_Mo_fieldAt, ok_Mo_taken, ok_Mo_calls, ok_Mo_innermost, ok_Mo_inHandler, ok_Mo_target, ok_Mo_signed, ok_Mo_leaves, ok_Mo_goes, ok_Mo_verified, ok_Mo_isGood, ok_Mo_depth, ok_Mo_type, ok_Mo_start, ok_Mo_allGood, ok_Mo_direct, ok_Mo_enter, ok_Mo_isReference, ok_Mo_step, ok_Mo_perform, ok_Mo_plain, ok_Mo_put, ok_Mo_putCell, ok_Mo_get, ok_Mo_setCell, ok_Mo_reckon, ok_Mo_work, ok_Mo_create, ok_Mo_make, ok_Mo_cellOf, ok_Mo_putPlace, ok_Mo_control, ok_Mo_call, ok_Mo_finish, ok_Mo_raise, ok_Mo_raiseBehind, ok_Mo_handle, ok_Mo_drop, ok_Mo_leave, ok_Mo_leaveBehind, ok_Mo_goOn, ok_Mo_state, ok_Mo_result, ok_Mo_look, ok_Mo_peek, ok_Mo_entered, ok_Op_isKnown, ok_Op_width, ok_Op_signed, ok_Op_jumps, ok_Op_goesBehind, ok_Rd_init, ok_Rd_readInto, ok_Rd_number, ok_Rd_readClasses, ok_Rd_keptType, ok_Rd_readMethod, ok_Rd_nextIs, ok_Rd_readRegion, ok_Rg_init, ok_Rg_isApartFromOrWithin, ok_Rg_keeps, ok_Rg_handles, ok_Ru_init, ok_Ru_drop, ok_Ru_begin, ok_Ru_activate, ok_Ru_latest, ok_Ru_setCell, ok_Ru_doInstruction, ok_Ru_doSimple, ok_Ru_cell, ok_Ru_compute, ok_Ru_raise, ok_Ru_raiseFrom, ok_Ru_jump, ok_Ru_jumpIfLess, ok_Ru_doThing, ok_Ru_make, ok_Ru_addressIn, ok_Ru_doField, ok_Ru_makeArray, ok_Ru_pushSize, ok_Ru_itemCount, ok_Ru_doItem, ok_Ru_doValue, ok_Ru_firstOf, ok_Ru_makeBox, ok_Ru_openBox, ok_Ru_doFlow, ok_Ru_call, ok_Ru_giveBack, ok_Ru_numberOf, ok_Ru_end, ok_Ru_leave, ok_Ru_enter, ok_Ru_finish, ok_Ru_throwOn, ok_Ru_handle, ok_Ru_entriesOf, ok_Rw_with, ok_Rw_size, ok_Rw_without, ok_Rw_typeAt, ok_Rw_top, ok_TE_init, ok_TE_draft, ok_TE_clear, ok_TE_load, ok_TE_verified, ok_TE_depth, ok_TE_type, ok_TE_start, ok_TE_step, ok_TE_state, ok_TE_result, ok_TE_look, ok_TE_peek, ok_TE_entered, ok_Vf_init, ok_Vf_verify, ok_Vf_findBeginnings, ok_Vf_areRegionsWellMade, ok_Vf_isWellMade, ok_Vf_beginsAt, ok_Vf_reach, ok_Vf_follow, ok_Vf_rowBehindSimple, ok_Vf_placeOf, ok_Vf_withoutNumbers, ok_Vf_rowBehindThing, ok_Vf_rowBehindValue, ok_Vf_rowBehindFlow, ok_Vf_rowBehindCall, ok_Vf_liesWhereItMay, ok_Vf_reachHandlers, ok_Vf_reachNext, ok_Vf_mayLeave, ok_Vf_goOn⟩
  exact h1 m (List.mem_of_getElem? h)
theorem oh_all {M : Nat} {m : MI} (h : mts[M]? = some m) (h0 : M ≠ 0) : okH m = true := by
  have h1 : ∀ x ∈ mts.drop 1, okH x = true := by
    show ∀ x ∈ [m_Fr_init, m_Fr_begin, m_Fr_setArgument, m_Fr_push, m_Fr_pop, m_Fr_argument, m_Fr_popInt, m_Fr_valueAt, m_Fr_keepPending, m_Fr_forgetPending, m_Im_init, m_Im_canBeNull, m_Im_hasClass, m_Im_fieldType, m_Im_method, m_Im_verifiedMethod, m_Im_callsVerifiedAlone, m_Ma_min, m_Me_init, m_Me_codeAt, m_Me_rowAt, m_Me_localType, m_Me_argumentType, m_Me_partsAt, m_Me_handlersAt, m_Me_finallyAround, m_Me_takesNumbersAlone, m_Mo_init, m_Mo_draft, m_Mo_clear, m_Mo_load, m_Mo_scan, m_Mo_next, m_Mo_between, m_Mo_typeOf, m_Mo_scanMethod, m_Mo_verify, m_Mo_split, m_Mo_op, m_Mo_bytes, m_Mo_wellMade, m_Mo_isBeginning, m_Mo_meet, m_Mo_flow, m_Mo_inPart, m_Mo_simple, m_Mo_push, m_Mo_operand, m_Mo_localAt, m_Mo_need, m_Mo_take, m_Mo_pop, m_Mo_argumentAt, m_Mo_isObject, m_Mo_things, m_Mo_fieldAt, m_Mo_taken, m_Mo_calls, m_Mo_innermost, m_Mo_inHandler, m_Mo_target, m_Mo_signed, m_Mo_leaves, m_Mo_goes, m_Mo_verified, m_Mo_isGood, m_Mo_depth, m_Mo_type, m_Mo_start, m_Mo_allGood, m_Mo_direct, m_Mo_enter, m_Mo_isReference, m_Mo_step, m_Mo_perform, m_Mo_plain, m_Mo_put, m_Mo_putCell, m_Mo_get, m_Mo_setCell, m_Mo_reckon, m_Mo_work, m_Mo_create, m_Mo_make, m_Mo_cellOf, m_Mo_putPlace, m_Mo_control, m_Mo_call, m_Mo_finish, m_Mo_raise, m_Mo_raiseBehind, m_Mo_handle, m_Mo_drop, m_Mo_leave, m_Mo_leaveBehind, m_Mo_goOn, m_Mo_state, m_Mo_result, m_Mo_look, m_Mo_peek, m_Mo_entered, m_Op_isKnown, m_Op_width, m_Op_signed, m_Op_jumps, m_Op_goesBehind, m_Rd_init, m_Rd_readInto, m_Rd_number, m_Rd_readClasses, m_Rd_keptType, m_Rd_readMethod, m_Rd_nextIs, m_Rd_readRegion, m_Rg_init, m_Rg_isApartFromOrWithin, m_Rg_keeps, m_Rg_handles, m_Ru_init, m_Ru_drop, m_Ru_begin, m_Ru_activate, m_Ru_latest, m_Ru_setCell, m_Ru_doInstruction, m_Ru_doSimple, m_Ru_cell, m_Ru_compute, m_Ru_raise, m_Ru_raiseFrom, m_Ru_jump, m_Ru_jumpIfLess, m_Ru_doThing, m_Ru_make, m_Ru_addressIn, m_Ru_doField, m_Ru_makeArray, m_Ru_pushSize, m_Ru_itemCount, m_Ru_doItem, m_Ru_doValue, m_Ru_firstOf, m_Ru_makeBox, m_Ru_openBox, m_Ru_doFlow, m_Ru_call, m_Ru_giveBack, m_Ru_numberOf, m_Ru_end, m_Ru_leave, m_Ru_enter, m_Ru_finish, m_Ru_throwOn, m_Ru_handle, m_Ru_entriesOf, m_Rw_with, m_Rw_size, m_Rw_without, m_Rw_typeAt, m_Rw_top, m_TE_init, m_TE_draft, m_TE_clear, m_TE_load, m_TE_verified, m_TE_depth, m_TE_type, m_TE_start, m_TE_step, m_TE_state, m_TE_result, m_TE_look, m_TE_peek, m_TE_entered, m_Vf_init, m_Vf_verify, m_Vf_findBeginnings, m_Vf_areRegionsWellMade, m_Vf_isWellMade, m_Vf_beginsAt, m_Vf_reach, m_Vf_follow, m_Vf_rowBehindSimple, m_Vf_placeOf, m_Vf_withoutNumbers, m_Vf_rowBehindThing, m_Vf_rowBehindValue, m_Vf_rowBehindFlow, m_Vf_rowBehindCall, m_Vf_liesWhereItMay, m_Vf_reachHandlers, m_Vf_reachNext, m_Vf_mayLeave, m_Vf_goOn], okH x = true
    simp only [List.forall_mem_cons, List.not_mem_nil, false_implies, implies_true, and_true]
    exact ⟨oh_Fr_init, oh_Fr_begin, oh_Fr_setArgument, oh_Fr_push, oh_Fr_pop, oh_Fr_argument, oh_Fr_popInt, oh_Fr_valueAt, oh_Fr_keepPending, oh_Fr_forgetPending, oh_Im_init, oh_Im_canBeNull, oh_Im_hasClass, oh_Im_fieldType, oh_Im_method, oh_Im_verifiedMethod, oh_Im_callsVerifiedAlone, oh_Ma_min, oh_Me_init, oh_Me_codeAt, oh_Me_rowAt, oh_Me_localType, oh_Me_argumentType, oh_Me_partsAt, oh_Me_handlersAt, oh_Me_finallyAround, oh_Me_takesNumbersAlone, oh_Mo_init, oh_Mo_draft, oh_Mo_clear, oh_Mo_load, oh_Mo_scan, oh_Mo_next, oh_Mo_between, oh_Mo_typeOf, oh_Mo_scanMethod, oh_Mo_verify, oh_Mo_split, oh_Mo_op, oh_Mo_bytes, oh_Mo_wellMade, oh_Mo_isBeginning, oh_Mo_meet, oh_Mo_flow, oh_Mo_inPart, oh_Mo_simple, oh_Mo_push, oh_Mo_operand, oh_Mo_localAt, oh_Mo_need, oh_Mo_take, oh_Mo_pop, oh_Mo_argumentAt, oh_Mo_isObject, oh_Mo_things, oh_Mo_fieldAt, oh_Mo_taken, oh_Mo_calls, oh_Mo_innermost, oh_Mo_inHandler, oh_Mo_target, oh_Mo_signed, oh_Mo_leaves, oh_Mo_goes, oh_Mo_verified, oh_Mo_isGood, oh_Mo_depth, oh_Mo_type, oh_Mo_start, oh_Mo_allGood, oh_Mo_direct, oh_Mo_enter, oh_Mo_isReference, oh_Mo_step, oh_Mo_perform, oh_Mo_plain, oh_Mo_put, oh_Mo_putCell, oh_Mo_get, oh_Mo_setCell, oh_Mo_reckon, oh_Mo_work, oh_Mo_create, oh_Mo_make, oh_Mo_cellOf, oh_Mo_putPlace, oh_Mo_control, oh_Mo_call, oh_Mo_finish, oh_Mo_raise, oh_Mo_raiseBehind, oh_Mo_handle, oh_Mo_drop, oh_Mo_leave, oh_Mo_leaveBehind, oh_Mo_goOn, oh_Mo_state, oh_Mo_result, oh_Mo_look, oh_Mo_peek, oh_Mo_entered, oh_Op_isKnown, oh_Op_width, oh_Op_signed, oh_Op_jumps, oh_Op_goesBehind, oh_Rd_init, oh_Rd_readInto, oh_Rd_number, oh_Rd_readClasses, oh_Rd_keptType, oh_Rd_readMethod, oh_Rd_nextIs, oh_Rd_readRegion, oh_Rg_init, oh_Rg_isApartFromOrWithin, oh_Rg_keeps, oh_Rg_handles, oh_Ru_init, oh_Ru_drop, oh_Ru_begin, oh_Ru_activate, oh_Ru_latest, oh_Ru_setCell, oh_Ru_doInstruction, oh_Ru_doSimple, oh_Ru_cell, oh_Ru_compute, oh_Ru_raise, oh_Ru_raiseFrom, oh_Ru_jump, oh_Ru_jumpIfLess, oh_Ru_doThing, oh_Ru_make, oh_Ru_addressIn, oh_Ru_doField, oh_Ru_makeArray, oh_Ru_pushSize, oh_Ru_itemCount, oh_Ru_doItem, oh_Ru_doValue, oh_Ru_firstOf, oh_Ru_makeBox, oh_Ru_openBox, oh_Ru_doFlow, oh_Ru_call, oh_Ru_giveBack, oh_Ru_numberOf, oh_Ru_end, oh_Ru_leave, oh_Ru_enter, oh_Ru_finish, oh_Ru_throwOn, oh_Ru_handle, oh_Ru_entriesOf, oh_Rw_with, oh_Rw_size, oh_Rw_without, oh_Rw_typeAt, oh_Rw_top, oh_TE_init, oh_TE_draft, oh_TE_clear, oh_TE_load, oh_TE_verified, oh_TE_depth, oh_TE_type, oh_TE_start, oh_TE_step, oh_TE_state, oh_TE_result, oh_TE_look, oh_TE_peek, oh_TE_entered, oh_Vf_init, oh_Vf_verify, oh_Vf_findBeginnings, oh_Vf_areRegionsWellMade, oh_Vf_isWellMade, oh_Vf_beginsAt, oh_Vf_reach, oh_Vf_follow, oh_Vf_rowBehindSimple, oh_Vf_placeOf, oh_Vf_withoutNumbers, oh_Vf_rowBehindThing, oh_Vf_rowBehindValue, oh_Vf_rowBehindFlow, oh_Vf_rowBehindCall, oh_Vf_liesWhereItMay, oh_Vf_reachHandlers, oh_Vf_reachNext, oh_Vf_mayLeave, oh_Vf_goOn⟩
  refine h1 m (List.mem_of_getElem? (i := M - 1) ?_)
  rw [List.getElem?_drop, show 1 + (M - 1) = M by omega]
  exact h
