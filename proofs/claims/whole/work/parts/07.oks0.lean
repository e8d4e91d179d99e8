/-! The code is as the tables have it: decided by the kernel, some instructions at a time. -/
def okS (m : MI) (a n : Nat) : Bool := ((m.2.2.2.2.2.1.drop a).take n).all (okI m.2.2.2.2.2.2.1 m.2.2.2.2.2.2.2 m.2.1 m.2.2.1 m.2.2.2.1)
theorem okS_join {m : MI} {n k : Nat} (b c : Nat) (hb : n = b) (hc : n + k = c) (h1 : okS m 0 n = true) (h2 : okS m b k = true) : okS m 0 c = true := by
  subst hb
  subst hc
  unfold okS at *
  rw [List.take_add, List.all_append, List.drop_zero, Bool.and_eq_true]
  rw [List.drop_zero] at h1
  exact ⟨h1, h2⟩
theorem okS_all {m : MI} {n : Nat} (h : okS m 0 n = true) (hn : m.2.2.2.2.2.1.length = n) : okC m = true := by
  unfold okS at h
  rw [List.drop_zero, List.take_of_length_le (by omega)] at h
  exact h
theorem ok_La_law_0 : okS m_La_law 0 60 = true := by decide +kernel
theorem ok_La_law_1 : okS m_La_law 60 60 = true := by decide +kernel
theorem ok_La_law_2 : okS m_La_law 120 60 = true := by decide +kernel
theorem ok_La_law_3 : okS m_La_law 180 60 = true := by decide +kernel
theorem ok_La_law_4 : okS m_La_law 240 59 = true := by decide +kernel
theorem ok_La_law : okC m_La_law = true := okS_all (n := 299) (okS_join 240 299 rfl rfl (okS_join 180 240 rfl rfl (okS_join 120 180 rfl rfl (okS_join 60 120 rfl rfl (ok_La_law_0) ok_La_law_1) ok_La_law_2) ok_La_law_3) ok_La_law_4) (by decide +kernel)
theorem ok_Fr_init_0 : okS m_Fr_init 0 29 = true := by decide +kernel
theorem ok_Fr_init : okC m_Fr_init = true := okS_all (n := 29) (ok_Fr_init_0) (by decide +kernel)
theorem ok_Fr_begin_0 : okS m_Fr_begin 0 25 = true := by decide +kernel
theorem ok_Fr_begin : okC m_Fr_begin = true := okS_all (n := 25) (ok_Fr_begin_0) (by decide +kernel)
theorem ok_Fr_setArgument_0 : okS m_Fr_setArgument 0 11 = true := by decide +kernel
theorem ok_Fr_setArgument : okC m_Fr_setArgument = true := okS_all (n := 11) (ok_Fr_setArgument_0) (by decide +kernel)
theorem ok_Fr_push_0 : okS m_Fr_push 0 20 = true := by decide +kernel
theorem ok_Fr_push : okC m_Fr_push = true := okS_all (n := 20) (ok_Fr_push_0) (by decide +kernel)
theorem ok_Fr_pop_0 : okS m_Fr_pop 0 21 = true := by decide +kernel
theorem ok_Fr_pop : okC m_Fr_pop = true := okS_all (n := 21) (ok_Fr_pop_0) (by decide +kernel)
theorem ok_Fr_argument_0 : okS m_Fr_argument 0 12 = true := by decide +kernel
theorem ok_Fr_argument : okC m_Fr_argument = true := okS_all (n := 12) (ok_Fr_argument_0) (by decide +kernel)
theorem ok_Fr_popInt_0 : okS m_Fr_popInt 0 4 = true := by decide +kernel
theorem ok_Fr_popInt : okC m_Fr_popInt = true := okS_all (n := 4) (ok_Fr_popInt_0) (by decide +kernel)
theorem ok_Fr_valueAt_0 : okS m_Fr_valueAt 0 16 = true := by decide +kernel
theorem ok_Fr_valueAt : okC m_Fr_valueAt = true := okS_all (n := 16) (ok_Fr_valueAt_0) (by decide +kernel)
theorem ok_Fr_keepPending_0 : okS m_Fr_keepPending 0 16 = true := by decide +kernel
theorem ok_Fr_keepPending : okC m_Fr_keepPending = true := okS_all (n := 16) (ok_Fr_keepPending_0) (by decide +kernel)
theorem ok_Fr_forgetPending_0 : okS m_Fr_forgetPending 0 32 = true := by decide +kernel
theorem ok_Fr_forgetPending : okC m_Fr_forgetPending = true := okS_all (n := 32) (ok_Fr_forgetPending_0) (by decide +kernel)
theorem ok_Im_init_0 : okS m_Im_init 0 29 = true := by decide +kernel
theorem ok_Im_init : okC m_Im_init = true := okS_all (n := 29) (ok_Im_init_0) (by decide +kernel)
theorem ok_Im_canBeNull_0 : okS m_Im_canBeNull 0 16 = true := by decide +kernel
theorem ok_Im_canBeNull : okC m_Im_canBeNull = true := okS_all (n := 16) (ok_Im_canBeNull_0) (by decide +kernel)
theorem ok_Im_hasClass_0 : okS m_Im_hasClass 0 10 = true := by decide +kernel
theorem ok_Im_hasClass : okC m_Im_hasClass = true := okS_all (n := 10) (ok_Im_hasClass_0) (by decide +kernel)
theorem ok_Im_fieldType_0 : okS m_Im_fieldType 0 31 = true := by decide +kernel
theorem ok_Im_fieldType : okC m_Im_fieldType = true := okS_all (n := 31) (ok_Im_fieldType_0) (by decide +kernel)
theorem ok_Im_method_0 : okS m_Im_method 0 13 = true := by decide +kernel
theorem ok_Im_method : okC m_Im_method = true := okS_all (n := 13) (ok_Im_method_0) (by decide +kernel)
theorem ok_Im_verifiedMethod_0 : okS m_Im_verifiedMethod 0 13 = true := by decide +kernel
theorem ok_Im_verifiedMethod : okC m_Im_verifiedMethod = true := okS_all (n := 13) (ok_Im_verifiedMethod_0) (by decide +kernel)
theorem ok_Im_callsVerifiedAlone_0 : okS m_Im_callsVerifiedAlone 0 45 = true := by decide +kernel
theorem ok_Im_callsVerifiedAlone : okC m_Im_callsVerifiedAlone = true := okS_all (n := 45) (ok_Im_callsVerifiedAlone_0) (by decide +kernel)
theorem ok_Me_init_0 : okS m_Me_init 0 37 = true := by decide +kernel
theorem ok_Me_init : okC m_Me_init = true := okS_all (n := 37) (ok_Me_init_0) (by decide +kernel)
theorem ok_Me_codeAt_0 : okS m_Me_codeAt 0 13 = true := by decide +kernel
theorem ok_Me_codeAt : okC m_Me_codeAt = true := okS_all (n := 13) (ok_Me_codeAt_0) (by decide +kernel)
theorem ok_Me_rowAt_0 : okS m_Me_rowAt 0 13 = true := by decide +kernel
theorem ok_Me_rowAt : okC m_Me_rowAt = true := okS_all (n := 13) (ok_Me_rowAt_0) (by decide +kernel)
theorem ok_Me_localType_0 : okS m_Me_localType 0 13 = true := by decide +kernel
theorem ok_Me_localType : okC m_Me_localType = true := okS_all (n := 13) (ok_Me_localType_0) (by decide +kernel)
theorem ok_Me_argumentType_0 : okS m_Me_argumentType 0 13 = true := by decide +kernel
theorem ok_Me_argumentType : okC m_Me_argumentType = true := okS_all (n := 13) (ok_Me_argumentType_0) (by decide +kernel)
theorem ok_Me_partsAt_0 : okS m_Me_partsAt 0 25 = true := by decide +kernel
theorem ok_Me_partsAt : okC m_Me_partsAt = true := okS_all (n := 25) (ok_Me_partsAt_0) (by decide +kernel)
theorem ok_Me_handlersAt_0 : okS m_Me_handlersAt 0 25 = true := by decide +kernel
theorem ok_Me_handlersAt : okC m_Me_handlersAt = true := okS_all (n := 25) (ok_Me_handlersAt_0) (by decide +kernel)
theorem ok_Me_finallyAround_0 : okS m_Me_finallyAround 0 36 = true := by decide +kernel
theorem ok_Me_finallyAround : okC m_Me_finallyAround = true := okS_all (n := 36) (ok_Me_finallyAround_0) (by decide +kernel)
theorem ok_Me_takesNumbersAlone_0 : okS m_Me_takesNumbersAlone 0 18 = true := by decide +kernel
theorem ok_Me_takesNumbersAlone : okC m_Me_takesNumbersAlone = true := okS_all (n := 18) (ok_Me_takesNumbersAlone_0) (by decide +kernel)
theorem ok_Mo_init_0 : okS m_Mo_init 0 60 = true := by decide +kernel
theorem ok_Mo_init_1 : okS m_Mo_init 60 60 = true := by decide +kernel
theorem ok_Mo_init_2 : okS m_Mo_init 120 11 = true := by decide +kernel
theorem ok_Mo_init : okC m_Mo_init = true := okS_all (n := 131) (okS_join 120 131 rfl rfl (okS_join 60 120 rfl rfl (ok_Mo_init_0) ok_Mo_init_1) ok_Mo_init_2) (by decide +kernel)
theorem ok_Mo_draft_0 : okS m_Mo_draft 0 44 = true := by decide +kernel
theorem ok_Mo_draft : okC m_Mo_draft = true := okS_all (n := 44) (ok_Mo_draft_0) (by decide +kernel)
theorem ok_Mo_clear_0 : okS m_Mo_clear 0 4 = true := by decide +kernel
theorem ok_Mo_clear : okC m_Mo_clear = true := okS_all (n := 4) (ok_Mo_clear_0) (by decide +kernel)
theorem ok_Mo_load_0 : okS m_Mo_load 0 28 = true := by decide +kernel
theorem ok_Mo_load : okC m_Mo_load = true := okS_all (n := 28) (ok_Mo_load_0) (by decide +kernel)
theorem ok_Mo_scan_0 : okS m_Mo_scan 0 60 = true := by decide +kernel
theorem ok_Mo_scan_1 : okS m_Mo_scan 60 59 = true := by decide +kernel
theorem ok_Mo_scan : okC m_Mo_scan = true := okS_all (n := 119) (okS_join 60 119 rfl rfl (ok_Mo_scan_0) ok_Mo_scan_1) (by decide +kernel)
