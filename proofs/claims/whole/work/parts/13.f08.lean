theorem f_Mo_control_0 : fetch 86 0 = some (.iload_n 3, 1, 0, 0, 0) := rfl
theorem f_Mo_control_1 : fetch 86 1 = some (.tableswitch 76 33 36 #[31, 43, 50, 62], 31, 77, 0, 0) := rfl
theorem f_Mo_control_32 : fetch 86 32 = some (.aload_n 0, 1, 0, 0, 0) := rfl
theorem f_Mo_control_33 : fetch 86 33 = some (.aload_n 0, 1, 0, 0, 0) := rfl
theorem f_Mo_control_34 : fetch 86 34 = some (.iload_n 2, 1, 0, 0, 0) := rfl
theorem f_Mo_control_35 : fetch 86 35 = some (.invokevirtual 157, 3, 47, 1, 61) := rfl
theorem f_Mo_control_38 : fetch 86 38 = some (.invokevirtual 330, 3, 87, 1, 93) := rfl
theorem f_Mo_control_41 : fetch 86 41 = some (.goto 42, 3, 83, 0, 0) := rfl
theorem f_Mo_control_44 : fetch 86 44 = some (.aload_n 0, 1, 0, 0, 0) := rfl
theorem f_Mo_control_45 : fetch 86 45 = some (.invokevirtual 333, 3, 88, 0, 94) := rfl
theorem f_Mo_control_48 : fetch 86 48 = some (.goto 35, 3, 83, 0, 0) := rfl
theorem f_Mo_control_51 : fetch 86 51 = some (.aload_n 0, 1, 0, 0, 0) := rfl
theorem f_Mo_control_52 : fetch 86 52 = some (.aload_n 0, 1, 0, 0, 0) := rfl
theorem f_Mo_control_53 : fetch 86 53 = some (.invokevirtual 308, 3, 78, 0, 86) := rfl
theorem f_Mo_control_56 : fetch 86 56 = some (.iload_n 2, 1, 0, 0, 0) := rfl
theorem f_Mo_control_57 : fetch 86 57 = some (.invokevirtual 302, 3, 89, 2, 83) := rfl
theorem f_Mo_control_60 : fetch 86 60 = some (.goto 23, 3, 83, 0, 0) := rfl
theorem f_Mo_control_63 : fetch 86 63 = some (.aload_n 0, 1, 0, 0, 0) := rfl
theorem f_Mo_control_64 : fetch 86 64 = some (.iload_n 2, 1, 0, 0, 0) := rfl
theorem f_Mo_control_65 : fetch 86 65 = some (.aload_n 0, 1, 0, 0, 0) := rfl
theorem f_Mo_control_66 : fetch 86 66 = some (.iload_n 2, 1, 0, 0, 0) := rfl
theorem f_Mo_control_67 : fetch 86 67 = some (.invokevirtual 217, 3, 60, 1, 57) := rfl
theorem f_Mo_control_70 : fetch 86 70 = some (.iconst 0, 1, 0, 0, 0) := rfl
theorem f_Mo_control_71 : fetch 86 71 = some (.invokevirtual 336, 3, 93, 3, 95) := rfl
theorem f_Mo_control_74 : fetch 86 74 = some (.goto 9, 3, 83, 0, 0) := rfl
theorem f_Mo_control_77 : fetch 86 77 = some (.aload_n 0, 1, 0, 0, 0) := rfl
theorem f_Mo_control_78 : fetch 86 78 = some (.iload_n 1, 1, 0, 0, 0) := rfl
theorem f_Mo_control_79 : fetch 86 79 = some (.iload_n 2, 1, 0, 0, 0) := rfl
theorem f_Mo_control_80 : fetch 86 80 = some (.invokevirtual 339, 3, 95, 2, 96) := rfl
theorem f_Mo_control_83 : fetch 86 83 = some (.return_, 1, 0, 0, 0) := rfl
def F_Mo_control_83   (σ : SG) : Option (SG) :=
  some σ
set_option maxHeartbeats 4000000 in
theorem w_Mo_control_83 {b d : Nat} {sc : SC} {pre tl : List PE} {B : Nat} {Q : Option Value → List PE → Prop} {res : SG} (hB : B = b + pre.length) (hd : 5 ≤ d)   (hQ : Q none (HH pre tl SHm B res)) (lv : LV) (σ : SG)   (hF : F_Mo_control_83   σ = some res) : Rn b sc d 86 83 lv [] (HH pre tl SHm B σ) Q := by
  obtain ⟨e0, rfl⟩ : ∃ e, d = e + 1 := ⟨d - 1, by omega⟩
  unfold F_Mo_control_83 at hF
  cases hF
  exact r_return f_Mo_control_83 hQ
def F_Mo_control (a0 : Nat) (a1 : Int32) (a2 : Int32) (a3 : Int32) (σ : SG) : Option (SG) :=
  if a3 = 33 then
  match F_Mo_operand (a0) (a2) σ with
  | none => none
  | some q2 =>
  match F_Mo_call (a0) (q2.1) q2.2 with
  | none => none
  | some q3 =>
  F_Mo_control_83 q3
  else if a3 = 34 then
  match F_Mo_finish (a0) σ with
  | none => none
  | some q5 =>
  F_Mo_control_83 q5
  else if a3 = 35 then
  match F_Mo_get (a0) σ with
  | none => none
  | some q7 =>
  match F_Mo_raise (a0) (q7.1) (a2) q7.2 with
  | none => none
  | some q8 =>
  F_Mo_control_83 q8
  else if a3 = 36 then
  match F_Mo_target (a0) (a2) σ with
  | none => none
  | some q10 =>
  match F_Mo_leave (a0) (a2) (q10.1) ((0 : Int32)) q10.2 with
  | none => none
  | some q11 =>
  F_Mo_control_83 q11
  else match F_Mo_goOn (a0) (a1) (a2) σ with
  | none => none
  | some q12 =>
  F_Mo_control_83 q12
set_option maxHeartbeats 4000000 in
theorem w_Mo_control {b d : Nat} {pre tl : List PE} {B : Nat} {Q : Option Value → List PE → Prop} {res : SG} (hB : B = b + pre.length) (hd : 5 ≤ d)  {σ : SG} (a0 : Nat) (a1 : Int32) (a2 : Int32) (a3 : Int32) (ha0 : isC SHm (a0) 8 = true) (hF : F_Mo_control a0 a1 a2 a3 σ = some res) (hQ : Q none (HH pre tl SHm B res)) : Cl b d 86 [.ref (B + (a0)), .int (a1), .int (a2), .int (a3)] (HH pre tl SHm B σ) Q := by
  obtain ⟨e0, rfl⟩ : ∃ e, d = e + 1 := ⟨d - 1, by omega⟩
  unfold Cl
  unfold F_Mo_control at hF
  refine r_iload_n f_Mo_control_0 rfl ?_
  by_cases c1 : a3 = 33
  · rw [if_pos c1] at hF
    refine r_tswI (t := 32) (off := 31) 0 f_Mo_control_1 (by rw [c1]; decide) (by rw [c1]; decide) (by rfl) (by decide) ?_
    refine r_aload_n f_Mo_control_32 rfl ?_
    refine r_aload_n f_Mo_control_33 rfl ?_
    refine r_iload_n f_Mo_control_34 rfl ?_
    cases hq2 : F_Mo_operand (a0) (a2) σ with
    | none => simp only [hq2] at hF; cases hF
    | some q2 =>
      simp only [hq2] at hF
      refine t_V1i hB ha0 rfl rfl f_Mo_control_35 (by decide) (Nat.le_of_ble_eq_true rfl) (Nat.le_of_ble_eq_true rfl) (w_Mo_operand hB  (a0) (a2) ha0 hq2 ⟨_, rfl, ?_⟩)
      cases hq3 : F_Mo_call (a0) (q2.1) q2.2 with
      | none => simp only [hq3] at hF; cases hF
      | some q3 =>
        simp only [hq3] at hF
        refine t_V1v hB ha0 rfl rfl f_Mo_control_38 (by decide) (Nat.le_of_ble_eq_true rfl) (Nat.le_of_ble_eq_true rfl) (w_Mo_call hB (by omega) (a0) (q2.1) ha0 hq3 ⟨rfl, ?_⟩)
        refine r_goto f_Mo_control_41 ?_
        exact w_Mo_control_83 hB hd  hQ _ (q3) hF
  rw [if_neg c1] at hF
  by_cases c4 : a3 = 34
  · rw [if_pos c4] at hF
    refine r_tswI (t := 44) (off := 43) 1 f_Mo_control_1 (by rw [c4]; decide) (by rw [c4]; decide) (by rfl) (by decide) ?_
    refine r_aload_n f_Mo_control_44 rfl ?_
    cases hq5 : F_Mo_finish (a0) σ with
    | none => simp only [hq5] at hF; cases hF
    | some q5 =>
      simp only [hq5] at hF
      refine t_V0v hB ha0 rfl rfl f_Mo_control_45 (by decide) (Nat.le_of_ble_eq_true rfl) (Nat.le_of_ble_eq_true rfl) (w_Mo_finish hB (by omega) (a0) ha0 hq5 ⟨rfl, ?_⟩)
      refine r_goto f_Mo_control_48 ?_
      exact w_Mo_control_83 hB hd  hQ _ (q5) hF
  rw [if_neg c4] at hF
  by_cases c6 : a3 = 35
  · rw [if_pos c6] at hF
    refine r_tswI (t := 51) (off := 50) 2 f_Mo_control_1 (by rw [c6]; decide) (by rw [c6]; decide) (by rfl) (by decide) ?_
    refine r_aload_n f_Mo_control_51 rfl ?_
    refine r_aload_n f_Mo_control_52 rfl ?_
    cases hq7 : F_Mo_get (a0) σ with
    | none => simp only [hq7] at hF; cases hF
    | some q7 =>
      simp only [hq7] at hF
      refine t_V0i hB ha0 rfl rfl f_Mo_control_53 (by decide) (Nat.le_of_ble_eq_true rfl) (Nat.le_of_ble_eq_true rfl) (w_Mo_get hB  (a0) ha0 hq7 ⟨_, rfl, ?_⟩)
      refine r_iload_n f_Mo_control_56 rfl ?_
      cases hq8 : F_Mo_raise (a0) (q7.1) (a2) q7.2 with
      | none => simp only [hq8] at hF; cases hF
      | some q8 =>
        simp only [hq8] at hF
        refine t_V2v hB ha0 rfl rfl f_Mo_control_57 (by decide) (Nat.le_of_ble_eq_true rfl) (Nat.le_of_ble_eq_true rfl) (w_Mo_raise hB (by omega) (a0) (q7.1) (a2) ha0 hq8 ⟨rfl, ?_⟩)
        refine r_goto f_Mo_control_60 ?_
        exact w_Mo_control_83 hB hd  hQ _ (q8) hF
  rw [if_neg c6] at hF
  by_cases c9 : a3 = 36
  · rw [if_pos c9] at hF
    refine r_tswI (t := 63) (off := 62) 3 f_Mo_control_1 (by rw [c9]; decide) (by rw [c9]; decide) (by rfl) (by decide) ?_
    refine r_aload_n f_Mo_control_63 rfl ?_
    refine r_iload_n f_Mo_control_64 rfl ?_
    refine r_aload_n f_Mo_control_65 rfl ?_
    refine r_iload_n f_Mo_control_66 rfl ?_
    cases hq10 : F_Mo_target (a0) (a2) σ with
    | none => simp only [hq10] at hF; cases hF
    | some q10 =>
      simp only [hq10] at hF
      refine t_V1i hB ha0 rfl rfl f_Mo_control_67 (by decide) (Nat.le_of_ble_eq_true rfl) (Nat.le_of_ble_eq_true rfl) (w_Mo_target hB (by omega) (a0) (a2) ha0 hq10 ⟨_, rfl, ?_⟩)
      refine r_iconst f_Mo_control_70 (v := 0) (by decide) ?_
      cases hq11 : F_Mo_leave (a0) (a2) (q10.1) ((0 : Int32)) q10.2 with
      | none => simp only [hq11] at hF; cases hF
      | some q11 =>
        simp only [hq11] at hF
        refine t_V3v hB ha0 rfl rfl f_Mo_control_71 (by decide) (Nat.le_of_ble_eq_true rfl) (Nat.le_of_ble_eq_true rfl) (w_Mo_leave hB (by omega) (a0) (a2) (q10.1) ((0 : Int32)) ha0 hq11 ⟨rfl, ?_⟩)
        refine r_goto f_Mo_control_74 ?_
        exact w_Mo_control_83 hB hd  hQ _ (q11) hF
  rw [if_neg c9] at hF
  refine r_tswO f_Mo_control_1 (by have zc1 := lv_neT c1 (by decide : (33 : Int32).toInt = 33); have zc4 := lv_neT c4 (by decide : (34 : Int32).toInt = 34); have zc6 := lv_neT c6 (by decide : (35 : Int32).toInt = 35); have zc9 := lv_neT c9 (by decide : (36 : Int32).toInt = 36); omega) ?_
  refine r_aload_n f_Mo_control_77 rfl ?_
  refine r_iload_n f_Mo_control_78 rfl ?_
  refine r_iload_n f_Mo_control_79 rfl ?_
  cases hq12 : F_Mo_goOn (a0) (a1) (a2) σ with
  | none => simp only [hq12] at hF; cases hF
  | some q12 =>
    simp only [hq12] at hF
    refine t_V2v hB ha0 rfl rfl f_Mo_control_80 (by decide) (Nat.le_of_ble_eq_true rfl) (Nat.le_of_ble_eq_true rfl) (w_Mo_goOn hB (by omega) (a0) (a1) (a2) ha0 hq12 ⟨rfl, ?_⟩)
    exact w_Mo_control_83 hB hd  hQ _ (q12) hF
theorem f_Mo_perform_0 : fetch 74 0 = some (.aload_n 0, 1, 0, 0, 0) := rfl
theorem f_Mo_perform_1 : fetch 74 1 = some (.getfield 275, 3, 8, 31, 71) := rfl
theorem f_Mo_perform_4 : fetch 74 4 = some (.iconst 1, 1, 0, 0, 0) := rfl
theorem f_Mo_perform_5 : fetch 74 5 = some (.isub, 1, 0, 0, 0) := rfl
theorem f_Mo_perform_6 : fetch 74 6 = some (.istore_n 1, 1, 0, 0, 0) := rfl
theorem f_Mo_perform_7 : fetch 74 7 = some (.aload_n 0, 1, 0, 0, 0) := rfl
theorem f_Mo_perform_8 : fetch 74 8 = some (.getfield 69, 3, 8, 32, 46) := rfl
theorem f_Mo_perform_11 : fetch 74 11 = some (.iload_n 1, 1, 0, 0, 0) := rfl
theorem f_Mo_perform_12 : fetch 74 12 = some (.iaload, 1, 0, 0, 0) := rfl
theorem f_Mo_perform_13 : fetch 74 13 = some (.istore_n 2, 1, 0, 0, 0) := rfl
theorem f_Mo_perform_14 : fetch 74 14 = some (.aload_n 0, 1, 0, 0, 0) := rfl
theorem f_Mo_perform_15 : fetch 74 15 = some (.getfield 72, 3, 8, 33, 47) := rfl
theorem f_Mo_perform_18 : fetch 74 18 = some (.iload_n 1, 1, 0, 0, 0) := rfl
theorem f_Mo_perform_19 : fetch 74 19 = some (.iaload, 1, 0, 0, 0) := rfl
theorem f_Mo_perform_20 : fetch 74 20 = some (.istore_n 3, 1, 0, 0, 0) := rfl
theorem f_Mo_perform_21 : fetch 74 21 = some (.aload_n 0, 1, 0, 0, 0) := rfl
theorem f_Mo_perform_22 : fetch 74 22 = some (.getfield 53, 3, 8, 19, 41) := rfl
theorem f_Mo_perform_25 : fetch 74 25 = some (.bipush 100, 2, 0, 0, 0) := rfl
theorem f_Mo_perform_27 : fetch 74 27 = some (.iload_n 2, 1, 0, 0, 0) := rfl
theorem f_Mo_perform_28 : fetch 74 28 = some (.imul, 1, 0, 0, 0) := rfl
theorem f_Mo_perform_29 : fetch 74 29 = some (.iload_n 3, 1, 0, 0, 0) := rfl
theorem f_Mo_perform_30 : fetch 74 30 = some (.iadd, 1, 0, 0, 0) := rfl
theorem f_Mo_perform_31 : fetch 74 31 = some (.iaload, 1, 0, 0, 0) := rfl
theorem f_Mo_perform_32 : fetch 74 32 = some (.istore 4, 2, 0, 0, 0) := rfl
theorem f_Mo_perform_34 : fetch 74 34 = some (.aload_n 0, 1, 0, 0, 0) := rfl
theorem f_Mo_perform_35 : fetch 74 35 = some (.iload_n 2, 1, 0, 0, 0) := rfl
theorem f_Mo_perform_36 : fetch 74 36 = some (.putfield 154, 3, 8, 24, 65) := rfl
theorem f_Mo_perform_39 : fetch 74 39 = some (.aload_n 0, 1, 0, 0, 0) := rfl
theorem f_Mo_perform_40 : fetch 74 40 = some (.getfield 72, 3, 8, 33, 47) := rfl
theorem f_Mo_perform_43 : fetch 74 43 = some (.iload_n 1, 1, 0, 0, 0) := rfl
theorem f_Mo_perform_44 : fetch 74 44 = some (.iload_n 3, 1, 0, 0, 0) := rfl
theorem f_Mo_perform_45 : fetch 74 45 = some (.iload 4, 2, 0, 0, 0) := rfl
theorem f_Mo_perform_47 : fetch 74 47 = some (.invokestatic 167, 3, 39, 1, 51) := rfl
theorem f_Mo_perform_50 : fetch 74 50 = some (.iadd, 1, 0, 0, 0) := rfl
theorem f_Mo_perform_51 : fetch 74 51 = some (.iastore, 1, 0, 0, 0) := rfl
theorem f_Mo_perform_52 : fetch 74 52 = some (.aload_n 0, 1, 0, 0, 0) := rfl
theorem f_Mo_perform_53 : fetch 74 53 = some (.iconst 0, 1, 0, 0, 0) := rfl
theorem f_Mo_perform_54 : fetch 74 54 = some (.putfield 287, 3, 8, 44, 72) := rfl
theorem f_Mo_perform_57 : fetch 74 57 = some (.iload 4, 2, 0, 0, 0) := rfl
theorem f_Mo_perform_59 : fetch 74 59 = some (.bipush 17, 2, 0, 0, 0) := rfl
theorem f_Mo_perform_61 : fetch 74 61 = some (.if_icmp .ge 14, 3, 75, 0, 0) := rfl
theorem f_Mo_perform_64 : fetch 74 64 = some (.aload_n 0, 1, 0, 0, 0) := rfl
theorem f_Mo_perform_65 : fetch 74 65 = some (.iload_n 1, 1, 0, 0, 0) := rfl
theorem f_Mo_perform_66 : fetch 74 66 = some (.iload_n 3, 1, 0, 0, 0) := rfl
theorem f_Mo_perform_67 : fetch 74 67 = some (.iload 4, 2, 0, 0, 0) := rfl
theorem f_Mo_perform_69 : fetch 74 69 = some (.invokevirtual 293, 3, 75, 3, 80) := rfl
theorem f_Mo_perform_72 : fetch 74 72 = some (.goto 28, 3, 100, 0, 0) := rfl
theorem f_Mo_perform_75 : fetch 74 75 = some (.iload 4, 2, 0, 0, 0) := rfl
theorem f_Mo_perform_77 : fetch 74 77 = some (.bipush 33, 2, 0, 0, 0) := rfl
theorem f_Mo_perform_79 : fetch 74 79 = some (.if_icmp .ge 13, 3, 92, 0, 0) := rfl
theorem f_Mo_perform_82 : fetch 74 82 = some (.aload_n 0, 1, 0, 0, 0) := rfl
theorem f_Mo_perform_83 : fetch 74 83 = some (.iload_n 3, 1, 0, 0, 0) := rfl
theorem f_Mo_perform_84 : fetch 74 84 = some (.iload 4, 2, 0, 0, 0) := rfl
theorem f_Mo_perform_86 : fetch 74 86 = some (.invokevirtual 296, 3, 81, 2, 81) := rfl
theorem f_Mo_perform_89 : fetch 74 89 = some (.goto 11, 3, 100, 0, 0) := rfl
theorem f_Mo_perform_92 : fetch 74 92 = some (.aload_n 0, 1, 0, 0, 0) := rfl
theorem f_Mo_perform_93 : fetch 74 93 = some (.iload_n 1, 1, 0, 0, 0) := rfl
theorem f_Mo_perform_94 : fetch 74 94 = some (.iload_n 3, 1, 0, 0, 0) := rfl
theorem f_Mo_perform_95 : fetch 74 95 = some (.iload 4, 2, 0, 0, 0) := rfl
theorem f_Mo_perform_97 : fetch 74 97 = some (.invokevirtual 299, 3, 86, 3, 82) := rfl
theorem f_Mo_perform_100 : fetch 74 100 = some (.aload_n 0, 1, 0, 0, 0) := rfl
theorem f_Mo_perform_101 : fetch 74 101 = some (.getfield 287, 3, 8, 44, 72) := rfl
theorem f_Mo_perform_104 : fetch 74 104 = some (.ifCond .le 12, 3, 116, 0, 0) := rfl
theorem f_Mo_perform_107 : fetch 74 107 = some (.aload_n 0, 1, 0, 0, 0) := rfl
theorem f_Mo_perform_108 : fetch 74 108 = some (.aload_n 0, 1, 0, 0, 0) := rfl
theorem f_Mo_perform_109 : fetch 74 109 = some (.getfield 287, 3, 8, 44, 72) := rfl
theorem f_Mo_perform_112 : fetch 74 112 = some (.iload_n 3, 1, 0, 0, 0) := rfl
theorem f_Mo_perform_113 : fetch 74 113 = some (.invokevirtual 302, 3, 89, 2, 83) := rfl
theorem f_Mo_perform_116 : fetch 74 116 = some (.return_, 1, 0, 0, 0) := rfl
def F_Mo_perform_116   (σ : SG) : Option (SG) :=
  some σ
set_option maxHeartbeats 4000000 in
theorem w_Mo_perform_116 {b d : Nat} {sc : SC} {pre tl : List PE} {B : Nat} {Q : Option Value → List PE → Prop} {res : SG} (hB : B = b + pre.length) (hd : 6 ≤ d)   (hQ : Q none (HH pre tl SHm B res)) (lv : LV) (σ : SG)   (hF : F_Mo_perform_116   σ = some res) : Rn b sc d 74 116 lv [] (HH pre tl SHm B σ) Q := by
  obtain ⟨e0, rfl⟩ : ∃ e, d = e + 1 := ⟨d - 1, by omega⟩
  unfold F_Mo_perform_116 at hF
  cases hF
  exact r_return f_Mo_perform_116 hQ
def F_Mo_perform_100  (x0 : Nat) (x3 : Int32) (σ : SG) : Option (SG) :=
  if (σ.1 (x0) 44) ≤ 0 then
  F_Mo_perform_116 σ
  else match F_Mo_raise (x0) ((σ.1 (x0) 44)) (x3) σ with
  | none => none
  | some q2 =>
  F_Mo_perform_116 q2
set_option maxHeartbeats 4000000 in
theorem w_Mo_perform_100 {b d : Nat} {sc : SC} {pre tl : List PE} {B : Nat} {Q : Option Value → List PE → Prop} {res : SG} (hB : B = b + pre.length) (hd : 6 ≤ d)   (hQ : Q none (HH pre tl SHm B res)) (lv : LV) (σ : SG) (x0 : Nat) (x3 : Int32) (hx0 : isC SHm (x0) 8 = true) (l0 : lv.lookup 0 = some (.ref (B + (x0)))) (l3 : lv.lookup 3 = some (.int (x3))) (hF : F_Mo_perform_100  x0 x3 σ = some res) : Rn b sc d 74 100 lv [] (HH pre tl SHm B σ) Q := by
  obtain ⟨e0, rfl⟩ : ∃ e, d = e + 1 := ⟨d - 1, by omega⟩
  unfold F_Mo_perform_100 at hF
  refine r_aload_n f_Mo_perform_100 l0 ?_
  refine t_geti hB hx0 f_Mo_perform_101 rfl ?_
  refine r_if_le f_Mo_perform_104 (fun c1 => ?_) (fun c1 => ?_)
  · rw [if_pos c1] at hF
    exact w_Mo_perform_116 hB hd  hQ _ (σ) hF
  · rw [if_neg c1] at hF
    refine r_aload_n f_Mo_perform_107 l0 ?_
    refine r_aload_n f_Mo_perform_108 l0 ?_
    refine t_geti hB hx0 f_Mo_perform_109 rfl ?_
    refine r_iload_n f_Mo_perform_112 l3 ?_
    cases hq2 : F_Mo_raise (x0) ((σ.1 (x0) 44)) (x3) σ with
    | none => simp only [hq2] at hF; cases hF
    | some q2 =>
      simp only [hq2] at hF
      refine t_V2v hB hx0 rfl rfl f_Mo_perform_113 (by decide) (Nat.le_of_ble_eq_true rfl) (Nat.le_of_ble_eq_true rfl) (w_Mo_raise hB (by omega) (x0) ((σ.1 (x0) 44)) (x3) hx0 hq2 ⟨rfl, ?_⟩)
      exact w_Mo_perform_116 hB hd  hQ _ (q2) hF
def F_Mo_perform (a0 : Nat) (σ : SG) : Option (SG) :=
  if ((σ.1 (a0) 31) - (1 : Int32)) < 0 ∨ 8 ≤ (((σ.1 (a0) 31) - (1 : Int32))).toNatClampNeg then none else
  if ((σ.1 (a0) 31) - (1 : Int32)) < 0 ∨ 8 ≤ (((σ.1 (a0) 31) - (1 : Int32))).toNatClampNeg then none else
  if (((100 : Int32) * (σ.2.2.2.1 ((cref SHm (a0) 32)) ((((σ.1 (a0) 31) - (1 : Int32))).toNatClampNeg))) + (σ.2.2.2.1 ((cref SHm (a0) 33)) ((((σ.1 (a0) 31) - (1 : Int32))).toNatClampNeg))) < 0 ∨ 600 ≤ ((((100 : Int32) * (σ.2.2.2.1 ((cref SHm (a0) 32)) ((((σ.1 (a0) 31) - (1 : Int32))).toNatClampNeg))) + (σ.2.2.2.1 ((cref SHm (a0) 33)) ((((σ.1 (a0) 31) - (1 : Int32))).toNatClampNeg)))).toNatClampNeg then none else
  stl (setI σ (a0) 24 ((σ.2.2.2.1 ((cref SHm (a0) 32)) ((((σ.1 (a0) 31) - (1 : Int32))).toNatClampNeg)))) fun s6 =>
  match F_Mo_bytes ((σ.2.2.2.1 ((cref SHm (a0) 19)) (((((100 : Int32) * (σ.2.2.2.1 ((cref SHm (a0) 32)) ((((σ.1 (a0) 31) - (1 : Int32))).toNatClampNeg))) + (σ.2.2.2.1 ((cref SHm (a0) 33)) ((((σ.1 (a0) 31) - (1 : Int32))).toNatClampNeg)))).toNatClampNeg))) s6 with
  | none => none
  | some q7 =>
  if ((σ.1 (a0) 31) - (1 : Int32)) < 0 ∨ 8 ≤ (((σ.1 (a0) 31) - (1 : Int32))).toNatClampNeg then none else
  stl (setA q7.2 ((cref SHm (a0) 33)) ((((σ.1 (a0) 31) - (1 : Int32))).toNatClampNeg) (((σ.2.2.2.1 ((cref SHm (a0) 33)) ((((σ.1 (a0) 31) - (1 : Int32))).toNatClampNeg)) + q7.1))) fun s9 =>
  stl (setI s9 (a0) 44 ((0 : Int32))) fun s10 =>
  if (17 : Int32) ≤ (σ.2.2.2.1 ((cref SHm (a0) 19)) (((((100 : Int32) * (σ.2.2.2.1 ((cref SHm (a0) 32)) ((((σ.1 (a0) 31) - (1 : Int32))).toNatClampNeg))) + (σ.2.2.2.1 ((cref SHm (a0) 33)) ((((σ.1 (a0) 31) - (1 : Int32))).toNatClampNeg)))).toNatClampNeg)) then
  if (33 : Int32) ≤ (σ.2.2.2.1 ((cref SHm (a0) 19)) (((((100 : Int32) * (σ.2.2.2.1 ((cref SHm (a0) 32)) ((((σ.1 (a0) 31) - (1 : Int32))).toNatClampNeg))) + (σ.2.2.2.1 ((cref SHm (a0) 33)) ((((σ.1 (a0) 31) - (1 : Int32))).toNatClampNeg)))).toNatClampNeg)) then
  match F_Mo_control (a0) (((σ.1 (a0) 31) - (1 : Int32))) ((σ.2.2.2.1 ((cref SHm (a0) 33)) ((((σ.1 (a0) 31) - (1 : Int32))).toNatClampNeg))) ((σ.2.2.2.1 ((cref SHm (a0) 19)) (((((100 : Int32) * (σ.2.2.2.1 ((cref SHm (a0) 32)) ((((σ.1 (a0) 31) - (1 : Int32))).toNatClampNeg))) + (σ.2.2.2.1 ((cref SHm (a0) 33)) ((((σ.1 (a0) 31) - (1 : Int32))).toNatClampNeg)))).toNatClampNeg))) s10 with
  | none => none
  | some q13 =>
  F_Mo_perform_100 (a0) ((σ.2.2.2.1 ((cref SHm (a0) 33)) ((((σ.1 (a0) 31) - (1 : Int32))).toNatClampNeg))) q13
  else match F_Mo_work (a0) ((σ.2.2.2.1 ((cref SHm (a0) 33)) ((((σ.1 (a0) 31) - (1 : Int32))).toNatClampNeg))) ((σ.2.2.2.1 ((cref SHm (a0) 19)) (((((100 : Int32) * (σ.2.2.2.1 ((cref SHm (a0) 32)) ((((σ.1 (a0) 31) - (1 : Int32))).toNatClampNeg))) + (σ.2.2.2.1 ((cref SHm (a0) 33)) ((((σ.1 (a0) 31) - (1 : Int32))).toNatClampNeg)))).toNatClampNeg))) s10 with
  | none => none
  | some q14 =>
  F_Mo_perform_100 (a0) ((σ.2.2.2.1 ((cref SHm (a0) 33)) ((((σ.1 (a0) 31) - (1 : Int32))).toNatClampNeg))) q14
  else match F_Mo_plain (a0) (((σ.1 (a0) 31) - (1 : Int32))) ((σ.2.2.2.1 ((cref SHm (a0) 33)) ((((σ.1 (a0) 31) - (1 : Int32))).toNatClampNeg))) ((σ.2.2.2.1 ((cref SHm (a0) 19)) (((((100 : Int32) * (σ.2.2.2.1 ((cref SHm (a0) 32)) ((((σ.1 (a0) 31) - (1 : Int32))).toNatClampNeg))) + (σ.2.2.2.1 ((cref SHm (a0) 33)) ((((σ.1 (a0) 31) - (1 : Int32))).toNatClampNeg)))).toNatClampNeg))) s10 with
  | none => none
  | some q15 =>
  F_Mo_perform_100 (a0) ((σ.2.2.2.1 ((cref SHm (a0) 33)) ((((σ.1 (a0) 31) - (1 : Int32))).toNatClampNeg))) q15
set_option maxHeartbeats 4000000 in
theorem w_Mo_perform {b d : Nat} {pre tl : List PE} {B : Nat} {Q : Option Value → List PE → Prop} {res : SG} (hB : B = b + pre.length) (hd : 6 ≤ d)  {σ : SG} (a0 : Nat) (ha0 : isC SHm (a0) 8 = true) (hF : F_Mo_perform a0 σ = some res) (hQ : Q none (HH pre tl SHm B res)) : Cl b d 74 [.ref (B + (a0))] (HH pre tl SHm B σ) Q := by
  obtain ⟨e0, rfl⟩ : ∃ e, d = e + 1 := ⟨d - 1, by omega⟩
  unfold Cl
  unfold F_Mo_perform at hF
  refine r_aload_n f_Mo_perform_0 rfl ?_
  refine t_geti hB ha0 f_Mo_perform_1 rfl ?_
  refine r_iconst f_Mo_perform_4 (v := 1) (by decide) ?_
  refine r_isub f_Mo_perform_5 ?_
  refine r_istore_n f_Mo_perform_6 ?_
  refine r_aload_n f_Mo_perform_7 (lk_put_ne rfl (by decide) (Or.inl rfl)) ?_
  refine t_getc hB ha0 f_Mo_perform_8 rfl ?_
  refine r_iload_n f_Mo_perform_11 lk_put ?_
  by_cases c3 : ((σ.1 (a0) 31) - (1 : Int32)) < 0 ∨ 8 ≤ (((σ.1 (a0) 31) - (1 : Int32))).toNatClampNeg
  · rw [if_pos c3] at hF; cases hF
  rw [if_neg c3] at hF
  refine t_iald hB (cc_8_32 ha0) f_Mo_perform_12 c3 ?_
  refine r_istore_n f_Mo_perform_13 ?_
  refine r_aload_n f_Mo_perform_14 (lk_put_ne (lk_put_ne rfl (by decide) (Or.inl rfl)) (by decide) (Or.inl rfl)) ?_
  refine t_getc hB ha0 f_Mo_perform_15 rfl ?_
  refine r_iload_n f_Mo_perform_18 (lk_put_ne lk_put (by decide) (Or.inl rfl)) ?_
  by_cases c4 : ((σ.1 (a0) 31) - (1 : Int32)) < 0 ∨ 8 ≤ (((σ.1 (a0) 31) - (1 : Int32))).toNatClampNeg
  · rw [if_pos c4] at hF; cases hF
  rw [if_neg c4] at hF
  refine t_iald hB (cc_8_33 ha0) f_Mo_perform_19 c4 ?_
  refine r_istore_n f_Mo_perform_20 ?_
  refine r_aload_n f_Mo_perform_21 (lk_put_ne (lk_put_ne (lk_put_ne rfl (by decide) (Or.inl rfl)) (by decide) (Or.inl rfl)) (by decide) (Or.inl rfl)) ?_
  refine t_getc hB ha0 f_Mo_perform_22 rfl ?_
  refine r_bipush f_Mo_perform_25 (v := 100) (by decide) ?_
  refine r_iload_n f_Mo_perform_27 (lk_put_ne lk_put (by decide) (Or.inl rfl)) ?_
  refine r_imul f_Mo_perform_28 ?_
  refine r_iload_n f_Mo_perform_29 lk_put ?_
  refine r_iadd f_Mo_perform_30 ?_
  by_cases c5 : (((100 : Int32) * (σ.2.2.2.1 ((cref SHm (a0) 32)) ((((σ.1 (a0) 31) - (1 : Int32))).toNatClampNeg))) + (σ.2.2.2.1 ((cref SHm (a0) 33)) ((((σ.1 (a0) 31) - (1 : Int32))).toNatClampNeg))) < 0 ∨ 600 ≤ ((((100 : Int32) * (σ.2.2.2.1 ((cref SHm (a0) 32)) ((((σ.1 (a0) 31) - (1 : Int32))).toNatClampNeg))) + (σ.2.2.2.1 ((cref SHm (a0) 33)) ((((σ.1 (a0) 31) - (1 : Int32))).toNatClampNeg)))).toNatClampNeg
  · rw [if_pos c5] at hF; cases hF
  rw [if_neg c5] at hF
  refine t_iald hB (cc_8_19 ha0) f_Mo_perform_31 c5 ?_
  refine r_istore f_Mo_perform_32 ?_
  refine r_aload_n f_Mo_perform_34 (lk_put_ne (lk_put_ne (lk_put_ne (lk_put_ne rfl (by decide) (Or.inl rfl)) (by decide) (Or.inl rfl)) (by decide) (Or.inl rfl)) (by decide) (Or.inl rfl)) ?_
  refine r_iload_n f_Mo_perform_35 (lk_put_ne (lk_put_ne lk_put (by decide) (Or.inl rfl)) (by decide) (Or.inl rfl)) ?_
  refine t_puti hB ha0 f_Mo_perform_36 rfl rfl ?_
  generalize hs6 : setI σ (a0) 24 ((σ.2.2.2.1 ((cref SHm (a0) 32)) ((((σ.1 (a0) 31) - (1 : Int32))).toNatClampNeg))) = s6 at hF ⊢
  rw [stl_eq] at hF
  refine r_aload_n f_Mo_perform_39 (lk_put_ne (lk_put_ne (lk_put_ne (lk_put_ne rfl (by decide) (Or.inl rfl)) (by decide) (Or.inl rfl)) (by decide) (Or.inl rfl)) (by decide) (Or.inl rfl)) ?_
  refine t_getc hB ha0 f_Mo_perform_40 rfl ?_
  refine r_iload_n f_Mo_perform_43 (lk_put_ne (lk_put_ne (lk_put_ne lk_put (by decide) (Or.inl rfl)) (by decide) (Or.inl rfl)) (by decide) (Or.inl rfl)) ?_
  refine r_iload_n f_Mo_perform_44 (lk_put_ne lk_put (by decide) (Or.inl rfl)) ?_
  refine r_iload f_Mo_perform_45 lk_put ?_
  cases hq7 : F_Mo_bytes ((σ.2.2.2.1 ((cref SHm (a0) 19)) (((((100 : Int32) * (σ.2.2.2.1 ((cref SHm (a0) 32)) ((((σ.1 (a0) 31) - (1 : Int32))).toNatClampNeg))) + (σ.2.2.2.1 ((cref SHm (a0) 33)) ((((σ.1 (a0) 31) - (1 : Int32))).toNatClampNeg)))).toNatClampNeg))) s6 with
  | none => simp only [hq7] at hF; cases hF
  | some q7 =>
    simp only [hq7] at hF
    refine t_S1i f_Mo_perform_47 (by decide) (Nat.le_of_ble_eq_true rfl) (Nat.le_of_ble_eq_true rfl) (w_Mo_bytes hB  ((σ.2.2.2.1 ((cref SHm (a0) 19)) (((((100 : Int32) * (σ.2.2.2.1 ((cref SHm (a0) 32)) ((((σ.1 (a0) 31) - (1 : Int32))).toNatClampNeg))) + (σ.2.2.2.1 ((cref SHm (a0) 33)) ((((σ.1 (a0) 31) - (1 : Int32))).toNatClampNeg)))).toNatClampNeg)))  hq7 ⟨_, rfl, ?_⟩)
    refine r_iadd f_Mo_perform_50 ?_
    by_cases c8 : ((σ.1 (a0) 31) - (1 : Int32)) < 0 ∨ 8 ≤ (((σ.1 (a0) 31) - (1 : Int32))).toNatClampNeg
    · rw [if_pos c8] at hF; cases hF
    rw [if_neg c8] at hF
    refine t_iast hB (cc_8_33 ha0) f_Mo_perform_51 c8 ?_
    generalize hs9 : setA q7.2 ((cref SHm (a0) 33)) ((((σ.1 (a0) 31) - (1 : Int32))).toNatClampNeg) (((σ.2.2.2.1 ((cref SHm (a0) 33)) ((((σ.1 (a0) 31) - (1 : Int32))).toNatClampNeg)) + q7.1)) = s9 at hF ⊢
    rw [stl_eq] at hF
    refine r_aload_n f_Mo_perform_52 (lk_put_ne (lk_put_ne (lk_put_ne (lk_put_ne rfl (by decide) (Or.inl rfl)) (by decide) (Or.inl rfl)) (by decide) (Or.inl rfl)) (by decide) (Or.inl rfl)) ?_
    refine r_iconst f_Mo_perform_53 (v := 0) (by decide) ?_
    refine t_puti hB ha0 f_Mo_perform_54 rfl rfl ?_
    generalize hs10 : setI s9 (a0) 44 ((0 : Int32)) = s10 at hF ⊢
    rw [stl_eq] at hF
    refine r_iload f_Mo_perform_57 lk_put ?_
    refine r_bipush f_Mo_perform_59 (v := 17) (by decide) ?_
    refine r_icmp_ge f_Mo_perform_61 (fun c11 => ?_) (fun c11 => ?_)
    · rw [if_pos c11] at hF
      refine r_iload f_Mo_perform_75 lk_put ?_
      refine r_bipush f_Mo_perform_77 (v := 33) (by decide) ?_
      refine r_icmp_ge f_Mo_perform_79 (fun c12 => ?_) (fun c12 => ?_)
      · rw [if_pos c12] at hF
        refine r_aload_n f_Mo_perform_92 (lk_put_ne (lk_put_ne (lk_put_ne (lk_put_ne rfl (by decide) (Or.inl rfl)) (by decide) (Or.inl rfl)) (by decide) (Or.inl rfl)) (by decide) (Or.inl rfl)) ?_
        refine r_iload_n f_Mo_perform_93 (lk_put_ne (lk_put_ne (lk_put_ne lk_put (by decide) (Or.inl rfl)) (by decide) (Or.inl rfl)) (by decide) (Or.inl rfl)) ?_
        refine r_iload_n f_Mo_perform_94 (lk_put_ne lk_put (by decide) (Or.inl rfl)) ?_
        refine r_iload f_Mo_perform_95 lk_put ?_
        cases hq13 : F_Mo_control (a0) (((σ.1 (a0) 31) - (1 : Int32))) ((σ.2.2.2.1 ((cref SHm (a0) 33)) ((((σ.1 (a0) 31) - (1 : Int32))).toNatClampNeg))) ((σ.2.2.2.1 ((cref SHm (a0) 19)) (((((100 : Int32) * (σ.2.2.2.1 ((cref SHm (a0) 32)) ((((σ.1 (a0) 31) - (1 : Int32))).toNatClampNeg))) + (σ.2.2.2.1 ((cref SHm (a0) 33)) ((((σ.1 (a0) 31) - (1 : Int32))).toNatClampNeg)))).toNatClampNeg))) s10 with
        | none => simp only [hq13] at hF; cases hF
        | some q13 =>
          simp only [hq13] at hF
          refine t_V3v hB ha0 rfl rfl f_Mo_perform_97 (by decide) (Nat.le_of_ble_eq_true rfl) (Nat.le_of_ble_eq_true rfl) (w_Mo_control hB (by omega) (a0) (((σ.1 (a0) 31) - (1 : Int32))) ((σ.2.2.2.1 ((cref SHm (a0) 33)) ((((σ.1 (a0) 31) - (1 : Int32))).toNatClampNeg))) ((σ.2.2.2.1 ((cref SHm (a0) 19)) (((((100 : Int32) * (σ.2.2.2.1 ((cref SHm (a0) 32)) ((((σ.1 (a0) 31) - (1 : Int32))).toNatClampNeg))) + (σ.2.2.2.1 ((cref SHm (a0) 33)) ((((σ.1 (a0) 31) - (1 : Int32))).toNatClampNeg)))).toNatClampNeg))) ha0 hq13 ⟨rfl, ?_⟩)
          exact w_Mo_perform_100 hB hd  hQ _ (q13) (a0) ((σ.2.2.2.1 ((cref SHm (a0) 33)) ((((σ.1 (a0) 31) - (1 : Int32))).toNatClampNeg))) ha0 (lk_put_ne (lk_put_ne (lk_put_ne (lk_put_ne rfl (by decide) (Or.inl rfl)) (by decide) (Or.inl rfl)) (by decide) (Or.inl rfl)) (by decide) (Or.inl rfl)) (lk_put_ne lk_put (by decide) (Or.inl rfl)) hF
      · rw [if_neg c12] at hF
        refine r_aload_n f_Mo_perform_82 (lk_put_ne (lk_put_ne (lk_put_ne (lk_put_ne rfl (by decide) (Or.inl rfl)) (by decide) (Or.inl rfl)) (by decide) (Or.inl rfl)) (by decide) (Or.inl rfl)) ?_
        refine r_iload_n f_Mo_perform_83 (lk_put_ne lk_put (by decide) (Or.inl rfl)) ?_
        refine r_iload f_Mo_perform_84 lk_put ?_
        cases hq14 : F_Mo_work (a0) ((σ.2.2.2.1 ((cref SHm (a0) 33)) ((((σ.1 (a0) 31) - (1 : Int32))).toNatClampNeg))) ((σ.2.2.2.1 ((cref SHm (a0) 19)) (((((100 : Int32) * (σ.2.2.2.1 ((cref SHm (a0) 32)) ((((σ.1 (a0) 31) - (1 : Int32))).toNatClampNeg))) + (σ.2.2.2.1 ((cref SHm (a0) 33)) ((((σ.1 (a0) 31) - (1 : Int32))).toNatClampNeg)))).toNatClampNeg))) s10 with
        | none => simp only [hq14] at hF; cases hF
        | some q14 =>
          simp only [hq14] at hF
          refine t_V2v hB ha0 rfl rfl f_Mo_perform_86 (by decide) (Nat.le_of_ble_eq_true rfl) (Nat.le_of_ble_eq_true rfl) (w_Mo_work hB (by omega) (a0) ((σ.2.2.2.1 ((cref SHm (a0) 33)) ((((σ.1 (a0) 31) - (1 : Int32))).toNatClampNeg))) ((σ.2.2.2.1 ((cref SHm (a0) 19)) (((((100 : Int32) * (σ.2.2.2.1 ((cref SHm (a0) 32)) ((((σ.1 (a0) 31) - (1 : Int32))).toNatClampNeg))) + (σ.2.2.2.1 ((cref SHm (a0) 33)) ((((σ.1 (a0) 31) - (1 : Int32))).toNatClampNeg)))).toNatClampNeg))) ha0 hq14 ⟨rfl, ?_⟩)
          refine r_goto f_Mo_perform_89 ?_
          exact w_Mo_perform_100 hB hd  hQ _ (q14) (a0) ((σ.2.2.2.1 ((cref SHm (a0) 33)) ((((σ.1 (a0) 31) - (1 : Int32))).toNatClampNeg))) ha0 (lk_put_ne (lk_put_ne (lk_put_ne (lk_put_ne rfl (by decide) (Or.inl rfl)) (by decide) (Or.inl rfl)) (by decide) (Or.inl rfl)) (by decide) (Or.inl rfl)) (lk_put_ne lk_put (by decide) (Or.inl rfl)) hF
    · rw [if_neg c11] at hF
      refine r_aload_n f_Mo_perform_64 (lk_put_ne (lk_put_ne (lk_put_ne (lk_put_ne rfl (by decide) (Or.inl rfl)) (by decide) (Or.inl rfl)) (by decide) (Or.inl rfl)) (by decide) (Or.inl rfl)) ?_
      refine r_iload_n f_Mo_perform_65 (lk_put_ne (lk_put_ne (lk_put_ne lk_put (by decide) (Or.inl rfl)) (by decide) (Or.inl rfl)) (by decide) (Or.inl rfl)) ?_
      refine r_iload_n f_Mo_perform_66 (lk_put_ne lk_put (by decide) (Or.inl rfl)) ?_
      refine r_iload f_Mo_perform_67 lk_put ?_
      cases hq15 : F_Mo_plain (a0) (((σ.1 (a0) 31) - (1 : Int32))) ((σ.2.2.2.1 ((cref SHm (a0) 33)) ((((σ.1 (a0) 31) - (1 : Int32))).toNatClampNeg))) ((σ.2.2.2.1 ((cref SHm (a0) 19)) (((((100 : Int32) * (σ.2.2.2.1 ((cref SHm (a0) 32)) ((((σ.1 (a0) 31) - (1 : Int32))).toNatClampNeg))) + (σ.2.2.2.1 ((cref SHm (a0) 33)) ((((σ.1 (a0) 31) - (1 : Int32))).toNatClampNeg)))).toNatClampNeg))) s10 with
      | none => simp only [hq15] at hF; cases hF
      | some q15 =>
        simp only [hq15] at hF
        refine t_V3v hB ha0 rfl rfl f_Mo_perform_69 (by decide) (Nat.le_of_ble_eq_true rfl) (Nat.le_of_ble_eq_true rfl) (w_Mo_plain hB (by omega) (a0) (((σ.1 (a0) 31) - (1 : Int32))) ((σ.2.2.2.1 ((cref SHm (a0) 33)) ((((σ.1 (a0) 31) - (1 : Int32))).toNatClampNeg))) ((σ.2.2.2.1 ((cref SHm (a0) 19)) (((((100 : Int32) * (σ.2.2.2.1 ((cref SHm (a0) 32)) ((((σ.1 (a0) 31) - (1 : Int32))).toNatClampNeg))) + (σ.2.2.2.1 ((cref SHm (a0) 33)) ((((σ.1 (a0) 31) - (1 : Int32))).toNatClampNeg)))).toNatClampNeg))) ha0 hq15 ⟨rfl, ?_⟩)
        refine r_goto f_Mo_perform_72 ?_
        exact w_Mo_perform_100 hB hd  hQ _ (q15) (a0) ((σ.2.2.2.1 ((cref SHm (a0) 33)) ((((σ.1 (a0) 31) - (1 : Int32))).toNatClampNeg))) ha0 (lk_put_ne (lk_put_ne (lk_put_ne (lk_put_ne rfl (by decide) (Or.inl rfl)) (by decide) (Or.inl rfl)) (by decide) (Or.inl rfl)) (by decide) (Or.inl rfl)) (lk_put_ne lk_put (by decide) (Or.inl rfl)) hF
theorem f_Mo_step_0 : fetch 73 0 = some (.aload_n 0, 1, 0, 0, 0) := rfl
theorem f_Mo_step_1 : fetch 73 1 = some (.getfield 147, 3, 8, 28, 61) := rfl
theorem f_Mo_step_4 : fetch 73 4 = some (.ifCond .eq 14, 3, 18, 0, 0) := rfl
theorem f_Mo_step_7 : fetch 73 7 = some (.iload_n 1, 1, 0, 0, 0) := rfl
theorem f_Mo_step_8 : fetch 73 8 = some (.ifCond .lt 10, 3, 18, 0, 0) := rfl
theorem f_Mo_step_11 : fetch 73 11 = some (.iload_n 1, 1, 0, 0, 0) := rfl
theorem f_Mo_step_12 : fetch 73 12 = some (.sipush 500, 3, 0, 0, 0) := rfl
theorem f_Mo_step_15 : fetch 73 15 = some (.if_icmp .le 5, 3, 20, 0, 0) := rfl
theorem f_Mo_step_18 : fetch 73 18 = some (.iconst (-1), 1, 0, 0, 0) := rfl
theorem f_Mo_step_19 : fetch 73 19 = some (.ireturn, 1, 0, 0, 0) := rfl
theorem f_Mo_step_20 : fetch 73 20 = some (.iconst 0, 1, 0, 0, 0) := rfl
theorem f_Mo_step_21 : fetch 73 21 = some (.istore_n 2, 1, 0, 0, 0) := rfl
theorem f_Mo_step_22 : fetch 73 22 = some (.iload_n 2, 1, 0, 0, 0) := rfl
theorem f_Mo_step_23 : fetch 73 23 = some (.iload_n 1, 1, 0, 0, 0) := rfl
theorem f_Mo_step_24 : fetch 73 24 = some (.if_icmp .ge 21, 3, 45, 0, 0) := rfl
theorem f_Mo_step_27 : fetch 73 27 = some (.aload_n 0, 1, 0, 0, 0) := rfl
theorem f_Mo_step_28 : fetch 73 28 = some (.getfield 147, 3, 8, 28, 61) := rfl
theorem f_Mo_step_31 : fetch 73 31 = some (.iconst 1, 1, 0, 0, 0) := rfl
theorem f_Mo_step_32 : fetch 73 32 = some (.if_icmp .ne 13, 3, 45, 0, 0) := rfl
theorem f_Mo_step_35 : fetch 73 35 = some (.aload_n 0, 1, 0, 0, 0) := rfl
theorem f_Mo_step_36 : fetch 73 36 = some (.invokevirtual 356, 3, 74, 0, 79) := rfl
theorem f_Mo_step_39 : fetch 73 39 = some (.iinc 2 1, 3, 0, 0, 0) := rfl
theorem f_Mo_step_42 : fetch 73 42 = some (.goto (-20), 3, 22, 0, 0) := rfl
theorem f_Mo_step_45 : fetch 73 45 = some (.iload_n 2, 1, 0, 0, 0) := rfl
theorem f_Mo_step_46 : fetch 73 46 = some (.ireturn, 1, 0, 0, 0) := rfl
def F_Mo_step_45  (x2 : Int32) (σ : SG) : Option (Int32 × SG) :=
  some (x2, σ)
set_option maxHeartbeats 4000000 in
theorem w_Mo_step_45 {b d : Nat} {sc : SC} {pre tl : List PE} {B : Nat} {Q : Option Value → List PE → Prop} {res : Int32 × SG} (hB : B = b + pre.length) (hd : 7 ≤ d)   (hQ : Q (some (.int res.1)) (HH pre tl SHm B res.2)) (lv : LV) (σ : SG) (x2 : Int32) (l2 : lv.lookup 2 = some (.int (x2))) (hF : F_Mo_step_45  x2 σ = some res) : Rn b sc d 73 45 lv [] (HH pre tl SHm B σ) Q := by
  obtain ⟨e0, rfl⟩ : ∃ e, d = e + 1 := ⟨d - 1, by omega⟩
  unfold F_Mo_step_45 at hF
  refine r_iload_n f_Mo_step_45 l2 ?_
  cases hF
  exact r_ireturn f_Mo_step_46 hQ
def F_Mo_step_22  : Nat → Nat → Int32 → Int32 → SG → Option (Int32 × SG)
  | 0, _, _, _, _ => none
  | n + 1, x0, x1, x2, σ =>
  if x1 ≤ x2 then
  F_Mo_step_45 (x2) σ
  else if (σ.1 (x0) 28) = (1 : Int32) then
  match F_Mo_perform (x0) σ with
  | none => none
  | some q3 =>
  F_Mo_step_22  n (x0) (x1) ((x2 + 1)) q3
  else F_Mo_step_45 (x2) σ
set_option maxHeartbeats 4000000 in
theorem w_Mo_step_22 {b d : Nat} {sc : SC} {pre tl : List PE} {B : Nat} {Q : Option Value → List PE → Prop} {res : Int32 × SG} (hB : B = b + pre.length) (hd : 7 ≤ d)   (hQ : Q (some (.int res.1)) (HH pre tl SHm B res.2)) : ∀ (n : Nat) (lv : LV) (σ : SG) (x0 : Nat) (x1 : Int32) (x2 : Int32), isC SHm (x0) 8 = true → lv.lookup 0 = some (.ref (B + (x0))) → lv.lookup 1 = some (.int (x1)) → lv.lookup 2 = some (.int (x2)) → F_Mo_step_22  n x0 x1 x2 σ = some res → Rn b sc d 73 22 lv [] (HH pre tl SHm B σ) Q := by
  obtain ⟨e0, rfl⟩ : ∃ e, d = e + 1 := ⟨d - 1, by omega⟩
  intro n
  induction n with
  | zero => intro lv σ x0 x1 x2 hx0 l0 l1 l2 hF; cases hF
  | succ n ih =>
    intro lv σ x0 x1 x2 hx0 l0 l1 l2 hF
    unfold F_Mo_step_22 at hF
    refine r_iload_n f_Mo_step_22 l2 ?_
    refine r_iload_n f_Mo_step_23 l1 ?_
    refine r_icmp_ge f_Mo_step_24 (fun c1 => ?_) (fun c1 => ?_)
    · rw [if_pos c1] at hF
      exact w_Mo_step_45 hB hd  hQ _ (σ) (x2) l2 hF
    · rw [if_neg c1] at hF
      refine r_aload_n f_Mo_step_27 l0 ?_
      refine t_geti hB hx0 f_Mo_step_28 rfl ?_
      refine r_iconst f_Mo_step_31 (v := 1) (by decide) ?_
      refine r_icmp_ne f_Mo_step_32 (fun c2 => ?_) (fun c2 => ?_)
      · rw [if_neg c2] at hF
        exact w_Mo_step_45 hB hd  hQ _ (σ) (x2) l2 hF
      · rw [if_pos (Decidable.not_not.mp c2)] at hF
        refine r_aload_n f_Mo_step_35 l0 ?_
        cases hq3 : F_Mo_perform (x0) σ with
        | none => simp only [hq3] at hF; cases hF
        | some q3 =>
          simp only [hq3] at hF
          refine t_V0v hB hx0 rfl rfl f_Mo_step_36 (by decide) (Nat.le_of_ble_eq_true rfl) (Nat.le_of_ble_eq_true rfl) (w_Mo_perform hB (by omega) (x0) hx0 hq3 ⟨rfl, ?_⟩)
          refine r_iinc f_Mo_step_39 l2 (w := x2 + 1) rfl ?_
          refine r_goto f_Mo_step_42 ?_
          exact ih _ (q3) (x0) (x1) ((x2 + 1)) hx0 (lk_put_ne l0 (by decide) (Or.inl rfl)) (lk_put_ne l1 (by decide) (Or.inl rfl)) lk_put hF
def F_Mo_step_18   (σ : SG) : Option (Int32 × SG) :=
  some (((-1) : Int32), σ)
set_option maxHeartbeats 4000000 in
theorem w_Mo_step_18 {b d : Nat} {sc : SC} {pre tl : List PE} {B : Nat} {Q : Option Value → List PE → Prop} {res : Int32 × SG} (hB : B = b + pre.length) (hd : 7 ≤ d)   (hQ : Q (some (.int res.1)) (HH pre tl SHm B res.2)) (lv : LV) (σ : SG)   (hF : F_Mo_step_18   σ = some res) : Rn b sc d 73 18 lv [] (HH pre tl SHm B σ) Q := by
  obtain ⟨e0, rfl⟩ : ∃ e, d = e + 1 := ⟨d - 1, by omega⟩
  unfold F_Mo_step_18 at hF
  refine r_iconst f_Mo_step_18 (v := (-1)) (by decide) ?_
  cases hF
  exact r_ireturn f_Mo_step_19 hQ
def F_Mo_step (a0 : Nat) (a1 : Int32) (σ : SG) : Option (Int32 × SG) :=
  if (σ.1 (a0) 28) = 0 then
  F_Mo_step_18 σ
  else if a1 < 0 then
  F_Mo_step_18 σ
  else if a1 ≤ (500 : Int32) then
  F_Mo_step_22  5000 (a0) (a1) ((0 : Int32)) σ
  else F_Mo_step_18 σ
set_option maxHeartbeats 4000000 in
theorem w_Mo_step {b d : Nat} {pre tl : List PE} {B : Nat} {Q : Option Value → List PE → Prop} {res : Int32 × SG} (hB : B = b + pre.length) (hd : 7 ≤ d)  {σ : SG} (a0 : Nat) (a1 : Int32) (ha0 : isC SHm (a0) 8 = true) (hF : F_Mo_step a0 a1 σ = some res) (hQ : Q (some (.int res.1)) (HH pre tl SHm B res.2)) : Cl b d 73 [.ref (B + (a0)), .int (a1)] (HH pre tl SHm B σ) Q := by
  obtain ⟨e0, rfl⟩ : ∃ e, d = e + 1 := ⟨d - 1, by omega⟩
  unfold Cl
  unfold F_Mo_step at hF
  refine r_aload_n f_Mo_step_0 rfl ?_
  refine t_geti hB ha0 f_Mo_step_1 rfl ?_
  refine r_if_eq f_Mo_step_4 (fun c4 => ?_) (fun c4 => ?_)
  · rw [if_pos c4] at hF
    exact w_Mo_step_18 hB hd  hQ _ (σ) hF
  · rw [if_neg c4] at hF
    refine r_iload_n f_Mo_step_7 rfl ?_
    refine r_if_lt f_Mo_step_8 (fun c5 => ?_) (fun c5 => ?_)
    · rw [if_pos c5] at hF
      exact w_Mo_step_18 hB hd  hQ _ (σ) hF
    · rw [if_neg c5] at hF
      refine r_iload_n f_Mo_step_11 rfl ?_
      refine r_sipush f_Mo_step_12 (v := 500) (by decide) ?_
      refine r_icmp_le f_Mo_step_15 (fun c6 => ?_) (fun c6 => ?_)
      · rw [if_pos c6] at hF
        refine r_iconst f_Mo_step_20 (v := 0) (by decide) ?_
        refine r_istore_n f_Mo_step_21 ?_
        exact w_Mo_step_22 hB hd  hQ 5000 _ (σ) (a0) (a1) ((0 : Int32)) ha0 (lk_put_ne rfl (by decide) (Or.inl rfl)) (lk_put_ne rfl (by decide) (Or.inl rfl)) lk_put hF
      · rw [if_neg c6] at hF
        exact w_Mo_step_18 hB hd  hQ _ (σ) hF
theorem f_Mo_state_0 : fetch 96 0 = some (.aload_n 0, 1, 0, 0, 0) := rfl
theorem f_Mo_state_1 : fetch 96 1 = some (.getfield 147, 3, 8, 28, 61) := rfl
theorem f_Mo_state_4 : fetch 96 4 = some (.ireturn, 1, 0, 0, 0) := rfl
def F_Mo_state (a0 : Nat) (σ : SG) : Option (Int32 × SG) :=
  some ((σ.1 (a0) 28), σ)
set_option maxHeartbeats 4000000 in
theorem w_Mo_state {b d : Nat} {pre tl : List PE} {B : Nat} {Q : Option Value → List PE → Prop} {res : Int32 × SG} (hB : B = b + pre.length)  {σ : SG} (a0 : Nat) (ha0 : isC SHm (a0) 8 = true) (hF : F_Mo_state a0 σ = some res) (hQ : Q (some (.int res.1)) (HH pre tl SHm B res.2)) : Cl b d 96 [.ref (B + (a0))] (HH pre tl SHm B σ) Q := by
  unfold Cl
  unfold F_Mo_state at hF
  refine r_aload_n f_Mo_state_0 rfl ?_
  refine t_geti hB ha0 f_Mo_state_1 rfl ?_
  cases hF
  exact r_ireturn f_Mo_state_4 hQ
theorem f_Mo_result_0 : fetch 97 0 = some (.aload_n 0, 1, 0, 0, 0) := rfl
theorem f_Mo_result_1 : fetch 97 1 = some (.getfield 147, 3, 8, 28, 61) := rfl
theorem f_Mo_result_4 : fetch 97 4 = some (.iconst 1, 1, 0, 0, 0) := rfl
theorem f_Mo_result_5 : fetch 97 5 = some (.if_icmp .le 10, 3, 15, 0, 0) := rfl
theorem f_Mo_result_8 : fetch 97 8 = some (.aload_n 0, 1, 0, 0, 0) := rfl
theorem f_Mo_result_9 : fetch 97 9 = some (.getfield 269, 3, 8, 29, 69) := rfl
theorem f_Mo_result_12 : fetch 97 12 = some (.goto 4, 3, 16, 0, 0) := rfl
theorem f_Mo_result_15 : fetch 97 15 = some (.iconst 0, 1, 0, 0, 0) := rfl
theorem f_Mo_result_16 : fetch 97 16 = some (.ireturn, 1, 0, 0, 0) := rfl
def F_Mo_result_16  (y0 : Int32) (σ : SG) : Option (Int32 × SG) :=
  some (y0, σ)
set_option maxHeartbeats 4000000 in
theorem w_Mo_result_16 {b d : Nat} {sc : SC} {pre tl : List PE} {B : Nat} {Q : Option Value → List PE → Prop} {res : Int32 × SG} (hB : B = b + pre.length)   (hQ : Q (some (.int res.1)) (HH pre tl SHm B res.2)) (lv : LV) (σ : SG) (y0 : Int32)  (hF : F_Mo_result_16  y0 σ = some res) : Rn b sc d 97 16 lv [.int (y0)] (HH pre tl SHm B σ) Q := by
  unfold F_Mo_result_16 at hF
  cases hF
  exact r_ireturn f_Mo_result_16 hQ
def F_Mo_result (a0 : Nat) (σ : SG) : Option (Int32 × SG) :=
  if (σ.1 (a0) 28) ≤ (1 : Int32) then
  F_Mo_result_16 ((0 : Int32)) σ
  else F_Mo_result_16 ((σ.1 (a0) 29)) σ
set_option maxHeartbeats 4000000 in
theorem w_Mo_result {b d : Nat} {pre tl : List PE} {B : Nat} {Q : Option Value → List PE → Prop} {res : Int32 × SG} (hB : B = b + pre.length)  {σ : SG} (a0 : Nat) (ha0 : isC SHm (a0) 8 = true) (hF : F_Mo_result a0 σ = some res) (hQ : Q (some (.int res.1)) (HH pre tl SHm B res.2)) : Cl b d 97 [.ref (B + (a0))] (HH pre tl SHm B σ) Q := by
  unfold Cl
  unfold F_Mo_result at hF
  refine r_aload_n f_Mo_result_0 rfl ?_
  refine t_geti hB ha0 f_Mo_result_1 rfl ?_
  refine r_iconst f_Mo_result_4 (v := 1) (by decide) ?_
  refine r_icmp_le f_Mo_result_5 (fun c1 => ?_) (fun c1 => ?_)
  · rw [if_pos c1] at hF
    refine r_iconst f_Mo_result_15 (v := 0) (by decide) ?_
    exact w_Mo_result_16 hB   hQ _ (σ) ((0 : Int32)) hF
  · rw [if_neg c1] at hF
    refine r_aload_n f_Mo_result_8 rfl ?_
    refine t_geti hB ha0 f_Mo_result_9 rfl ?_
    refine r_goto f_Mo_result_12 ?_
    exact w_Mo_result_16 hB   hQ _ (σ) ((σ.1 (a0) 29)) hF
theorem f_Mo_look_0 : fetch 98 0 = some (.aload_n 0, 1, 0, 0, 0) := rfl
theorem f_Mo_look_1 : fetch 98 1 = some (.getfield 147, 3, 8, 28, 61) := rfl
theorem f_Mo_look_4 : fetch 98 4 = some (.ifCond .eq 25, 3, 29, 0, 0) := rfl
theorem f_Mo_look_7 : fetch 98 7 = some (.iload_n 1, 1, 0, 0, 0) := rfl
theorem f_Mo_look_8 : fetch 98 8 = some (.ifCond .lt 21, 3, 29, 0, 0) := rfl
theorem f_Mo_look_11 : fetch 98 11 = some (.iload_n 1, 1, 0, 0, 0) := rfl
theorem f_Mo_look_12 : fetch 98 12 = some (.iconst 4, 1, 0, 0, 0) := rfl
theorem f_Mo_look_13 : fetch 98 13 = some (.if_icmp .gt 16, 3, 29, 0, 0) := rfl
theorem f_Mo_look_16 : fetch 98 16 = some (.iload_n 1, 1, 0, 0, 0) := rfl
theorem f_Mo_look_17 : fetch 98 17 = some (.iconst 4, 1, 0, 0, 0) := rfl
theorem f_Mo_look_18 : fetch 98 18 = some (.if_icmp .ge 13, 3, 31, 0, 0) := rfl
theorem f_Mo_look_21 : fetch 98 21 = some (.aload_n 0, 1, 0, 0, 0) := rfl
theorem f_Mo_look_22 : fetch 98 22 = some (.getfield 147, 3, 8, 28, 61) := rfl
theorem f_Mo_look_25 : fetch 98 25 = some (.iconst 1, 1, 0, 0, 0) := rfl
theorem f_Mo_look_26 : fetch 98 26 = some (.if_icmp .le 5, 3, 31, 0, 0) := rfl
theorem f_Mo_look_29 : fetch 98 29 = some (.iconst (-1), 1, 0, 0, 0) := rfl
theorem f_Mo_look_30 : fetch 98 30 = some (.ireturn, 1, 0, 0, 0) := rfl
theorem f_Mo_look_31 : fetch 98 31 = some (.aload_n 0, 1, 0, 0, 0) := rfl
theorem f_Mo_look_32 : fetch 98 32 = some (.getfield 275, 3, 8, 31, 71) := rfl
theorem f_Mo_look_35 : fetch 98 35 = some (.iconst 1, 1, 0, 0, 0) := rfl
theorem f_Mo_look_36 : fetch 98 36 = some (.isub, 1, 0, 0, 0) := rfl
theorem f_Mo_look_37 : fetch 98 37 = some (.istore_n 2, 1, 0, 0, 0) := rfl
theorem f_Mo_look_38 : fetch 98 38 = some (.iload_n 1, 1, 0, 0, 0) := rfl
theorem f_Mo_look_39 : fetch 98 39 = some (.ifCond .ne 12, 3, 51, 0, 0) := rfl
theorem f_Mo_look_42 : fetch 98 42 = some (.aload_n 0, 1, 0, 0, 0) := rfl
theorem f_Mo_look_43 : fetch 98 43 = some (.getfield 69, 3, 8, 32, 46) := rfl
theorem f_Mo_look_46 : fetch 98 46 = some (.iload_n 2, 1, 0, 0, 0) := rfl
theorem f_Mo_look_47 : fetch 98 47 = some (.iaload, 1, 0, 0, 0) := rfl
theorem f_Mo_look_48 : fetch 98 48 = some (.goto 47, 3, 95, 0, 0) := rfl
theorem f_Mo_look_51 : fetch 98 51 = some (.iload_n 1, 1, 0, 0, 0) := rfl
theorem f_Mo_look_52 : fetch 98 52 = some (.iconst 1, 1, 0, 0, 0) := rfl
theorem f_Mo_look_53 : fetch 98 53 = some (.if_icmp .ne 12, 3, 65, 0, 0) := rfl
theorem f_Mo_look_56 : fetch 98 56 = some (.aload_n 0, 1, 0, 0, 0) := rfl
theorem f_Mo_look_57 : fetch 98 57 = some (.getfield 72, 3, 8, 33, 47) := rfl
theorem f_Mo_look_60 : fetch 98 60 = some (.iload_n 2, 1, 0, 0, 0) := rfl
theorem f_Mo_look_61 : fetch 98 61 = some (.iaload, 1, 0, 0, 0) := rfl
theorem f_Mo_look_62 : fetch 98 62 = some (.goto 33, 3, 95, 0, 0) := rfl
theorem f_Mo_look_65 : fetch 98 65 = some (.iload_n 1, 1, 0, 0, 0) := rfl
theorem f_Mo_look_66 : fetch 98 66 = some (.iconst 2, 1, 0, 0, 0) := rfl
theorem f_Mo_look_67 : fetch 98 67 = some (.if_icmp .ne 10, 3, 77, 0, 0) := rfl
theorem f_Mo_look_70 : fetch 98 70 = some (.aload_n 0, 1, 0, 0, 0) := rfl
theorem f_Mo_look_71 : fetch 98 71 = some (.getfield 275, 3, 8, 31, 71) := rfl
theorem f_Mo_look_74 : fetch 98 74 = some (.goto 21, 3, 95, 0, 0) := rfl
theorem f_Mo_look_77 : fetch 98 77 = some (.iload_n 1, 1, 0, 0, 0) := rfl
theorem f_Mo_look_78 : fetch 98 78 = some (.iconst 3, 1, 0, 0, 0) := rfl
theorem f_Mo_look_79 : fetch 98 79 = some (.if_icmp .ne 12, 3, 91, 0, 0) := rfl
theorem f_Mo_look_82 : fetch 98 82 = some (.aload_n 0, 1, 0, 0, 0) := rfl
theorem f_Mo_look_83 : fetch 98 83 = some (.getfield 75, 3, 8, 34, 48) := rfl
theorem f_Mo_look_86 : fetch 98 86 = some (.iload_n 2, 1, 0, 0, 0) := rfl
theorem f_Mo_look_87 : fetch 98 87 = some (.iaload, 1, 0, 0, 0) := rfl
theorem f_Mo_look_88 : fetch 98 88 = some (.goto 7, 3, 95, 0, 0) := rfl
theorem f_Mo_look_91 : fetch 98 91 = some (.aload_n 0, 1, 0, 0, 0) := rfl
theorem f_Mo_look_92 : fetch 98 92 = some (.getfield 272, 3, 8, 30, 70) := rfl
theorem f_Mo_look_95 : fetch 98 95 = some (.ireturn, 1, 0, 0, 0) := rfl
def F_Mo_look_95  (y0 : Int32) (σ : SG) : Option (Int32 × SG) :=
  some (y0, σ)
set_option maxHeartbeats 4000000 in
theorem w_Mo_look_95 {b d : Nat} {sc : SC} {pre tl : List PE} {B : Nat} {Q : Option Value → List PE → Prop} {res : Int32 × SG} (hB : B = b + pre.length)   (hQ : Q (some (.int res.1)) (HH pre tl SHm B res.2)) (lv : LV) (σ : SG) (y0 : Int32)  (hF : F_Mo_look_95  y0 σ = some res) : Rn b sc d 98 95 lv [.int (y0)] (HH pre tl SHm B σ) Q := by
  unfold F_Mo_look_95 at hF
  cases hF
  exact r_ireturn f_Mo_look_95 hQ
def F_Mo_look_31  (x0 : Nat) (x1 : Int32) (σ : SG) : Option (Int32 × SG) :=
  if x1 = 0 then
  if ((σ.1 (x0) 31) - (1 : Int32)) < 0 ∨ 8 ≤ (((σ.1 (x0) 31) - (1 : Int32))).toNatClampNeg then none else
  F_Mo_look_95 ((σ.2.2.2.1 ((cref SHm (x0) 32)) ((((σ.1 (x0) 31) - (1 : Int32))).toNatClampNeg))) σ
  else if x1 = (1 : Int32) then
  if ((σ.1 (x0) 31) - (1 : Int32)) < 0 ∨ 8 ≤ (((σ.1 (x0) 31) - (1 : Int32))).toNatClampNeg then none else
  F_Mo_look_95 ((σ.2.2.2.1 ((cref SHm (x0) 33)) ((((σ.1 (x0) 31) - (1 : Int32))).toNatClampNeg))) σ
  else if x1 = (2 : Int32) then
  F_Mo_look_95 ((σ.1 (x0) 31)) σ
  else if x1 = (3 : Int32) then
  if ((σ.1 (x0) 31) - (1 : Int32)) < 0 ∨ 8 ≤ (((σ.1 (x0) 31) - (1 : Int32))).toNatClampNeg then none else
  F_Mo_look_95 ((σ.2.2.2.1 ((cref SHm (x0) 34)) ((((σ.1 (x0) 31) - (1 : Int32))).toNatClampNeg))) σ
  else F_Mo_look_95 ((σ.1 (x0) 30)) σ
set_option maxHeartbeats 4000000 in
theorem w_Mo_look_31 {b d : Nat} {sc : SC} {pre tl : List PE} {B : Nat} {Q : Option Value → List PE → Prop} {res : Int32 × SG} (hB : B = b + pre.length)   (hQ : Q (some (.int res.1)) (HH pre tl SHm B res.2)) (lv : LV) (σ : SG) (x0 : Nat) (x1 : Int32) (hx0 : isC SHm (x0) 8 = true) (l0 : lv.lookup 0 = some (.ref (B + (x0)))) (l1 : lv.lookup 1 = some (.int (x1))) (hF : F_Mo_look_31  x0 x1 σ = some res) : Rn b sc d 98 31 lv [] (HH pre tl SHm B σ) Q := by
  unfold F_Mo_look_31 at hF
  refine r_aload_n f_Mo_look_31 l0 ?_
  refine t_geti hB hx0 f_Mo_look_32 rfl ?_
  refine r_iconst f_Mo_look_35 (v := 1) (by decide) ?_
  refine r_isub f_Mo_look_36 ?_
  refine r_istore_n f_Mo_look_37 ?_
  refine r_iload_n f_Mo_look_38 (lk_put_ne l1 (by decide) (Or.inl rfl)) ?_
  refine r_if_ne f_Mo_look_39 (fun c1 => ?_) (fun c1 => ?_)
  · rw [if_neg c1] at hF
    refine r_iload_n f_Mo_look_51 (lk_put_ne l1 (by decide) (Or.inl rfl)) ?_
    refine r_iconst f_Mo_look_52 (v := 1) (by decide) ?_
    refine r_icmp_ne f_Mo_look_53 (fun c2 => ?_) (fun c2 => ?_)
    · rw [if_neg c2] at hF
      refine r_iload_n f_Mo_look_65 (lk_put_ne l1 (by decide) (Or.inl rfl)) ?_
      refine r_iconst f_Mo_look_66 (v := 2) (by decide) ?_
      refine r_icmp_ne f_Mo_look_67 (fun c3 => ?_) (fun c3 => ?_)
      · rw [if_neg c3] at hF
        refine r_iload_n f_Mo_look_77 (lk_put_ne l1 (by decide) (Or.inl rfl)) ?_
        refine r_iconst f_Mo_look_78 (v := 3) (by decide) ?_
        refine r_icmp_ne f_Mo_look_79 (fun c4 => ?_) (fun c4 => ?_)
        · rw [if_neg c4] at hF
          refine r_aload_n f_Mo_look_91 (lk_put_ne l0 (by decide) (Or.inl rfl)) ?_
          refine t_geti hB hx0 f_Mo_look_92 rfl ?_
          exact w_Mo_look_95 hB   hQ _ (σ) ((σ.1 (x0) 30)) hF
        · rw [if_pos (Decidable.not_not.mp c4)] at hF
          refine r_aload_n f_Mo_look_82 (lk_put_ne l0 (by decide) (Or.inl rfl)) ?_
          refine t_getc hB hx0 f_Mo_look_83 rfl ?_
          refine r_iload_n f_Mo_look_86 lk_put ?_
          by_cases c5 : ((σ.1 (x0) 31) - (1 : Int32)) < 0 ∨ 8 ≤ (((σ.1 (x0) 31) - (1 : Int32))).toNatClampNeg
          · rw [if_pos c5] at hF; cases hF
          rw [if_neg c5] at hF
          refine t_iald hB (cc_8_34 hx0) f_Mo_look_87 c5 ?_
          refine r_goto f_Mo_look_88 ?_
          exact w_Mo_look_95 hB   hQ _ (σ) ((σ.2.2.2.1 ((cref SHm (x0) 34)) ((((σ.1 (x0) 31) - (1 : Int32))).toNatClampNeg))) hF
      · rw [if_pos (Decidable.not_not.mp c3)] at hF
        refine r_aload_n f_Mo_look_70 (lk_put_ne l0 (by decide) (Or.inl rfl)) ?_
        refine t_geti hB hx0 f_Mo_look_71 rfl ?_
        refine r_goto f_Mo_look_74 ?_
        exact w_Mo_look_95 hB   hQ _ (σ) ((σ.1 (x0) 31)) hF
    · rw [if_pos (Decidable.not_not.mp c2)] at hF
      refine r_aload_n f_Mo_look_56 (lk_put_ne l0 (by decide) (Or.inl rfl)) ?_
      refine t_getc hB hx0 f_Mo_look_57 rfl ?_
      refine r_iload_n f_Mo_look_60 lk_put ?_
      by_cases c6 : ((σ.1 (x0) 31) - (1 : Int32)) < 0 ∨ 8 ≤ (((σ.1 (x0) 31) - (1 : Int32))).toNatClampNeg
      · rw [if_pos c6] at hF; cases hF
      rw [if_neg c6] at hF
      refine t_iald hB (cc_8_33 hx0) f_Mo_look_61 c6 ?_
      refine r_goto f_Mo_look_62 ?_
      exact w_Mo_look_95 hB   hQ _ (σ) ((σ.2.2.2.1 ((cref SHm (x0) 33)) ((((σ.1 (x0) 31) - (1 : Int32))).toNatClampNeg))) hF
  · rw [if_pos (Decidable.not_not.mp c1)] at hF
    refine r_aload_n f_Mo_look_42 (lk_put_ne l0 (by decide) (Or.inl rfl)) ?_
    refine t_getc hB hx0 f_Mo_look_43 rfl ?_
    refine r_iload_n f_Mo_look_46 lk_put ?_
    by_cases c7 : ((σ.1 (x0) 31) - (1 : Int32)) < 0 ∨ 8 ≤ (((σ.1 (x0) 31) - (1 : Int32))).toNatClampNeg
    · rw [if_pos c7] at hF; cases hF
    rw [if_neg c7] at hF
    refine t_iald hB (cc_8_32 hx0) f_Mo_look_47 c7 ?_
    refine r_goto f_Mo_look_48 ?_
    exact w_Mo_look_95 hB   hQ _ (σ) ((σ.2.2.2.1 ((cref SHm (x0) 32)) ((((σ.1 (x0) 31) - (1 : Int32))).toNatClampNeg))) hF
def F_Mo_look_29   (σ : SG) : Option (Int32 × SG) :=
  some (((-1) : Int32), σ)
set_option maxHeartbeats 4000000 in
theorem w_Mo_look_29 {b d : Nat} {sc : SC} {pre tl : List PE} {B : Nat} {Q : Option Value → List PE → Prop} {res : Int32 × SG} (hB : B = b + pre.length)   (hQ : Q (some (.int res.1)) (HH pre tl SHm B res.2)) (lv : LV) (σ : SG)   (hF : F_Mo_look_29   σ = some res) : Rn b sc d 98 29 lv [] (HH pre tl SHm B σ) Q := by
  unfold F_Mo_look_29 at hF
  refine r_iconst f_Mo_look_29 (v := (-1)) (by decide) ?_
  cases hF
  exact r_ireturn f_Mo_look_30 hQ
def F_Mo_look (a0 : Nat) (a1 : Int32) (σ : SG) : Option (Int32 × SG) :=
  if (σ.1 (a0) 28) = 0 then
  F_Mo_look_29 σ
  else if a1 < 0 then
  F_Mo_look_29 σ
  else if (4 : Int32) < a1 then
  F_Mo_look_29 σ
  else if (4 : Int32) ≤ a1 then
  F_Mo_look_31 (a0) (a1) σ
  else if (σ.1 (a0) 28) ≤ (1 : Int32) then
  F_Mo_look_31 (a0) (a1) σ
  else F_Mo_look_29 σ
set_option maxHeartbeats 4000000 in
theorem w_Mo_look {b d : Nat} {pre tl : List PE} {B : Nat} {Q : Option Value → List PE → Prop} {res : Int32 × SG} (hB : B = b + pre.length)  {σ : SG} (a0 : Nat) (a1 : Int32) (ha0 : isC SHm (a0) 8 = true) (hF : F_Mo_look a0 a1 σ = some res) (hQ : Q (some (.int res.1)) (HH pre tl SHm B res.2)) : Cl b d 98 [.ref (B + (a0)), .int (a1)] (HH pre tl SHm B σ) Q := by
  unfold Cl
  unfold F_Mo_look at hF
  refine r_aload_n f_Mo_look_0 rfl ?_
  refine t_geti hB ha0 f_Mo_look_1 rfl ?_
  refine r_if_eq f_Mo_look_4 (fun c8 => ?_) (fun c8 => ?_)
  · rw [if_pos c8] at hF
    exact w_Mo_look_29 hB   hQ _ (σ) hF
  · rw [if_neg c8] at hF
    refine r_iload_n f_Mo_look_7 rfl ?_
    refine r_if_lt f_Mo_look_8 (fun c9 => ?_) (fun c9 => ?_)
    · rw [if_pos c9] at hF
      exact w_Mo_look_29 hB   hQ _ (σ) hF
    · rw [if_neg c9] at hF
      refine r_iload_n f_Mo_look_11 rfl ?_
      refine r_iconst f_Mo_look_12 (v := 4) (by decide) ?_
      refine r_icmp_gt f_Mo_look_13 (fun c10 => ?_) (fun c10 => ?_)
      · rw [if_pos c10] at hF
        exact w_Mo_look_29 hB   hQ _ (σ) hF
      · rw [if_neg c10] at hF
        refine r_iload_n f_Mo_look_16 rfl ?_
        refine r_iconst f_Mo_look_17 (v := 4) (by decide) ?_
        refine r_icmp_ge f_Mo_look_18 (fun c11 => ?_) (fun c11 => ?_)
        · rw [if_pos c11] at hF
          exact w_Mo_look_31 hB   hQ _ (σ) (a0) (a1) ha0 rfl rfl hF
        · rw [if_neg c11] at hF
          refine r_aload_n f_Mo_look_21 rfl ?_
          refine t_geti hB ha0 f_Mo_look_22 rfl ?_
          refine r_iconst f_Mo_look_25 (v := 1) (by decide) ?_
          refine r_icmp_le f_Mo_look_26 (fun c12 => ?_) (fun c12 => ?_)
          · rw [if_pos c12] at hF
            exact w_Mo_look_31 hB   hQ _ (σ) (a0) (a1) ha0 rfl rfl hF
          · rw [if_neg c12] at hF
            exact w_Mo_look_29 hB   hQ _ (σ) hF
theorem f_Mo_peek_0 : fetch 99 0 = some (.aload_n 0, 1, 0, 0, 0) := rfl
theorem f_Mo_peek_1 : fetch 99 1 = some (.getfield 147, 3, 8, 28, 61) := rfl
theorem f_Mo_peek_4 : fetch 99 4 = some (.iconst 1, 1, 0, 0, 0) := rfl
theorem f_Mo_peek_5 : fetch 99 5 = some (.if_icmp .eq 5, 3, 10, 0, 0) := rfl
theorem f_Mo_peek_8 : fetch 99 8 = some (.iconst 0, 1, 0, 0, 0) := rfl
theorem f_Mo_peek_9 : fetch 99 9 = some (.ireturn, 1, 0, 0, 0) := rfl
theorem f_Mo_peek_10 : fetch 99 10 = some (.aload_n 0, 1, 0, 0, 0) := rfl
theorem f_Mo_peek_11 : fetch 99 11 = some (.getfield 275, 3, 8, 31, 71) := rfl
theorem f_Mo_peek_14 : fetch 99 14 = some (.iconst 1, 1, 0, 0, 0) := rfl
theorem f_Mo_peek_15 : fetch 99 15 = some (.isub, 1, 0, 0, 0) := rfl
theorem f_Mo_peek_16 : fetch 99 16 = some (.istore_n 2, 1, 0, 0, 0) := rfl
theorem f_Mo_peek_17 : fetch 99 17 = some (.aload_n 0, 1, 0, 0, 0) := rfl
theorem f_Mo_peek_18 : fetch 99 18 = some (.aload_n 0, 1, 0, 0, 0) := rfl
theorem f_Mo_peek_19 : fetch 99 19 = some (.getfield 69, 3, 8, 32, 46) := rfl
theorem f_Mo_peek_22 : fetch 99 22 = some (.iload_n 2, 1, 0, 0, 0) := rfl
theorem f_Mo_peek_23 : fetch 99 23 = some (.iaload, 1, 0, 0, 0) := rfl
theorem f_Mo_peek_24 : fetch 99 24 = some (.aload_n 0, 1, 0, 0, 0) := rfl
theorem f_Mo_peek_25 : fetch 99 25 = some (.getfield 72, 3, 8, 33, 47) := rfl
theorem f_Mo_peek_28 : fetch 99 28 = some (.iload_n 2, 1, 0, 0, 0) := rfl
theorem f_Mo_peek_29 : fetch 99 29 = some (.iaload, 1, 0, 0, 0) := rfl
theorem f_Mo_peek_30 : fetch 99 30 = some (.iload_n 1, 1, 0, 0, 0) := rfl
theorem f_Mo_peek_31 : fetch 99 31 = some (.invokevirtual 359, 3, 67, 3, 101) := rfl
theorem f_Mo_peek_34 : fetch 99 34 = some (.iconst 1, 1, 0, 0, 0) := rfl
theorem f_Mo_peek_35 : fetch 99 35 = some (.if_icmp .ne 17, 3, 52, 0, 0) := rfl
theorem f_Mo_peek_38 : fetch 99 38 = some (.aload_n 0, 1, 0, 0, 0) := rfl
theorem f_Mo_peek_39 : fetch 99 39 = some (.getfield 78, 3, 8, 35, 49) := rfl
theorem f_Mo_peek_42 : fetch 99 42 = some (.bipush 8, 2, 0, 0, 0) := rfl
theorem f_Mo_peek_44 : fetch 99 44 = some (.iload_n 2, 1, 0, 0, 0) := rfl
theorem f_Mo_peek_45 : fetch 99 45 = some (.imul, 1, 0, 0, 0) := rfl
theorem f_Mo_peek_46 : fetch 99 46 = some (.iload_n 1, 1, 0, 0, 0) := rfl
theorem f_Mo_peek_47 : fetch 99 47 = some (.iadd, 1, 0, 0, 0) := rfl
theorem f_Mo_peek_48 : fetch 99 48 = some (.iaload, 1, 0, 0, 0) := rfl
theorem f_Mo_peek_49 : fetch 99 49 = some (.goto 4, 3, 53, 0, 0) := rfl
theorem f_Mo_peek_52 : fetch 99 52 = some (.iconst 0, 1, 0, 0, 0) := rfl
theorem f_Mo_peek_53 : fetch 99 53 = some (.ireturn, 1, 0, 0, 0) := rfl
def F_Mo_peek_53  (y0 : Int32) (σ : SG) : Option (Int32 × SG) :=
  some (y0, σ)
set_option maxHeartbeats 4000000 in
theorem w_Mo_peek_53 {b d : Nat} {sc : SC} {pre tl : List PE} {B : Nat} {Q : Option Value → List PE → Prop} {res : Int32 × SG} (hB : B = b + pre.length) (hd : 3 ≤ d)   (hQ : Q (some (.int res.1)) (HH pre tl SHm B res.2)) (lv : LV) (σ : SG) (y0 : Int32)  (hF : F_Mo_peek_53  y0 σ = some res) : Rn b sc d 99 53 lv [.int (y0)] (HH pre tl SHm B σ) Q := by
  obtain ⟨e0, rfl⟩ : ∃ e, d = e + 1 := ⟨d - 1, by omega⟩
  unfold F_Mo_peek_53 at hF
  cases hF
  exact r_ireturn f_Mo_peek_53 hQ
def F_Mo_peek (a0 : Nat) (a1 : Int32) (σ : SG) : Option (Int32 × SG) :=
  if (σ.1 (a0) 28) = (1 : Int32) then
  if ((σ.1 (a0) 31) - (1 : Int32)) < 0 ∨ 8 ≤ (((σ.1 (a0) 31) - (1 : Int32))).toNatClampNeg then none else
  if ((σ.1 (a0) 31) - (1 : Int32)) < 0 ∨ 8 ≤ (((σ.1 (a0) 31) - (1 : Int32))).toNatClampNeg then none else
  match F_Mo_type (a0) ((σ.2.2.2.1 ((cref SHm (a0) 32)) ((((σ.1 (a0) 31) - (1 : Int32))).toNatClampNeg))) ((σ.2.2.2.1 ((cref SHm (a0) 33)) ((((σ.1 (a0) 31) - (1 : Int32))).toNatClampNeg))) (a1) σ with
  | none => none
  | some q4 =>
  if q4.1 = (1 : Int32) then
  if (((8 : Int32) * ((σ.1 (a0) 31) - (1 : Int32))) + a1) < 0 ∨ 64 ≤ ((((8 : Int32) * ((σ.1 (a0) 31) - (1 : Int32))) + a1)).toNatClampNeg then none else
  F_Mo_peek_53 ((q4.2.2.2.2.1 ((cref SHm (a0) 35)) (((((8 : Int32) * ((σ.1 (a0) 31) - (1 : Int32))) + a1)).toNatClampNeg))) q4.2
  else F_Mo_peek_53 ((0 : Int32)) q4.2
  else some ((0 : Int32), σ)
set_option maxHeartbeats 4000000 in
theorem w_Mo_peek {b d : Nat} {pre tl : List PE} {B : Nat} {Q : Option Value → List PE → Prop} {res : Int32 × SG} (hB : B = b + pre.length) (hd : 3 ≤ d)  {σ : SG} (a0 : Nat) (a1 : Int32) (ha0 : isC SHm (a0) 8 = true) (hF : F_Mo_peek a0 a1 σ = some res) (hQ : Q (some (.int res.1)) (HH pre tl SHm B res.2)) : Cl b d 99 [.ref (B + (a0)), .int (a1)] (HH pre tl SHm B σ) Q := by
  obtain ⟨e0, rfl⟩ : ∃ e, d = e + 1 := ⟨d - 1, by omega⟩
  unfold Cl
  unfold F_Mo_peek at hF
  refine r_aload_n f_Mo_peek_0 rfl ?_
  refine t_geti hB ha0 f_Mo_peek_1 rfl ?_
  refine r_iconst f_Mo_peek_4 (v := 1) (by decide) ?_
  refine r_icmp_eq f_Mo_peek_5 (fun c1 => ?_) (fun c1 => ?_)
  · rw [if_pos c1] at hF
    refine r_aload_n f_Mo_peek_10 rfl ?_
    refine t_geti hB ha0 f_Mo_peek_11 rfl ?_
    refine r_iconst f_Mo_peek_14 (v := 1) (by decide) ?_
    refine r_isub f_Mo_peek_15 ?_
    refine r_istore_n f_Mo_peek_16 ?_
    refine r_aload_n f_Mo_peek_17 (lk_put_ne rfl (by decide) (Or.inl rfl)) ?_
    refine r_aload_n f_Mo_peek_18 (lk_put_ne rfl (by decide) (Or.inl rfl)) ?_
    refine t_getc hB ha0 f_Mo_peek_19 rfl ?_
    refine r_iload_n f_Mo_peek_22 lk_put ?_
    by_cases c2 : ((σ.1 (a0) 31) - (1 : Int32)) < 0 ∨ 8 ≤ (((σ.1 (a0) 31) - (1 : Int32))).toNatClampNeg
    · rw [if_pos c2] at hF; cases hF
    rw [if_neg c2] at hF
    refine t_iald hB (cc_8_32 ha0) f_Mo_peek_23 c2 ?_
    refine r_aload_n f_Mo_peek_24 (lk_put_ne rfl (by decide) (Or.inl rfl)) ?_
    refine t_getc hB ha0 f_Mo_peek_25 rfl ?_
    refine r_iload_n f_Mo_peek_28 lk_put ?_
    by_cases c3 : ((σ.1 (a0) 31) - (1 : Int32)) < 0 ∨ 8 ≤ (((σ.1 (a0) 31) - (1 : Int32))).toNatClampNeg
    · rw [if_pos c3] at hF; cases hF
    rw [if_neg c3] at hF
    refine t_iald hB (cc_8_33 ha0) f_Mo_peek_29 c3 ?_
    refine r_iload_n f_Mo_peek_30 (lk_put_ne rfl (by decide) (Or.inl rfl)) ?_
    cases hq4 : F_Mo_type (a0) ((σ.2.2.2.1 ((cref SHm (a0) 32)) ((((σ.1 (a0) 31) - (1 : Int32))).toNatClampNeg))) ((σ.2.2.2.1 ((cref SHm (a0) 33)) ((((σ.1 (a0) 31) - (1 : Int32))).toNatClampNeg))) (a1) σ with
    | none => simp only [hq4] at hF; cases hF
    | some q4 =>
      simp only [hq4] at hF
      refine t_V3i hB ha0 rfl rfl f_Mo_peek_31 (by decide) (Nat.le_of_ble_eq_true rfl) (Nat.le_of_ble_eq_true rfl) (w_Mo_type hB (by omega) (a0) ((σ.2.2.2.1 ((cref SHm (a0) 32)) ((((σ.1 (a0) 31) - (1 : Int32))).toNatClampNeg))) ((σ.2.2.2.1 ((cref SHm (a0) 33)) ((((σ.1 (a0) 31) - (1 : Int32))).toNatClampNeg))) (a1) ha0 hq4 ⟨_, rfl, ?_⟩)
      refine r_iconst f_Mo_peek_34 (v := 1) (by decide) ?_
      refine r_icmp_ne f_Mo_peek_35 (fun c5 => ?_) (fun c5 => ?_)
      · rw [if_neg c5] at hF
        refine r_iconst f_Mo_peek_52 (v := 0) (by decide) ?_
        exact w_Mo_peek_53 hB hd  hQ _ (q4.2) ((0 : Int32)) hF
      · rw [if_pos (Decidable.not_not.mp c5)] at hF
        refine r_aload_n f_Mo_peek_38 (lk_put_ne rfl (by decide) (Or.inl rfl)) ?_
        refine t_getc hB ha0 f_Mo_peek_39 rfl ?_
        refine r_bipush f_Mo_peek_42 (v := 8) (by decide) ?_
        refine r_iload_n f_Mo_peek_44 lk_put ?_
        refine r_imul f_Mo_peek_45 ?_
        refine r_iload_n f_Mo_peek_46 (lk_put_ne rfl (by decide) (Or.inl rfl)) ?_
        refine r_iadd f_Mo_peek_47 ?_
        by_cases c6 : (((8 : Int32) * ((σ.1 (a0) 31) - (1 : Int32))) + a1) < 0 ∨ 64 ≤ ((((8 : Int32) * ((σ.1 (a0) 31) - (1 : Int32))) + a1)).toNatClampNeg
        · rw [if_pos c6] at hF; cases hF
        rw [if_neg c6] at hF
        refine t_iald hB (cc_8_35 ha0) f_Mo_peek_48 c6 ?_
        refine r_goto f_Mo_peek_49 ?_
        exact w_Mo_peek_53 hB hd  hQ _ (q4.2) ((q4.2.2.2.2.1 ((cref SHm (a0) 35)) (((((8 : Int32) * ((σ.1 (a0) 31) - (1 : Int32))) + a1)).toNatClampNeg))) hF
  · rw [if_neg c1] at hF
    refine r_iconst f_Mo_peek_8 (v := 0) (by decide) ?_
    cases hF
    exact r_ireturn f_Mo_peek_9 hQ
theorem f_Mo_entered_0 : fetch 100 0 = some (.aload_n 0, 1, 0, 0, 0) := rfl
theorem f_Mo_entered_1 : fetch 100 1 = some (.getfield 147, 3, 8, 28, 61) := rfl
theorem f_Mo_entered_4 : fetch 100 4 = some (.ifCond .eq 29, 3, 33, 0, 0) := rfl
theorem f_Mo_entered_7 : fetch 100 7 = some (.iload_n 1, 1, 0, 0, 0) := rfl
theorem f_Mo_entered_8 : fetch 100 8 = some (.ifCond .lt 25, 3, 33, 0, 0) := rfl
theorem f_Mo_entered_11 : fetch 100 11 = some (.iload_n 1, 1, 0, 0, 0) := rfl
theorem f_Mo_entered_12 : fetch 100 12 = some (.aload_n 0, 1, 0, 0, 0) := rfl
theorem f_Mo_entered_13 : fetch 100 13 = some (.getfield 136, 3, 8, 7, 62) := rfl
theorem f_Mo_entered_16 : fetch 100 16 = some (.if_icmp .ge 17, 3, 33, 0, 0) := rfl
theorem f_Mo_entered_19 : fetch 100 19 = some (.iload_n 2, 1, 0, 0, 0) := rfl
theorem f_Mo_entered_20 : fetch 100 20 = some (.ifCond .lt 13, 3, 33, 0, 0) := rfl
theorem f_Mo_entered_23 : fetch 100 23 = some (.iload_n 2, 1, 0, 0, 0) := rfl
theorem f_Mo_entered_24 : fetch 100 24 = some (.aload_n 0, 1, 0, 0, 0) := rfl
theorem f_Mo_entered_25 : fetch 100 25 = some (.getfield 34, 3, 8, 13, 35) := rfl
theorem f_Mo_entered_28 : fetch 100 28 = some (.iload_n 1, 1, 0, 0, 0) := rfl
theorem f_Mo_entered_29 : fetch 100 29 = some (.iaload, 1, 0, 0, 0) := rfl
theorem f_Mo_entered_30 : fetch 100 30 = some (.if_icmp .lt 7, 3, 37, 0, 0) := rfl
theorem f_Mo_entered_33 : fetch 100 33 = some (.iconst 0, 1, 0, 0, 0) := rfl
theorem f_Mo_entered_34 : fetch 100 34 = some (.goto 13, 3, 47, 0, 0) := rfl
theorem f_Mo_entered_37 : fetch 100 37 = some (.aload_n 0, 1, 0, 0, 0) := rfl
theorem f_Mo_entered_38 : fetch 100 38 = some (.getfield 102, 3, 8, 43, 57) := rfl
theorem f_Mo_entered_41 : fetch 100 41 = some (.iconst 3, 1, 0, 0, 0) := rfl
theorem f_Mo_entered_42 : fetch 100 42 = some (.iload_n 1, 1, 0, 0, 0) := rfl
theorem f_Mo_entered_43 : fetch 100 43 = some (.imul, 1, 0, 0, 0) := rfl
theorem f_Mo_entered_44 : fetch 100 44 = some (.iload_n 2, 1, 0, 0, 0) := rfl
theorem f_Mo_entered_45 : fetch 100 45 = some (.iadd, 1, 0, 0, 0) := rfl
theorem f_Mo_entered_46 : fetch 100 46 = some (.iaload, 1, 0, 0, 0) := rfl
theorem f_Mo_entered_47 : fetch 100 47 = some (.ireturn, 1, 0, 0, 0) := rfl
def F_Mo_entered_47  (y0 : Int32) (σ : SG) : Option (Int32 × SG) :=
  some (y0, σ)
set_option maxHeartbeats 4000000 in
theorem w_Mo_entered_47 {b d : Nat} {sc : SC} {pre tl : List PE} {B : Nat} {Q : Option Value → List PE → Prop} {res : Int32 × SG} (hB : B = b + pre.length)   (hQ : Q (some (.int res.1)) (HH pre tl SHm B res.2)) (lv : LV) (σ : SG) (y0 : Int32)  (hF : F_Mo_entered_47  y0 σ = some res) : Rn b sc d 100 47 lv [.int (y0)] (HH pre tl SHm B σ) Q := by
  unfold F_Mo_entered_47 at hF
  cases hF
  exact r_ireturn f_Mo_entered_47 hQ
def F_Mo_entered_33   (σ : SG) : Option (Int32 × SG) :=
  F_Mo_entered_47 ((0 : Int32)) σ
set_option maxHeartbeats 4000000 in
theorem w_Mo_entered_33 {b d : Nat} {sc : SC} {pre tl : List PE} {B : Nat} {Q : Option Value → List PE → Prop} {res : Int32 × SG} (hB : B = b + pre.length)   (hQ : Q (some (.int res.1)) (HH pre tl SHm B res.2)) (lv : LV) (σ : SG)   (hF : F_Mo_entered_33   σ = some res) : Rn b sc d 100 33 lv [] (HH pre tl SHm B σ) Q := by
  unfold F_Mo_entered_33 at hF
  refine r_iconst f_Mo_entered_33 (v := 0) (by decide) ?_
  refine r_goto f_Mo_entered_34 ?_
  exact w_Mo_entered_47 hB   hQ _ (σ) ((0 : Int32)) hF
def F_Mo_entered (a0 : Nat) (a1 : Int32) (a2 : Int32) (σ : SG) : Option (Int32 × SG) :=
  if (σ.1 (a0) 28) = 0 then
  F_Mo_entered_33 σ
  else if a1 < 0 then
  F_Mo_entered_33 σ
  else if (σ.1 (a0) 7) ≤ a1 then
  F_Mo_entered_33 σ
  else if a2 < 0 then
  F_Mo_entered_33 σ
  else if a1 < 0 ∨ 6 ≤ (a1).toNatClampNeg then none else
  if a2 < (σ.2.2.2.1 ((cref SHm (a0) 13)) ((a1).toNatClampNeg)) then
  if (((3 : Int32) * a1) + a2) < 0 ∨ 18 ≤ ((((3 : Int32) * a1) + a2)).toNatClampNeg then none else
  F_Mo_entered_47 ((σ.2.2.2.1 ((cref SHm (a0) 43)) (((((3 : Int32) * a1) + a2)).toNatClampNeg))) σ
  else F_Mo_entered_33 σ
set_option maxHeartbeats 4000000 in
theorem w_Mo_entered {b d : Nat} {pre tl : List PE} {B : Nat} {Q : Option Value → List PE → Prop} {res : Int32 × SG} (hB : B = b + pre.length)  {σ : SG} (a0 : Nat) (a1 : Int32) (a2 : Int32) (ha0 : isC SHm (a0) 8 = true) (hF : F_Mo_entered a0 a1 a2 σ = some res) (hQ : Q (some (.int res.1)) (HH pre tl SHm B res.2)) : Cl b d 100 [.ref (B + (a0)), .int (a1), .int (a2)] (HH pre tl SHm B σ) Q := by
  unfold Cl
  unfold F_Mo_entered at hF
  refine r_aload_n f_Mo_entered_0 rfl ?_
  refine t_geti hB ha0 f_Mo_entered_1 rfl ?_
  refine r_if_eq f_Mo_entered_4 (fun c1 => ?_) (fun c1 => ?_)
  · rw [if_pos c1] at hF
    exact w_Mo_entered_33 hB   hQ _ (σ) hF
  · rw [if_neg c1] at hF
    refine r_iload_n f_Mo_entered_7 rfl ?_
    refine r_if_lt f_Mo_entered_8 (fun c2 => ?_) (fun c2 => ?_)
    · rw [if_pos c2] at hF
      exact w_Mo_entered_33 hB   hQ _ (σ) hF
    · rw [if_neg c2] at hF
      refine r_iload_n f_Mo_entered_11 rfl ?_
      refine r_aload_n f_Mo_entered_12 rfl ?_
      refine t_geti hB ha0 f_Mo_entered_13 rfl ?_
      refine r_icmp_ge f_Mo_entered_16 (fun c3 => ?_) (fun c3 => ?_)
      · rw [if_pos c3] at hF
        exact w_Mo_entered_33 hB   hQ _ (σ) hF
      · rw [if_neg c3] at hF
        refine r_iload_n f_Mo_entered_19 rfl ?_
        refine r_if_lt f_Mo_entered_20 (fun c4 => ?_) (fun c4 => ?_)
        · rw [if_pos c4] at hF
          exact w_Mo_entered_33 hB   hQ _ (σ) hF
        · rw [if_neg c4] at hF
          refine r_iload_n f_Mo_entered_23 rfl ?_
          refine r_aload_n f_Mo_entered_24 rfl ?_
          refine t_getc hB ha0 f_Mo_entered_25 rfl ?_
          refine r_iload_n f_Mo_entered_28 rfl ?_
          by_cases c5 : a1 < 0 ∨ 6 ≤ (a1).toNatClampNeg
          · rw [if_pos c5] at hF; cases hF
          rw [if_neg c5] at hF
          refine t_iald hB (cc_8_13 ha0) f_Mo_entered_29 c5 ?_
          refine r_icmp_lt f_Mo_entered_30 (fun c6 => ?_) (fun c6 => ?_)
          · rw [if_pos c6] at hF
            refine r_aload_n f_Mo_entered_37 rfl ?_
            refine t_getc hB ha0 f_Mo_entered_38 rfl ?_
            refine r_iconst f_Mo_entered_41 (v := 3) (by decide) ?_
            refine r_iload_n f_Mo_entered_42 rfl ?_
            refine r_imul f_Mo_entered_43 ?_
            refine r_iload_n f_Mo_entered_44 rfl ?_
            refine r_iadd f_Mo_entered_45 ?_
            by_cases c7 : (((3 : Int32) * a1) + a2) < 0 ∨ 18 ≤ ((((3 : Int32) * a1) + a2)).toNatClampNeg
            · rw [if_pos c7] at hF; cases hF
            rw [if_neg c7] at hF
            refine t_iald hB (cc_8_43 ha0) f_Mo_entered_46 c7 ?_
            exact w_Mo_entered_47 hB   hQ _ (σ) ((σ.2.2.2.1 ((cref SHm (a0) 43)) (((((3 : Int32) * a1) + a2)).toNatClampNeg))) hF
          · rw [if_neg c6] at hF
            exact w_Mo_entered_33 hB   hQ _ (σ) hF
theorem f_Op_isKnown_0 : fetch 101 0 = some (.iload_n 0, 1, 0, 0, 0) := rfl
theorem f_Op_isKnown_1 : fetch 101 1 = some (.ifCond .lt 13, 3, 14, 0, 0) := rfl
theorem f_Op_isKnown_4 : fetch 101 4 = some (.iload_n 0, 1, 0, 0, 0) := rfl
theorem f_Op_isKnown_5 : fetch 101 5 = some (.bipush 37, 2, 0, 0, 0) := rfl
theorem f_Op_isKnown_7 : fetch 101 7 = some (.if_icmp .gt 7, 3, 14, 0, 0) := rfl
theorem f_Op_isKnown_10 : fetch 101 10 = some (.iconst 1, 1, 0, 0, 0) := rfl
theorem f_Op_isKnown_11 : fetch 101 11 = some (.goto 4, 3, 15, 0, 0) := rfl
theorem f_Op_isKnown_14 : fetch 101 14 = some (.iconst 0, 1, 0, 0, 0) := rfl
theorem f_Op_isKnown_15 : fetch 101 15 = some (.ireturn, 1, 2, 0, 0) := rfl
def F_Op_isKnown_15  (y0 : Bool) (σ : SG) : Option (Bool × SG) :=
  some (y0, σ)
set_option maxHeartbeats 4000000 in
theorem w_Op_isKnown_15 {b d : Nat} {sc : SC} {pre tl : List PE} {B : Nat} {Q : Option Value → List PE → Prop} {res : Bool × SG} (hB : B = b + pre.length)   (hQ : Q (some (.int (bz res.1))) (HH pre tl SHc B res.2)) (lv : LV) (σ : SG) (y0 : Bool)  (hF : F_Op_isKnown_15  y0 σ = some res) : Rn b sc d 101 15 lv [.int (bz (y0))] (HH pre tl SHc B σ) Q := by
  unfold F_Op_isKnown_15 at hF
  cases hF
  exact r_zreturn f_Op_isKnown_15 (bz_or (y0)) hQ
def F_Op_isKnown_14   (σ : SG) : Option (Bool × SG) :=
  F_Op_isKnown_15 (false) σ
set_option maxHeartbeats 4000000 in
theorem w_Op_isKnown_14 {b d : Nat} {sc : SC} {pre tl : List PE} {B : Nat} {Q : Option Value → List PE → Prop} {res : Bool × SG} (hB : B = b + pre.length)   (hQ : Q (some (.int (bz res.1))) (HH pre tl SHc B res.2)) (lv : LV) (σ : SG)   (hF : F_Op_isKnown_14   σ = some res) : Rn b sc d 101 14 lv [] (HH pre tl SHc B σ) Q := by
  unfold F_Op_isKnown_14 at hF
  refine r_iconst f_Op_isKnown_14 (v := 0) (by decide) ?_
  exact w_Op_isKnown_15 hB   hQ _ (σ) (false) hF
def F_Op_isKnown (a0 : Int32) (σ : SG) : Option (Bool × SG) :=
  if a0 < 0 then
  F_Op_isKnown_14 σ
  else if (37 : Int32) < a0 then
  F_Op_isKnown_14 σ
  else F_Op_isKnown_15 (true) σ
set_option maxHeartbeats 4000000 in
theorem w_Op_isKnown {b d : Nat} {pre tl : List PE} {B : Nat} {Q : Option Value → List PE → Prop} {res : Bool × SG} (hB : B = b + pre.length)  {σ : SG} (a0 : Int32)  (hF : F_Op_isKnown a0 σ = some res) (hQ : Q (some (.int (bz res.1))) (HH pre tl SHc B res.2)) : Cl b d 101 [.int (a0)] (HH pre tl SHc B σ) Q := by
  unfold Cl
  unfold F_Op_isKnown at hF
  refine r_iload_n f_Op_isKnown_0 rfl ?_
  refine r_if_lt f_Op_isKnown_1 (fun c1 => ?_) (fun c1 => ?_)
  · rw [if_pos c1] at hF
    exact w_Op_isKnown_14 hB   hQ _ (σ) hF
  · rw [if_neg c1] at hF
    refine r_iload_n f_Op_isKnown_4 rfl ?_
    refine r_bipush f_Op_isKnown_5 (v := 37) (by decide) ?_
    refine r_icmp_gt f_Op_isKnown_7 (fun c2 => ?_) (fun c2 => ?_)
    · rw [if_pos c2] at hF
      exact w_Op_isKnown_14 hB   hQ _ (σ) hF
    · rw [if_neg c2] at hF
      refine r_iconst f_Op_isKnown_10 (v := 1) (by decide) ?_
      refine r_goto f_Op_isKnown_11 ?_
      exact w_Op_isKnown_15 hB   hQ _ (σ) (true) hF
theorem f_Op_width_0 : fetch 102 0 = some (.iload_n 0, 1, 0, 0, 0) := rfl
theorem f_Op_width_1 : fetch 102 1 = some (.iconst 1, 1, 0, 0, 0) := rfl
theorem f_Op_width_2 : fetch 102 2 = some (.if_icmp .lt 13, 3, 15, 0, 0) := rfl
theorem f_Op_width_5 : fetch 102 5 = some (.iload_n 0, 1, 0, 0, 0) := rfl
theorem f_Op_width_6 : fetch 102 6 = some (.bipush 6, 2, 0, 0, 0) := rfl
theorem f_Op_width_8 : fetch 102 8 = some (.if_icmp .gt 7, 3, 15, 0, 0) := rfl
theorem f_Op_width_11 : fetch 102 11 = some (.iconst 1, 1, 0, 0, 0) := rfl
theorem f_Op_width_12 : fetch 102 12 = some (.goto 4, 3, 16, 0, 0) := rfl
theorem f_Op_width_15 : fetch 102 15 = some (.iconst 0, 1, 0, 0, 0) := rfl
theorem f_Op_width_16 : fetch 102 16 = some (.istore_n 1, 1, 0, 0, 0) := rfl
theorem f_Op_width_17 : fetch 102 17 = some (.iload_n 0, 1, 0, 0, 0) := rfl
theorem f_Op_width_18 : fetch 102 18 = some (.bipush 13, 2, 0, 0, 0) := rfl
theorem f_Op_width_20 : fetch 102 20 = some (.if_icmp .lt 13, 3, 33, 0, 0) := rfl
theorem f_Op_width_23 : fetch 102 23 = some (.iload_n 0, 1, 0, 0, 0) := rfl
theorem f_Op_width_24 : fetch 102 24 = some (.bipush 20, 2, 0, 0, 0) := rfl
theorem f_Op_width_26 : fetch 102 26 = some (.if_icmp .gt 7, 3, 33, 0, 0) := rfl
theorem f_Op_width_29 : fetch 102 29 = some (.iconst 1, 1, 0, 0, 0) := rfl
theorem f_Op_width_30 : fetch 102 30 = some (.goto 4, 3, 34, 0, 0) := rfl
theorem f_Op_width_33 : fetch 102 33 = some (.iconst 0, 1, 0, 0, 0) := rfl
theorem f_Op_width_34 : fetch 102 34 = some (.istore_n 2, 1, 0, 0, 0) := rfl
theorem f_Op_width_35 : fetch 102 35 = some (.iload_n 1, 1, 0, 0, 0) := rfl
theorem f_Op_width_36 : fetch 102 36 = some (.ifCond .ne 19, 3, 55, 0, 0) := rfl
theorem f_Op_width_39 : fetch 102 39 = some (.iload_n 2, 1, 0, 0, 0) := rfl
theorem f_Op_width_40 : fetch 102 40 = some (.ifCond .ne 15, 3, 55, 0, 0) := rfl
theorem f_Op_width_43 : fetch 102 43 = some (.iload_n 0, 1, 0, 0, 0) := rfl
theorem f_Op_width_44 : fetch 102 44 = some (.bipush 33, 2, 0, 0, 0) := rfl
theorem f_Op_width_46 : fetch 102 46 = some (.if_icmp .eq 9, 3, 55, 0, 0) := rfl
theorem f_Op_width_49 : fetch 102 49 = some (.iload_n 0, 1, 0, 0, 0) := rfl
theorem f_Op_width_50 : fetch 102 50 = some (.bipush 36, 2, 0, 0, 0) := rfl
theorem f_Op_width_52 : fetch 102 52 = some (.if_icmp .ne 7, 3, 59, 0, 0) := rfl
theorem f_Op_width_55 : fetch 102 55 = some (.iconst 2, 1, 0, 0, 0) := rfl
theorem f_Op_width_56 : fetch 102 56 = some (.goto 4, 3, 60, 0, 0) := rfl
theorem f_Op_width_59 : fetch 102 59 = some (.iconst 1, 1, 0, 0, 0) := rfl
theorem f_Op_width_60 : fetch 102 60 = some (.ireturn, 1, 0, 0, 0) := rfl
def F_Op_width_60  (y0 : Int32) (σ : SG) : Option (Int32 × SG) :=
  some (y0, σ)
set_option maxHeartbeats 4000000 in
theorem w_Op_width_60 {b d : Nat} {sc : SC} {pre tl : List PE} {B : Nat} {Q : Option Value → List PE → Prop} {res : Int32 × SG} (hB : B = b + pre.length)   (hQ : Q (some (.int res.1)) (HH pre tl SHc B res.2)) (lv : LV) (σ : SG) (y0 : Int32)  (hF : F_Op_width_60  y0 σ = some res) : Rn b sc d 102 60 lv [.int (y0)] (HH pre tl SHc B σ) Q := by
  unfold F_Op_width_60 at hF
  cases hF
  exact r_ireturn f_Op_width_60 hQ
def F_Op_width_55   (σ : SG) : Option (Int32 × SG) :=
  F_Op_width_60 ((2 : Int32)) σ
set_option maxHeartbeats 4000000 in
theorem w_Op_width_55 {b d : Nat} {sc : SC} {pre tl : List PE} {B : Nat} {Q : Option Value → List PE → Prop} {res : Int32 × SG} (hB : B = b + pre.length)   (hQ : Q (some (.int res.1)) (HH pre tl SHc B res.2)) (lv : LV) (σ : SG)   (hF : F_Op_width_55   σ = some res) : Rn b sc d 102 55 lv [] (HH pre tl SHc B σ) Q := by
  unfold F_Op_width_55 at hF
  refine r_iconst f_Op_width_55 (v := 2) (by decide) ?_
  refine r_goto f_Op_width_56 ?_
  exact w_Op_width_60 hB   hQ _ (σ) ((2 : Int32)) hF
def F_Op_width_34  (x0 : Int32) (x1 : Bool) (y0 : Bool) (σ : SG) : Option (Int32 × SG) :=
  if x1 = true then
  F_Op_width_55 σ
  else if y0 = true then
  F_Op_width_55 σ
  else if x0 = (33 : Int32) then
  F_Op_width_55 σ
  else if x0 = (36 : Int32) then
  F_Op_width_55 σ
  else F_Op_width_60 ((1 : Int32)) σ
set_option maxHeartbeats 4000000 in
theorem w_Op_width_34 {b d : Nat} {sc : SC} {pre tl : List PE} {B : Nat} {Q : Option Value → List PE → Prop} {res : Int32 × SG} (hB : B = b + pre.length)   (hQ : Q (some (.int res.1)) (HH pre tl SHc B res.2)) (lv : LV) (σ : SG) (x0 : Int32) (x1 : Bool) (y0 : Bool) (l0 : lv.lookup 0 = some (.int (x0))) (l1 : lv.lookup 1 = some (.int (bz (x1)))) (hF : F_Op_width_34  x0 x1 y0 σ = some res) : Rn b sc d 102 34 lv [.int (bz (y0))] (HH pre tl SHc B σ) Q := by
  unfold F_Op_width_34 at hF
  refine r_istore_n f_Op_width_34 ?_
  refine r_iload_n f_Op_width_35 (lk_put_ne l1 (by decide) (Or.inl rfl)) ?_
  refine r_if_ne f_Op_width_36 (fun c1 => ?_) (fun c1 => ?_)
  · rw [if_pos (bz_t c1)] at hF
    exact w_Op_width_55 hB   hQ _ (σ) hF
  · rw [if_neg (bz_nt (Decidable.not_not.mp c1))] at hF
    refine r_iload_n f_Op_width_39 lk_put ?_
    refine r_if_ne f_Op_width_40 (fun c2 => ?_) (fun c2 => ?_)
    · rw [if_pos (bz_t c2)] at hF
      exact w_Op_width_55 hB   hQ _ (σ) hF
    · rw [if_neg (bz_nt (Decidable.not_not.mp c2))] at hF
      refine r_iload_n f_Op_width_43 (lk_put_ne l0 (by decide) (Or.inl rfl)) ?_
      refine r_bipush f_Op_width_44 (v := 33) (by decide) ?_
      refine r_icmp_eq f_Op_width_46 (fun c3 => ?_) (fun c3 => ?_)
      · rw [if_pos c3] at hF
        exact w_Op_width_55 hB   hQ _ (σ) hF
      · rw [if_neg c3] at hF
        refine r_iload_n f_Op_width_49 (lk_put_ne l0 (by decide) (Or.inl rfl)) ?_
        refine r_bipush f_Op_width_50 (v := 36) (by decide) ?_
        refine r_icmp_ne f_Op_width_52 (fun c4 => ?_) (fun c4 => ?_)
        · rw [if_neg c4] at hF
          refine r_iconst f_Op_width_59 (v := 1) (by decide) ?_
          exact w_Op_width_60 hB   hQ _ (σ) ((1 : Int32)) hF
        · rw [if_pos (Decidable.not_not.mp c4)] at hF
          exact w_Op_width_55 hB   hQ _ (σ) hF
def F_Op_width_33  (x0 : Int32) (x1 : Bool) (σ : SG) : Option (Int32 × SG) :=
  F_Op_width_34 (x0) (x1) (false) σ
set_option maxHeartbeats 4000000 in
theorem w_Op_width_33 {b d : Nat} {sc : SC} {pre tl : List PE} {B : Nat} {Q : Option Value → List PE → Prop} {res : Int32 × SG} (hB : B = b + pre.length)   (hQ : Q (some (.int res.1)) (HH pre tl SHc B res.2)) (lv : LV) (σ : SG) (x0 : Int32) (x1 : Bool) (l0 : lv.lookup 0 = some (.int (x0))) (l1 : lv.lookup 1 = some (.int (bz (x1)))) (hF : F_Op_width_33  x0 x1 σ = some res) : Rn b sc d 102 33 lv [] (HH pre tl SHc B σ) Q := by
  unfold F_Op_width_33 at hF
  refine r_iconst f_Op_width_33 (v := 0) (by decide) ?_
  exact w_Op_width_34 hB   hQ _ (σ) (x0) (x1) (false) l0 l1 hF
def F_Op_width_16  (x0 : Int32) (y0 : Bool) (σ : SG) : Option (Int32 × SG) :=
  if x0 < (13 : Int32) then
  F_Op_width_33 (x0) (y0) σ
  else if (20 : Int32) < x0 then
  F_Op_width_33 (x0) (y0) σ
  else F_Op_width_34 (x0) (y0) (true) σ
set_option maxHeartbeats 4000000 in
theorem w_Op_width_16 {b d : Nat} {sc : SC} {pre tl : List PE} {B : Nat} {Q : Option Value → List PE → Prop} {res : Int32 × SG} (hB : B = b + pre.length)   (hQ : Q (some (.int res.1)) (HH pre tl SHc B res.2)) (lv : LV) (σ : SG) (x0 : Int32) (y0 : Bool) (l0 : lv.lookup 0 = some (.int (x0))) (hF : F_Op_width_16  x0 y0 σ = some res) : Rn b sc d 102 16 lv [.int (bz (y0))] (HH pre tl SHc B σ) Q := by
  unfold F_Op_width_16 at hF
  refine r_istore_n f_Op_width_16 ?_
  refine r_iload_n f_Op_width_17 (lk_put_ne l0 (by decide) (Or.inl rfl)) ?_
  refine r_bipush f_Op_width_18 (v := 13) (by decide) ?_
  refine r_icmp_lt f_Op_width_20 (fun c5 => ?_) (fun c5 => ?_)
  · rw [if_pos c5] at hF
    exact w_Op_width_33 hB   hQ _ (σ) (x0) (y0) (lk_put_ne l0 (by decide) (Or.inl rfl)) lk_put hF
  · rw [if_neg c5] at hF
    refine r_iload_n f_Op_width_23 (lk_put_ne l0 (by decide) (Or.inl rfl)) ?_
    refine r_bipush f_Op_width_24 (v := 20) (by decide) ?_
    refine r_icmp_gt f_Op_width_26 (fun c6 => ?_) (fun c6 => ?_)
    · rw [if_pos c6] at hF
      exact w_Op_width_33 hB   hQ _ (σ) (x0) (y0) (lk_put_ne l0 (by decide) (Or.inl rfl)) lk_put hF
    · rw [if_neg c6] at hF
      refine r_iconst f_Op_width_29 (v := 1) (by decide) ?_
      refine r_goto f_Op_width_30 ?_
      exact w_Op_width_34 hB   hQ _ (σ) (x0) (y0) (true) (lk_put_ne l0 (by decide) (Or.inl rfl)) lk_put hF
def F_Op_width_15  (x0 : Int32) (σ : SG) : Option (Int32 × SG) :=
  F_Op_width_16 (x0) (false) σ
set_option maxHeartbeats 4000000 in
theorem w_Op_width_15 {b d : Nat} {sc : SC} {pre tl : List PE} {B : Nat} {Q : Option Value → List PE → Prop} {res : Int32 × SG} (hB : B = b + pre.length)   (hQ : Q (some (.int res.1)) (HH pre tl SHc B res.2)) (lv : LV) (σ : SG) (x0 : Int32) (l0 : lv.lookup 0 = some (.int (x0))) (hF : F_Op_width_15  x0 σ = some res) : Rn b sc d 102 15 lv [] (HH pre tl SHc B σ) Q := by
  unfold F_Op_width_15 at hF
  refine r_iconst f_Op_width_15 (v := 0) (by decide) ?_
  exact w_Op_width_16 hB   hQ _ (σ) (x0) (false) l0 hF
def F_Op_width (a0 : Int32) (σ : SG) : Option (Int32 × SG) :=
  if a0 < (1 : Int32) then
  F_Op_width_15 (a0) σ
  else if (6 : Int32) < a0 then
  F_Op_width_15 (a0) σ
  else F_Op_width_16 (a0) (true) σ
set_option maxHeartbeats 4000000 in
theorem w_Op_width {b d : Nat} {pre tl : List PE} {B : Nat} {Q : Option Value → List PE → Prop} {res : Int32 × SG} (hB : B = b + pre.length)  {σ : SG} (a0 : Int32)  (hF : F_Op_width a0 σ = some res) (hQ : Q (some (.int res.1)) (HH pre tl SHc B res.2)) : Cl b d 102 [.int (a0)] (HH pre tl SHc B σ) Q := by
  unfold Cl
  unfold F_Op_width at hF
  refine r_iload_n f_Op_width_0 rfl ?_
  refine r_iconst f_Op_width_1 (v := 1) (by decide) ?_
  refine r_icmp_lt f_Op_width_2 (fun c7 => ?_) (fun c7 => ?_)
  · rw [if_pos c7] at hF
    exact w_Op_width_15 hB   hQ _ (σ) (a0) rfl hF
  · rw [if_neg c7] at hF
    refine r_iload_n f_Op_width_5 rfl ?_
    refine r_bipush f_Op_width_6 (v := 6) (by decide) ?_
    refine r_icmp_gt f_Op_width_8 (fun c8 => ?_) (fun c8 => ?_)
    · rw [if_pos c8] at hF
      exact w_Op_width_15 hB   hQ _ (σ) (a0) rfl hF
    · rw [if_neg c8] at hF
      refine r_iconst f_Op_width_11 (v := 1) (by decide) ?_
      refine r_goto f_Op_width_12 ?_
      exact w_Op_width_16 hB   hQ _ (σ) (a0) (true) rfl hF
theorem f_Op_signed_0 : fetch 103 0 = some (.iload_n 0, 1, 0, 0, 0) := rfl
theorem f_Op_signed_1 : fetch 103 1 = some (.bipush 127, 2, 0, 0, 0) := rfl
theorem f_Op_signed_3 : fetch 103 3 = some (.if_icmp .le 11, 3, 14, 0, 0) := rfl
theorem f_Op_signed_6 : fetch 103 6 = some (.iload_n 0, 1, 0, 0, 0) := rfl
theorem f_Op_signed_7 : fetch 103 7 = some (.sipush 256, 3, 0, 0, 0) := rfl
theorem f_Op_signed_10 : fetch 103 10 = some (.isub, 1, 0, 0, 0) := rfl
theorem f_Op_signed_11 : fetch 103 11 = some (.goto 4, 3, 15, 0, 0) := rfl
theorem f_Op_signed_14 : fetch 103 14 = some (.iload_n 0, 1, 0, 0, 0) := rfl
theorem f_Op_signed_15 : fetch 103 15 = some (.ireturn, 1, 0, 0, 0) := rfl
def F_Op_signed_15  (y0 : Int32) (σ : SG) : Option (Int32 × SG) :=
  some (y0, σ)
set_option maxHeartbeats 4000000 in
theorem w_Op_signed_15 {b d : Nat} {sc : SC} {pre tl : List PE} {B : Nat} {Q : Option Value → List PE → Prop} {res : Int32 × SG} (hB : B = b + pre.length)   (hQ : Q (some (.int res.1)) (HH pre tl SHc B res.2)) (lv : LV) (σ : SG) (y0 : Int32)  (hF : F_Op_signed_15  y0 σ = some res) : Rn b sc d 103 15 lv [.int (y0)] (HH pre tl SHc B σ) Q := by
  unfold F_Op_signed_15 at hF
  cases hF
  exact r_ireturn f_Op_signed_15 hQ
def F_Op_signed (a0 : Int32) (σ : SG) : Option (Int32 × SG) :=
  if a0 ≤ (127 : Int32) then
  F_Op_signed_15 (a0) σ
  else F_Op_signed_15 ((a0 - (256 : Int32))) σ
set_option maxHeartbeats 4000000 in
theorem w_Op_signed {b d : Nat} {pre tl : List PE} {B : Nat} {Q : Option Value → List PE → Prop} {res : Int32 × SG} (hB : B = b + pre.length)  {σ : SG} (a0 : Int32)  (hF : F_Op_signed a0 σ = some res) (hQ : Q (some (.int res.1)) (HH pre tl SHc B res.2)) : Cl b d 103 [.int (a0)] (HH pre tl SHc B σ) Q := by
  unfold Cl
  unfold F_Op_signed at hF
  refine r_iload_n f_Op_signed_0 rfl ?_
  refine r_bipush f_Op_signed_1 (v := 127) (by decide) ?_
  refine r_icmp_le f_Op_signed_3 (fun c1 => ?_) (fun c1 => ?_)
  · rw [if_pos c1] at hF
    refine r_iload_n f_Op_signed_14 rfl ?_
    exact w_Op_signed_15 hB   hQ _ (σ) (a0) hF
  · rw [if_neg c1] at hF
    refine r_iload_n f_Op_signed_6 rfl ?_
    refine r_sipush f_Op_signed_7 (v := 256) (by decide) ?_
    refine r_isub f_Op_signed_10 ?_
    refine r_goto f_Op_signed_11 ?_
    exact w_Op_signed_15 hB   hQ _ (σ) ((a0 - (256 : Int32))) hF
theorem f_Op_jumps_0 : fetch 104 0 = some (.iload_n 0, 1, 0, 0, 0) := rfl
theorem f_Op_jumps_1 : fetch 104 1 = some (.bipush 13, 2, 0, 0, 0) := rfl
theorem f_Op_jumps_3 : fetch 104 3 = some (.if_icmp .eq 15, 3, 18, 0, 0) := rfl
theorem f_Op_jumps_6 : fetch 104 6 = some (.iload_n 0, 1, 0, 0, 0) := rfl
theorem f_Op_jumps_7 : fetch 104 7 = some (.bipush 14, 2, 0, 0, 0) := rfl
theorem f_Op_jumps_9 : fetch 104 9 = some (.if_icmp .eq 9, 3, 18, 0, 0) := rfl
theorem f_Op_jumps_12 : fetch 104 12 = some (.iload_n 0, 1, 0, 0, 0) := rfl
theorem f_Op_jumps_13 : fetch 104 13 = some (.bipush 15, 2, 0, 0, 0) := rfl
theorem f_Op_jumps_15 : fetch 104 15 = some (.if_icmp .ne 7, 3, 22, 0, 0) := rfl
theorem f_Op_jumps_18 : fetch 104 18 = some (.iconst 1, 1, 0, 0, 0) := rfl
theorem f_Op_jumps_19 : fetch 104 19 = some (.goto 4, 3, 23, 0, 0) := rfl
theorem f_Op_jumps_22 : fetch 104 22 = some (.iconst 0, 1, 0, 0, 0) := rfl
theorem f_Op_jumps_23 : fetch 104 23 = some (.ireturn, 1, 2, 0, 0) := rfl
def F_Op_jumps_23  (y0 : Bool) (σ : SG) : Option (Bool × SG) :=
  some (y0, σ)
set_option maxHeartbeats 4000000 in
theorem w_Op_jumps_23 {b d : Nat} {sc : SC} {pre tl : List PE} {B : Nat} {Q : Option Value → List PE → Prop} {res : Bool × SG} (hB : B = b + pre.length)   (hQ : Q (some (.int (bz res.1))) (HH pre tl SHc B res.2)) (lv : LV) (σ : SG) (y0 : Bool)  (hF : F_Op_jumps_23  y0 σ = some res) : Rn b sc d 104 23 lv [.int (bz (y0))] (HH pre tl SHc B σ) Q := by
  unfold F_Op_jumps_23 at hF
  cases hF
  exact r_zreturn f_Op_jumps_23 (bz_or (y0)) hQ
def F_Op_jumps_18   (σ : SG) : Option (Bool × SG) :=
  F_Op_jumps_23 (true) σ
set_option maxHeartbeats 4000000 in
theorem w_Op_jumps_18 {b d : Nat} {sc : SC} {pre tl : List PE} {B : Nat} {Q : Option Value → List PE → Prop} {res : Bool × SG} (hB : B = b + pre.length)   (hQ : Q (some (.int (bz res.1))) (HH pre tl SHc B res.2)) (lv : LV) (σ : SG)   (hF : F_Op_jumps_18   σ = some res) : Rn b sc d 104 18 lv [] (HH pre tl SHc B σ) Q := by
  unfold F_Op_jumps_18 at hF
  refine r_iconst f_Op_jumps_18 (v := 1) (by decide) ?_
  refine r_goto f_Op_jumps_19 ?_
  exact w_Op_jumps_23 hB   hQ _ (σ) (true) hF
def F_Op_jumps (a0 : Int32) (σ : SG) : Option (Bool × SG) :=
  if a0 = (13 : Int32) then
  F_Op_jumps_18 σ
  else if a0 = (14 : Int32) then
  F_Op_jumps_18 σ
  else if a0 = (15 : Int32) then
  F_Op_jumps_18 σ
  else F_Op_jumps_23 (false) σ
set_option maxHeartbeats 4000000 in
theorem w_Op_jumps {b d : Nat} {pre tl : List PE} {B : Nat} {Q : Option Value → List PE → Prop} {res : Bool × SG} (hB : B = b + pre.length)  {σ : SG} (a0 : Int32)  (hF : F_Op_jumps a0 σ = some res) (hQ : Q (some (.int (bz res.1))) (HH pre tl SHc B res.2)) : Cl b d 104 [.int (a0)] (HH pre tl SHc B σ) Q := by
  unfold Cl
  unfold F_Op_jumps at hF
  refine r_iload_n f_Op_jumps_0 rfl ?_
  refine r_bipush f_Op_jumps_1 (v := 13) (by decide) ?_
  refine r_icmp_eq f_Op_jumps_3 (fun c1 => ?_) (fun c1 => ?_)
  · rw [if_pos c1] at hF
    exact w_Op_jumps_18 hB   hQ _ (σ) hF
  · rw [if_neg c1] at hF
    refine r_iload_n f_Op_jumps_6 rfl ?_
    refine r_bipush f_Op_jumps_7 (v := 14) (by decide) ?_
    refine r_icmp_eq f_Op_jumps_9 (fun c2 => ?_) (fun c2 => ?_)
    · rw [if_pos c2] at hF
      exact w_Op_jumps_18 hB   hQ _ (σ) hF
    · rw [if_neg c2] at hF
      refine r_iload_n f_Op_jumps_12 rfl ?_
      refine r_bipush f_Op_jumps_13 (v := 15) (by decide) ?_
      refine r_icmp_ne f_Op_jumps_15 (fun c3 => ?_) (fun c3 => ?_)
      · rw [if_neg c3] at hF
        refine r_iconst f_Op_jumps_22 (v := 0) (by decide) ?_
        exact w_Op_jumps_23 hB   hQ _ (σ) (false) hF
      · rw [if_pos (Decidable.not_not.mp c3)] at hF
        exact w_Op_jumps_18 hB   hQ _ (σ) hF
theorem f_Op_goesBehind_0 : fetch 105 0 = some (.iload_n 0, 1, 0, 0, 0) := rfl
theorem f_Op_goesBehind_1 : fetch 105 1 = some (.bipush 13, 2, 0, 0, 0) := rfl
theorem f_Op_goesBehind_3 : fetch 105 3 = some (.if_icmp .eq 13, 3, 16, 0, 0) := rfl
theorem f_Op_goesBehind_6 : fetch 105 6 = some (.iload_n 0, 1, 0, 0, 0) := rfl
theorem f_Op_goesBehind_7 : fetch 105 7 = some (.bipush 34, 2, 0, 0, 0) := rfl
theorem f_Op_goesBehind_9 : fetch 105 9 = some (.if_icmp .ge 7, 3, 16, 0, 0) := rfl
theorem f_Op_goesBehind_12 : fetch 105 12 = some (.iconst 1, 1, 0, 0, 0) := rfl
theorem f_Op_goesBehind_13 : fetch 105 13 = some (.goto 4, 3, 17, 0, 0) := rfl
theorem f_Op_goesBehind_16 : fetch 105 16 = some (.iconst 0, 1, 0, 0, 0) := rfl
theorem f_Op_goesBehind_17 : fetch 105 17 = some (.ireturn, 1, 2, 0, 0) := rfl
def F_Op_goesBehind_17  (y0 : Bool) (σ : SG) : Option (Bool × SG) :=
  some (y0, σ)
set_option maxHeartbeats 4000000 in
theorem w_Op_goesBehind_17 {b d : Nat} {sc : SC} {pre tl : List PE} {B : Nat} {Q : Option Value → List PE → Prop} {res : Bool × SG} (hB : B = b + pre.length)   (hQ : Q (some (.int (bz res.1))) (HH pre tl SHc B res.2)) (lv : LV) (σ : SG) (y0 : Bool)  (hF : F_Op_goesBehind_17  y0 σ = some res) : Rn b sc d 105 17 lv [.int (bz (y0))] (HH pre tl SHc B σ) Q := by
  unfold F_Op_goesBehind_17 at hF
  cases hF
  exact r_zreturn f_Op_goesBehind_17 (bz_or (y0)) hQ
def F_Op_goesBehind_16   (σ : SG) : Option (Bool × SG) :=
  F_Op_goesBehind_17 (false) σ
set_option maxHeartbeats 4000000 in
theorem w_Op_goesBehind_16 {b d : Nat} {sc : SC} {pre tl : List PE} {B : Nat} {Q : Option Value → List PE → Prop} {res : Bool × SG} (hB : B = b + pre.length)   (hQ : Q (some (.int (bz res.1))) (HH pre tl SHc B res.2)) (lv : LV) (σ : SG)   (hF : F_Op_goesBehind_16   σ = some res) : Rn b sc d 105 16 lv [] (HH pre tl SHc B σ) Q := by
  unfold F_Op_goesBehind_16 at hF
  refine r_iconst f_Op_goesBehind_16 (v := 0) (by decide) ?_
  exact w_Op_goesBehind_17 hB   hQ _ (σ) (false) hF
def F_Op_goesBehind (a0 : Int32) (σ : SG) : Option (Bool × SG) :=
  if a0 = (13 : Int32) then
  F_Op_goesBehind_16 σ
  else if (34 : Int32) ≤ a0 then
  F_Op_goesBehind_16 σ
  else F_Op_goesBehind_17 (true) σ
set_option maxHeartbeats 4000000 in
theorem w_Op_goesBehind {b d : Nat} {pre tl : List PE} {B : Nat} {Q : Option Value → List PE → Prop} {res : Bool × SG} (hB : B = b + pre.length)  {σ : SG} (a0 : Int32)  (hF : F_Op_goesBehind a0 σ = some res) (hQ : Q (some (.int (bz res.1))) (HH pre tl SHc B res.2)) : Cl b d 105 [.int (a0)] (HH pre tl SHc B σ) Q := by
  unfold Cl
  unfold F_Op_goesBehind at hF
  refine r_iload_n f_Op_goesBehind_0 rfl ?_
  refine r_bipush f_Op_goesBehind_1 (v := 13) (by decide) ?_
  refine r_icmp_eq f_Op_goesBehind_3 (fun c1 => ?_) (fun c1 => ?_)
  · rw [if_pos c1] at hF
    exact w_Op_goesBehind_16 hB   hQ _ (σ) hF
  · rw [if_neg c1] at hF
    refine r_iload_n f_Op_goesBehind_6 rfl ?_
    refine r_bipush f_Op_goesBehind_7 (v := 34) (by decide) ?_
    refine r_icmp_ge f_Op_goesBehind_9 (fun c2 => ?_) (fun c2 => ?_)
    · rw [if_pos c2] at hF
      exact w_Op_goesBehind_16 hB   hQ _ (σ) hF
    · rw [if_neg c2] at hF
      refine r_iconst f_Op_goesBehind_12 (v := 1) (by decide) ?_
      refine r_goto f_Op_goesBehind_13 ?_
      exact w_Op_goesBehind_17 hB   hQ _ (σ) (true) hF
theorem f_Rd_number_0 : fetch 108 0 = some (.aload_n 0, 1, 0, 0, 0) := rfl
theorem f_Rd_number_1 : fetch 108 1 = some (.getfield 23, 3, 3, 2, 76) := rfl
theorem f_Rd_number_4 : fetch 108 4 = some (.aload_n 0, 1, 0, 0, 0) := rfl
theorem f_Rd_number_5 : fetch 108 5 = some (.getfield 19, 3, 3, 1, 75) := rfl
theorem f_Rd_number_8 : fetch 108 8 = some (.if_icmp .ge 15, 3, 23, 0, 0) := rfl
theorem f_Rd_number_11 : fetch 108 11 = some (.aload_n 0, 1, 0, 0, 0) := rfl
theorem f_Rd_number_12 : fetch 108 12 = some (.getfield 7, 3, 3, 0, 74) := rfl
theorem f_Rd_number_15 : fetch 108 15 = some (.aload_n 0, 1, 0, 0, 0) := rfl
theorem f_Rd_number_16 : fetch 108 16 = some (.getfield 23, 3, 3, 2, 76) := rfl
theorem f_Rd_number_19 : fetch 108 19 = some (.iaload, 1, 0, 0, 0) := rfl
theorem f_Rd_number_20 : fetch 108 20 = some (.goto 4, 3, 24, 0, 0) := rfl
theorem f_Rd_number_23 : fetch 108 23 = some (.iconst (-1), 1, 0, 0, 0) := rfl
theorem f_Rd_number_24 : fetch 108 24 = some (.istore_n 3, 1, 0, 0, 0) := rfl
theorem f_Rd_number_25 : fetch 108 25 = some (.iload_n 3, 1, 0, 0, 0) := rfl
theorem f_Rd_number_26 : fetch 108 26 = some (.iload_n 1, 1, 0, 0, 0) := rfl
theorem f_Rd_number_27 : fetch 108 27 = some (.if_icmp .lt 8, 3, 35, 0, 0) := rfl
theorem f_Rd_number_30 : fetch 108 30 = some (.iload_n 3, 1, 0, 0, 0) := rfl
theorem f_Rd_number_31 : fetch 108 31 = some (.iload_n 2, 1, 0, 0, 0) := rfl
theorem f_Rd_number_32 : fetch 108 32 = some (.if_icmp .le 10, 3, 42, 0, 0) := rfl
theorem f_Rd_number_35 : fetch 108 35 = some (.aload_n 0, 1, 0, 0, 0) := rfl
theorem f_Rd_number_36 : fetch 108 36 = some (.iconst 0, 1, 0, 0, 0) := rfl
theorem f_Rd_number_37 : fetch 108 37 = some (.putfield 26, 3, 3, 3, 77) := rfl
theorem f_Rd_number_40 : fetch 108 40 = some (.iload_n 1, 1, 0, 0, 0) := rfl
theorem f_Rd_number_41 : fetch 108 41 = some (.ireturn, 1, 0, 0, 0) := rfl
theorem f_Rd_number_42 : fetch 108 42 = some (.aload_n 0, 1, 0, 0, 0) := rfl
theorem f_Rd_number_43 : fetch 108 43 = some (.dup, 1, 0, 0, 0) := rfl
theorem f_Rd_number_44 : fetch 108 44 = some (.getfield 23, 3, 3, 2, 76) := rfl
theorem f_Rd_number_47 : fetch 108 47 = some (.iconst 1, 1, 0, 0, 0) := rfl
theorem f_Rd_number_48 : fetch 108 48 = some (.iadd, 1, 0, 0, 0) := rfl
theorem f_Rd_number_49 : fetch 108 49 = some (.putfield 23, 3, 3, 2, 76) := rfl
theorem f_Rd_number_52 : fetch 108 52 = some (.iload_n 3, 1, 0, 0, 0) := rfl
theorem f_Rd_number_53 : fetch 108 53 = some (.ireturn, 1, 0, 0, 0) := rfl
def F_Rd_number_35  (x0 : Nat) (x1 : Int32) (σ : SG) : Option (Int32 × SG) :=
  stl (setI σ (x0) 3 (bz (false))) fun s1 =>
  some (x1, s1)
set_option maxHeartbeats 4000000 in
theorem w_Rd_number_35 {b d : Nat} {sc : SC} {pre tl : List PE} {B : Nat} {Q : Option Value → List PE → Prop} {res : Int32 × SG} (hB : B = b + pre.length)   (hQ : Q (some (.int res.1)) (HH pre tl SHc B res.2)) (lv : LV) (σ : SG) (x0 : Nat) (x1 : Int32) (hx0 : isC SHc (x0) 3 = true) (l0 : lv.lookup 0 = some (.ref (B + (x0)))) (l1 : lv.lookup 1 = some (.int (x1))) (hF : F_Rd_number_35  x0 x1 σ = some res) : Rn b sc d 108 35 lv [] (HH pre tl SHc B σ) Q := by
  unfold F_Rd_number_35 at hF
  refine r_aload_n f_Rd_number_35 l0 ?_
  refine r_iconst f_Rd_number_36 (v := 0) (by decide) ?_
  refine t_putz (v := false) hB hx0 f_Rd_number_37 rfl rfl ?_
  generalize hs1 : setI σ (x0) 3 (bz (false)) = s1 at hF ⊢
  rw [stl_eq] at hF
  refine r_iload_n f_Rd_number_40 l1 ?_
  cases hF
  exact r_ireturn f_Rd_number_41 hQ
def F_Rd_number_24  (x0 : Nat) (x1 : Int32) (x2 : Int32) (y0 : Int32) (σ : SG) : Option (Int32 × SG) :=
  if y0 < x1 then
  F_Rd_number_35 (x0) (x1) σ
  else if y0 ≤ x2 then
  stl (setI σ (x0) 2 (((σ.1 (x0) 2) + (1 : Int32)))) fun s4 =>
  some (y0, s4)
  else F_Rd_number_35 (x0) (x1) σ
set_option maxHeartbeats 4000000 in
theorem w_Rd_number_24 {b d : Nat} {sc : SC} {pre tl : List PE} {B : Nat} {Q : Option Value → List PE → Prop} {res : Int32 × SG} (hB : B = b + pre.length)   (hQ : Q (some (.int res.1)) (HH pre tl SHc B res.2)) (lv : LV) (σ : SG) (x0 : Nat) (x1 : Int32) (x2 : Int32) (y0 : Int32) (hx0 : isC SHc (x0) 3 = true) (l0 : lv.lookup 0 = some (.ref (B + (x0)))) (l1 : lv.lookup 1 = some (.int (x1))) (l2 : lv.lookup 2 = some (.int (x2))) (hF : F_Rd_number_24  x0 x1 x2 y0 σ = some res) : Rn b sc d 108 24 lv [.int (y0)] (HH pre tl SHc B σ) Q := by
  unfold F_Rd_number_24 at hF
  refine r_istore_n f_Rd_number_24 ?_
  refine r_iload_n f_Rd_number_25 lk_put ?_
  refine r_iload_n f_Rd_number_26 (lk_put_ne l1 (by decide) (Or.inl rfl)) ?_
  refine r_icmp_lt f_Rd_number_27 (fun c2 => ?_) (fun c2 => ?_)
  · rw [if_pos c2] at hF
    exact w_Rd_number_35 hB   hQ _ (σ) (x0) (x1) hx0 (lk_put_ne l0 (by decide) (Or.inl rfl)) (lk_put_ne l1 (by decide) (Or.inl rfl)) hF
  · rw [if_neg c2] at hF
    refine r_iload_n f_Rd_number_30 lk_put ?_
    refine r_iload_n f_Rd_number_31 (lk_put_ne l2 (by decide) (Or.inl rfl)) ?_
    refine r_icmp_le f_Rd_number_32 (fun c3 => ?_) (fun c3 => ?_)
    · rw [if_pos c3] at hF
      refine r_aload_n f_Rd_number_42 (lk_put_ne l0 (by decide) (Or.inl rfl)) ?_
      refine r_dup f_Rd_number_43 rfl ?_
      refine t_geti hB hx0 f_Rd_number_44 rfl ?_
      refine r_iconst f_Rd_number_47 (v := 1) (by decide) ?_
      refine r_iadd f_Rd_number_48 ?_
      refine t_puti hB hx0 f_Rd_number_49 rfl rfl ?_
      generalize hs4 : setI σ (x0) 2 (((σ.1 (x0) 2) + (1 : Int32))) = s4 at hF ⊢
      rw [stl_eq] at hF
      refine r_iload_n f_Rd_number_52 lk_put ?_
      cases hF
      exact r_ireturn f_Rd_number_53 hQ
    · rw [if_neg c3] at hF
      exact w_Rd_number_35 hB   hQ _ (σ) (x0) (x1) hx0 (lk_put_ne l0 (by decide) (Or.inl rfl)) (lk_put_ne l1 (by decide) (Or.inl rfl)) hF
def F_Rd_number (a0 : Nat) (a1 : Int32) (a2 : Int32) (σ : SG) : Option (Int32 × SG) :=
  if (σ.1 (a0) 1) ≤ (σ.1 (a0) 2) then
  F_Rd_number_24 (a0) (a1) (a2) (((-1) : Int32)) σ
  else if isA SHc ((σ.2.2.1 (a0) 0)) 0 (alen SHc ((σ.2.2.1 (a0) 0))) = true then
  if (σ.1 (a0) 2) < 0 ∨ (alen SHc ((σ.2.2.1 (a0) 0))) ≤ ((σ.1 (a0) 2)).toNatClampNeg then none else
  F_Rd_number_24 (a0) (a1) (a2) ((σ.2.2.2.1 ((σ.2.2.1 (a0) 0)) (((σ.1 (a0) 2)).toNatClampNeg))) σ
  else none
set_option maxHeartbeats 4000000 in
theorem w_Rd_number {b d : Nat} {pre tl : List PE} {B : Nat} {Q : Option Value → List PE → Prop} {res : Int32 × SG} (hB : B = b + pre.length)  {σ : SG} (a0 : Nat) (a1 : Int32) (a2 : Int32) (ha0 : isC SHc (a0) 3 = true) (hF : F_Rd_number a0 a1 a2 σ = some res) (hQ : Q (some (.int res.1)) (HH pre tl SHc B res.2)) : Cl b d 108 [.ref (B + (a0)), .int (a1), .int (a2)] (HH pre tl SHc B σ) Q := by
  unfold Cl
  unfold F_Rd_number at hF
  refine r_aload_n f_Rd_number_0 rfl ?_
  refine t_geti hB ha0 f_Rd_number_1 rfl ?_
  refine r_aload_n f_Rd_number_4 rfl ?_
  refine t_geti hB ha0 f_Rd_number_5 rfl ?_
  refine r_icmp_ge f_Rd_number_8 (fun c5 => ?_) (fun c5 => ?_)
  · rw [if_pos c5] at hF
    refine r_iconst f_Rd_number_23 (v := (-1)) (by decide) ?_
    exact w_Rd_number_24 hB   hQ _ (σ) (a0) (a1) (a2) (((-1) : Int32)) ha0 rfl rfl rfl hF
  · rw [if_neg c5] at hF
    refine r_aload_n f_Rd_number_11 rfl ?_
    by_cases c6 : isA SHc ((σ.2.2.1 (a0) 0)) 0 (alen SHc ((σ.2.2.1 (a0) 0))) = true
    case neg => rw [if_neg c6] at hF; cases hF
    rw [if_pos c6] at hF
    refine t_getm hB ha0 f_Rd_number_12 rfl ?_
    refine r_aload_n f_Rd_number_15 rfl ?_
    refine t_geti hB ha0 f_Rd_number_16 rfl ?_
    by_cases c7 : (σ.1 (a0) 2) < 0 ∨ (alen SHc ((σ.2.2.1 (a0) 0))) ≤ ((σ.1 (a0) 2)).toNatClampNeg
    · rw [if_pos c7] at hF; cases hF
    rw [if_neg c7] at hF
    refine t_iald hB c6 f_Rd_number_19 c7 ?_
    refine r_goto f_Rd_number_20 ?_
    exact w_Rd_number_24 hB   hQ _ (σ) (a0) (a1) (a2) ((σ.2.2.2.1 ((σ.2.2.1 (a0) 0)) (((σ.1 (a0) 2)).toNatClampNeg))) ha0 rfl rfl rfl hF
theorem f_Rd_keptType_0 : fetch 110 0 = some (.aload_n 0, 1, 0, 0, 0) := rfl
theorem f_Rd_keptType_1 : fetch 110 1 = some (.iconst 1, 1, 0, 0, 0) := rfl
theorem f_Rd_keptType_2 : fetch 110 2 = some (.sipush 255, 3, 0, 0, 0) := rfl
theorem f_Rd_keptType_5 : fetch 110 5 = some (.invokevirtual 30, 3, 108, 2, 104) := rfl
theorem f_Rd_keptType_8 : fetch 110 8 = some (.istore_n 2, 1, 0, 0, 0) := rfl
theorem f_Rd_keptType_9 : fetch 110 9 = some (.iload_n 2, 1, 0, 0, 0) := rfl
theorem f_Rd_keptType_10 : fetch 110 10 = some (.iconst 1, 1, 0, 0, 0) := rfl
theorem f_Rd_keptType_11 : fetch 110 11 = some (.if_icmp .eq 21, 3, 32, 0, 0) := rfl
theorem f_Rd_keptType_14 : fetch 110 14 = some (.iload_n 2, 1, 0, 0, 0) := rfl
theorem f_Rd_keptType_15 : fetch 110 15 = some (.iconst 2, 1, 0, 0, 0) := rfl
theorem f_Rd_keptType_16 : fetch 110 16 = some (.if_icmp .eq 16, 3, 32, 0, 0) := rfl
theorem f_Rd_keptType_19 : fetch 110 19 = some (.aload_n 1, 1, 0, 0, 0) := rfl
theorem f_Rd_keptType_20 : fetch 110 20 = some (.iload_n 2, 1, 0, 0, 0) := rfl
theorem f_Rd_keptType_21 : fetch 110 21 = some (.invokevirtual 115, 3, 12, 1, 108) := rfl
theorem f_Rd_keptType_24 : fetch 110 24 = some (.ifCond .ne 8, 3, 32, 0, 0) := rfl
theorem f_Rd_keptType_27 : fetch 110 27 = some (.aload_n 0, 1, 0, 0, 0) := rfl
theorem f_Rd_keptType_28 : fetch 110 28 = some (.iconst 0, 1, 0, 0, 0) := rfl
theorem f_Rd_keptType_29 : fetch 110 29 = some (.putfield 26, 3, 3, 3, 77) := rfl
theorem f_Rd_keptType_32 : fetch 110 32 = some (.iload_n 2, 1, 0, 0, 0) := rfl
theorem f_Rd_keptType_33 : fetch 110 33 = some (.ireturn, 1, 0, 0, 0) := rfl
def F_Rd_keptType_32  (x2 : Int32) (σ : SG) : Option (Int32 × SG) :=
  some (x2, σ)
set_option maxHeartbeats 4000000 in
theorem w_Rd_keptType_32 {b d : Nat} {sc : SC} {pre tl : List PE} {B : Nat} {Q : Option Value → List PE → Prop} {res : Int32 × SG} (hB : B = b + pre.length) (hd : 2 ≤ d)   (hQ : Q (some (.int res.1)) (HH pre tl SHc B res.2)) (lv : LV) (σ : SG) (x2 : Int32) (l2 : lv.lookup 2 = some (.int (x2))) (hF : F_Rd_keptType_32  x2 σ = some res) : Rn b sc d 110 32 lv [] (HH pre tl SHc B σ) Q := by
  obtain ⟨e0, rfl⟩ : ∃ e, d = e + 1 := ⟨d - 1, by omega⟩
  unfold F_Rd_keptType_32 at hF
  refine r_iload_n f_Rd_keptType_32 l2 ?_
  cases hF
  exact r_ireturn f_Rd_keptType_33 hQ
def F_Rd_keptType (a0 : Nat) (a1 : Nat) (σ : SG) : Option (Int32 × SG) :=
  match F_Rd_number (a0) ((1 : Int32)) ((255 : Int32)) σ with
  | none => none
  | some q1 =>
  if q1.1 = (1 : Int32) then
  F_Rd_keptType_32 (q1.1) q1.2
  else if q1.1 = (2 : Int32) then
  F_Rd_keptType_32 (q1.1) q1.2
  else match F_Im_canBeNull (a1) (q1.1) q1.2 with
  | none => none
  | some q4 =>
  if q4.1 = true then
  F_Rd_keptType_32 (q1.1) q4.2
  else stl (setI q4.2 (a0) 3 (bz (false))) fun s6 =>
  F_Rd_keptType_32 (q1.1) s6
set_option maxHeartbeats 4000000 in
theorem w_Rd_keptType {b d : Nat} {pre tl : List PE} {B : Nat} {Q : Option Value → List PE → Prop} {res : Int32 × SG} (hB : B = b + pre.length) (hd : 2 ≤ d)  {σ : SG} (a0 : Nat) (a1 : Nat) (ha0 : isC SHc (a0) 3 = true) (ha1 : isC SHc (a1) 1 = true) (hF : F_Rd_keptType a0 a1 σ = some res) (hQ : Q (some (.int res.1)) (HH pre tl SHc B res.2)) : Cl b d 110 [.ref (B + (a0)), .ref (B + (a1))] (HH pre tl SHc B σ) Q := by
  obtain ⟨e0, rfl⟩ : ∃ e, d = e + 1 := ⟨d - 1, by omega⟩
  unfold Cl
  unfold F_Rd_keptType at hF
  refine r_aload_n f_Rd_keptType_0 rfl ?_
  refine r_iconst f_Rd_keptType_1 (v := 1) (by decide) ?_
  refine r_sipush f_Rd_keptType_2 (v := 255) (by decide) ?_
  cases hq1 : F_Rd_number (a0) ((1 : Int32)) ((255 : Int32)) σ with
  | none => simp only [hq1] at hF; cases hF
  | some q1 =>
    simp only [hq1] at hF
    refine t_V2i hB ha0 rfl rfl f_Rd_keptType_5 (by decide) (Nat.le_of_ble_eq_true rfl) (Nat.le_of_ble_eq_true rfl) (w_Rd_number hB  (a0) ((1 : Int32)) ((255 : Int32)) ha0 hq1 ⟨_, rfl, ?_⟩)
    refine r_istore_n f_Rd_keptType_8 ?_
    refine r_iload_n f_Rd_keptType_9 lk_put ?_
    refine r_iconst f_Rd_keptType_10 (v := 1) (by decide) ?_
    refine r_icmp_eq f_Rd_keptType_11 (fun c2 => ?_) (fun c2 => ?_)
    · rw [if_pos c2] at hF
      exact w_Rd_keptType_32 hB hd  hQ _ (q1.2) (q1.1) lk_put hF
    · rw [if_neg c2] at hF
      refine r_iload_n f_Rd_keptType_14 lk_put ?_
      refine r_iconst f_Rd_keptType_15 (v := 2) (by decide) ?_
      refine r_icmp_eq f_Rd_keptType_16 (fun c3 => ?_) (fun c3 => ?_)
      · rw [if_pos c3] at hF
        exact w_Rd_keptType_32 hB hd  hQ _ (q1.2) (q1.1) lk_put hF
      · rw [if_neg c3] at hF
        refine r_aload_n f_Rd_keptType_19 (lk_put_ne rfl (by decide) (Or.inl rfl)) ?_
        refine r_iload_n f_Rd_keptType_20 lk_put ?_
        cases hq4 : F_Im_canBeNull (a1) (q1.1) q1.2 with
        | none => simp only [hq4] at hF; cases hF
        | some q4 =>
          simp only [hq4] at hF
          refine t_V1i hB ha1 rfl rfl f_Rd_keptType_21 (by decide) (Nat.le_of_ble_eq_true rfl) (Nat.le_of_ble_eq_true rfl) (w_Im_canBeNull hB (by omega) (a1) (q1.1) ha1 hq4 ⟨_, rfl, ?_⟩)
          refine r_if_ne f_Rd_keptType_24 (fun c5 => ?_) (fun c5 => ?_)
          · rw [if_pos (bz_t c5)] at hF
            exact w_Rd_keptType_32 hB hd  hQ _ (q4.2) (q1.1) lk_put hF
          · rw [if_neg (bz_nt (Decidable.not_not.mp c5))] at hF
            refine r_aload_n f_Rd_keptType_27 (lk_put_ne rfl (by decide) (Or.inl rfl)) ?_
            refine r_iconst f_Rd_keptType_28 (v := 0) (by decide) ?_
            refine t_putz (v := false) hB ha0 f_Rd_keptType_29 rfl rfl ?_
            generalize hs6 : setI q4.2 (a0) 3 (bz (false)) = s6 at hF ⊢
            rw [stl_eq] at hF
            exact w_Rd_keptType_32 hB hd  hQ _ (s6) (q1.1) lk_put hF
theorem f_Rd_readClasses_0 : fetch 109 0 = some (.aload_n 1, 1, 0, 0, 0) := rfl
theorem f_Rd_readClasses_1 : fetch 109 1 = some (.aload_n 0, 1, 0, 0, 0) := rfl
theorem f_Rd_readClasses_2 : fetch 109 2 = some (.iconst 0, 1, 0, 0, 0) := rfl
theorem f_Rd_readClasses_3 : fetch 109 3 = some (.iconst 4, 1, 0, 0, 0) := rfl
theorem f_Rd_readClasses_4 : fetch 109 4 = some (.invokevirtual 30, 3, 108, 2, 104) := rfl
theorem f_Rd_readClasses_7 : fetch 109 7 = some (.putfield 50, 3, 1, 0, 80) := rfl
theorem f_Rd_readClasses_10 : fetch 109 10 = some (.iconst 0, 1, 0, 0, 0) := rfl
theorem f_Rd_readClasses_11 : fetch 109 11 = some (.istore_n 2, 1, 0, 0, 0) := rfl
theorem f_Rd_readClasses_12 : fetch 109 12 = some (.iload_n 2, 1, 0, 0, 0) := rfl
theorem f_Rd_readClasses_13 : fetch 109 13 = some (.aload_n 1, 1, 0, 0, 0) := rfl
theorem f_Rd_readClasses_14 : fetch 109 14 = some (.getfield 50, 3, 1, 0, 80) := rfl
theorem f_Rd_readClasses_17 : fetch 109 17 = some (.if_icmp .ge 54, 3, 71, 0, 0) := rfl
theorem f_Rd_readClasses_20 : fetch 109 20 = some (.aload_n 1, 1, 0, 0, 0) := rfl
theorem f_Rd_readClasses_21 : fetch 109 21 = some (.getfield 53, 3, 1, 2, 81) := rfl
theorem f_Rd_readClasses_24 : fetch 109 24 = some (.iload_n 2, 1, 0, 0, 0) := rfl
theorem f_Rd_readClasses_25 : fetch 109 25 = some (.aload_n 0, 1, 0, 0, 0) := rfl
theorem f_Rd_readClasses_26 : fetch 109 26 = some (.iconst 0, 1, 0, 0, 0) := rfl
theorem f_Rd_readClasses_27 : fetch 109 27 = some (.iconst 4, 1, 0, 0, 0) := rfl
theorem f_Rd_readClasses_28 : fetch 109 28 = some (.invokevirtual 30, 3, 108, 2, 104) := rfl
theorem f_Rd_readClasses_31 : fetch 109 31 = some (.iastore, 1, 0, 0, 0) := rfl
theorem f_Rd_readClasses_32 : fetch 109 32 = some (.iconst 0, 1, 0, 0, 0) := rfl
theorem f_Rd_readClasses_33 : fetch 109 33 = some (.istore_n 3, 1, 0, 0, 0) := rfl
theorem f_Rd_readClasses_34 : fetch 109 34 = some (.iload_n 3, 1, 0, 0, 0) := rfl
theorem f_Rd_readClasses_35 : fetch 109 35 = some (.aload_n 1, 1, 0, 0, 0) := rfl
theorem f_Rd_readClasses_36 : fetch 109 36 = some (.getfield 53, 3, 1, 2, 81) := rfl
theorem f_Rd_readClasses_39 : fetch 109 39 = some (.iload_n 2, 1, 0, 0, 0) := rfl
theorem f_Rd_readClasses_40 : fetch 109 40 = some (.iaload, 1, 0, 0, 0) := rfl
theorem f_Rd_readClasses_41 : fetch 109 41 = some (.if_icmp .ge 24, 3, 65, 0, 0) := rfl
theorem f_Rd_readClasses_44 : fetch 109 44 = some (.aload_n 1, 1, 0, 0, 0) := rfl
theorem f_Rd_readClasses_45 : fetch 109 45 = some (.getfield 56, 3, 1, 3, 82) := rfl
theorem f_Rd_readClasses_48 : fetch 109 48 = some (.iconst 4, 1, 0, 0, 0) := rfl
theorem f_Rd_readClasses_49 : fetch 109 49 = some (.iload_n 2, 1, 0, 0, 0) := rfl
theorem f_Rd_readClasses_50 : fetch 109 50 = some (.imul, 1, 0, 0, 0) := rfl
theorem f_Rd_readClasses_51 : fetch 109 51 = some (.iload_n 3, 1, 0, 0, 0) := rfl
theorem f_Rd_readClasses_52 : fetch 109 52 = some (.iadd, 1, 0, 0, 0) := rfl
theorem f_Rd_readClasses_53 : fetch 109 53 = some (.aload_n 0, 1, 0, 0, 0) := rfl
theorem f_Rd_readClasses_54 : fetch 109 54 = some (.aload_n 1, 1, 0, 0, 0) := rfl
theorem f_Rd_readClasses_55 : fetch 109 55 = some (.invokevirtual 59, 3, 110, 1, 107) := rfl
theorem f_Rd_readClasses_58 : fetch 109 58 = some (.iastore, 1, 0, 0, 0) := rfl
theorem f_Rd_readClasses_59 : fetch 109 59 = some (.iinc 3 1, 3, 0, 0, 0) := rfl
theorem f_Rd_readClasses_62 : fetch 109 62 = some (.goto (-28), 3, 34, 0, 0) := rfl
theorem f_Rd_readClasses_65 : fetch 109 65 = some (.iinc 2 1, 3, 0, 0, 0) := rfl
theorem f_Rd_readClasses_68 : fetch 109 68 = some (.goto (-56), 3, 12, 0, 0) := rfl
theorem f_Rd_readClasses_71 : fetch 109 71 = some (.return_, 1, 0, 0, 0) := rfl
def F_Rd_readClasses_34 (rec12 : Nat → Nat → Int32 → SG → Option (SG)) : Nat → Nat → Nat → Int32 → Int32 → SG → Option (SG)
  | 0, _, _, _, _, _ => none
  | n + 1, x0, x1, x2, x3, σ =>
  if x2 < 0 ∨ 4 ≤ (x2).toNatClampNeg then none else
  if (σ.2.2.2.1 ((cref SHc (x1) 2)) ((x2).toNatClampNeg)) ≤ x3 then
  rec12 (x0) (x1) ((x2 + 1)) σ
  else match F_Rd_keptType (x0) (x1) σ with
  | none => none
  | some q3 =>
  if (((4 : Int32) * x2) + x3) < 0 ∨ 16 ≤ ((((4 : Int32) * x2) + x3)).toNatClampNeg then none else
  stl (setA q3.2 ((cref SHc (x1) 3)) (((((4 : Int32) * x2) + x3)).toNatClampNeg) (q3.1)) fun s5 =>
  F_Rd_readClasses_34 rec12 n (x0) (x1) (x2) ((x3 + 1)) s5
set_option maxHeartbeats 4000000 in
theorem w_Rd_readClasses_34 {b d : Nat} {sc : SC} {pre tl : List PE} {B : Nat} {Q : Option Value → List PE → Prop} {res : SG} (hB : B = b + pre.length) (hd : 3 ≤ d) {rec12 : Nat → Nat → Int32 → SG → Option (SG)} (hr12 : ∀ (lv : LV) (σ : SG) (x0 : Nat) (x1 : Nat) (x2 : Int32), isC SHc (x0) 3 = true → isC SHc (x1) 1 = true → lv.lookup 0 = some (.ref (B + (x0))) → lv.lookup 1 = some (.ref (B + (x1))) → lv.lookup 2 = some (.int (x2)) →  rec12 x0 x1 x2 σ = some res → Rn b sc d 109 12 lv [] (HH pre tl SHc B σ) Q) (hQ : Q none (HH pre tl SHc B res)) : ∀ (n : Nat) (lv : LV) (σ : SG) (x0 : Nat) (x1 : Nat) (x2 : Int32) (x3 : Int32), isC SHc (x0) 3 = true → isC SHc (x1) 1 = true → lv.lookup 0 = some (.ref (B + (x0))) → lv.lookup 1 = some (.ref (B + (x1))) → lv.lookup 2 = some (.int (x2)) → lv.lookup 3 = some (.int (x3)) → F_Rd_readClasses_34 rec12 n x0 x1 x2 x3 σ = some res → Rn b sc d 109 34 lv [] (HH pre tl SHc B σ) Q := by
  obtain ⟨e0, rfl⟩ : ∃ e, d = e + 1 := ⟨d - 1, by omega⟩
  intro n
  induction n with
  | zero => intro lv σ x0 x1 x2 x3 hx0 hx1 l0 l1 l2 l3 hF; cases hF
  | succ n ih =>
    intro lv σ x0 x1 x2 x3 hx0 hx1 l0 l1 l2 l3 hF
    unfold F_Rd_readClasses_34 at hF
    refine r_iload_n f_Rd_readClasses_34 l3 ?_
    refine r_aload_n f_Rd_readClasses_35 l1 ?_
    refine t_getc hB hx1 f_Rd_readClasses_36 rfl ?_
    refine r_iload_n f_Rd_readClasses_39 l2 ?_
    by_cases c1 : x2 < 0 ∨ 4 ≤ (x2).toNatClampNeg
    · rw [if_pos c1] at hF; cases hF
    rw [if_neg c1] at hF
    refine t_iald hB (cc_1_2 hx1) f_Rd_readClasses_40 c1 ?_
    refine r_icmp_ge f_Rd_readClasses_41 (fun c2 => ?_) (fun c2 => ?_)
    · rw [if_pos c2] at hF
      refine r_iinc f_Rd_readClasses_65 l2 (w := x2 + 1) rfl ?_
      refine r_goto f_Rd_readClasses_68 ?_
      exact hr12 _ (σ) (x0) (x1) ((x2 + 1)) hx0 hx1 (lk_put_ne l0 (by decide) (Or.inl rfl)) (lk_put_ne l1 (by decide) (Or.inl rfl)) lk_put hF
    · rw [if_neg c2] at hF
      refine r_aload_n f_Rd_readClasses_44 l1 ?_
      refine t_getc hB hx1 f_Rd_readClasses_45 rfl ?_
      refine r_iconst f_Rd_readClasses_48 (v := 4) (by decide) ?_
      refine r_iload_n f_Rd_readClasses_49 l2 ?_
      refine r_imul f_Rd_readClasses_50 ?_
      refine r_iload_n f_Rd_readClasses_51 l3 ?_
      refine r_iadd f_Rd_readClasses_52 ?_
      refine r_aload_n f_Rd_readClasses_53 l0 ?_
      refine r_aload_n f_Rd_readClasses_54 l1 ?_
      cases hq3 : F_Rd_keptType (x0) (x1) σ with
      | none => simp only [hq3] at hF; cases hF
      | some q3 =>
        simp only [hq3] at hF
        refine t_V1i hB hx0 rfl rfl f_Rd_readClasses_55 (by decide) (Nat.le_of_ble_eq_true rfl) (Nat.le_of_ble_eq_true rfl) (w_Rd_keptType hB (by omega) (x0) (x1) hx0 hx1 hq3 ⟨_, rfl, ?_⟩)
        by_cases c4 : (((4 : Int32) * x2) + x3) < 0 ∨ 16 ≤ ((((4 : Int32) * x2) + x3)).toNatClampNeg
        · rw [if_pos c4] at hF; cases hF
        rw [if_neg c4] at hF
        refine t_iast hB (cc_1_3 hx1) f_Rd_readClasses_58 c4 ?_
        generalize hs5 : setA q3.2 ((cref SHc (x1) 3)) (((((4 : Int32) * x2) + x3)).toNatClampNeg) (q3.1) = s5 at hF ⊢
        rw [stl_eq] at hF
        refine r_iinc f_Rd_readClasses_59 l3 (w := x3 + 1) rfl ?_
        refine r_goto f_Rd_readClasses_62 ?_
        exact ih _ (s5) (x0) (x1) (x2) ((x3 + 1)) hx0 hx1 (lk_put_ne l0 (by decide) (Or.inl rfl)) (lk_put_ne l1 (by decide) (Or.inl rfl)) (lk_put_ne l2 (by decide) (Or.inl rfl)) lk_put hF
def F_Rd_readClasses_12  : Nat → Nat → Nat → Int32 → SG → Option (SG)
  | 0, _, _, _, _ => none
  | n + 1, x0, x1, x2, σ =>
  if (σ.1 (x1) 0) ≤ x2 then
  some σ
  else match F_Rd_number (x0) ((0 : Int32)) ((4 : Int32)) σ with
  | none => none
  | some q7 =>
  if x2 < 0 ∨ 4 ≤ (x2).toNatClampNeg then none else
  stl (setA q7.2 ((cref SHc (x1) 2)) ((x2).toNatClampNeg) (q7.1)) fun s9 =>
  F_Rd_readClasses_34 (F_Rd_readClasses_12  n) 5000 (x0) (x1) (x2) ((0 : Int32)) s9
set_option maxHeartbeats 4000000 in
theorem w_Rd_readClasses_12 {b d : Nat} {sc : SC} {pre tl : List PE} {B : Nat} {Q : Option Value → List PE → Prop} {res : SG} (hB : B = b + pre.length) (hd : 3 ≤ d)   (hQ : Q none (HH pre tl SHc B res)) : ∀ (n : Nat) (lv : LV) (σ : SG) (x0 : Nat) (x1 : Nat) (x2 : Int32), isC SHc (x0) 3 = true → isC SHc (x1) 1 = true → lv.lookup 0 = some (.ref (B + (x0))) → lv.lookup 1 = some (.ref (B + (x1))) → lv.lookup 2 = some (.int (x2)) → F_Rd_readClasses_12  n x0 x1 x2 σ = some res → Rn b sc d 109 12 lv [] (HH pre tl SHc B σ) Q := by
  obtain ⟨e0, rfl⟩ : ∃ e, d = e + 1 := ⟨d - 1, by omega⟩
  intro n
  induction n with
  | zero => intro lv σ x0 x1 x2 hx0 hx1 l0 l1 l2 hF; cases hF
  | succ n ih =>
    intro lv σ x0 x1 x2 hx0 hx1 l0 l1 l2 hF
    unfold F_Rd_readClasses_12 at hF
    refine r_iload_n f_Rd_readClasses_12 l2 ?_
    refine r_aload_n f_Rd_readClasses_13 l1 ?_
    refine t_geti hB hx1 f_Rd_readClasses_14 rfl ?_
    refine r_icmp_ge f_Rd_readClasses_17 (fun c6 => ?_) (fun c6 => ?_)
    · rw [if_pos c6] at hF
      cases hF
      exact r_return f_Rd_readClasses_71 hQ
    · rw [if_neg c6] at hF
      refine r_aload_n f_Rd_readClasses_20 l1 ?_
      refine t_getc hB hx1 f_Rd_readClasses_21 rfl ?_
      refine r_iload_n f_Rd_readClasses_24 l2 ?_
      refine r_aload_n f_Rd_readClasses_25 l0 ?_
      refine r_iconst f_Rd_readClasses_26 (v := 0) (by decide) ?_
      refine r_iconst f_Rd_readClasses_27 (v := 4) (by decide) ?_
      cases hq7 : F_Rd_number (x0) ((0 : Int32)) ((4 : Int32)) σ with
      | none => simp only [hq7] at hF; cases hF
      | some q7 =>
        simp only [hq7] at hF
        refine t_V2i hB hx0 rfl rfl f_Rd_readClasses_28 (by decide) (Nat.le_of_ble_eq_true rfl) (Nat.le_of_ble_eq_true rfl) (w_Rd_number hB  (x0) ((0 : Int32)) ((4 : Int32)) hx0 hq7 ⟨_, rfl, ?_⟩)
        by_cases c8 : x2 < 0 ∨ 4 ≤ (x2).toNatClampNeg
        · rw [if_pos c8] at hF; cases hF
        rw [if_neg c8] at hF
        refine t_iast hB (cc_1_2 hx1) f_Rd_readClasses_31 c8 ?_
        generalize hs9 : setA q7.2 ((cref SHc (x1) 2)) ((x2).toNatClampNeg) (q7.1) = s9 at hF ⊢
        rw [stl_eq] at hF
        refine r_iconst f_Rd_readClasses_32 (v := 0) (by decide) ?_
        refine r_istore_n f_Rd_readClasses_33 ?_
        exact w_Rd_readClasses_34 hB hd (ih) hQ 5000 _ (s9) (x0) (x1) (x2) ((0 : Int32)) hx0 hx1 (lk_put_ne l0 (by decide) (Or.inl rfl)) (lk_put_ne l1 (by decide) (Or.inl rfl)) (lk_put_ne l2 (by decide) (Or.inl rfl)) lk_put hF
def F_Rd_readClasses (a0 : Nat) (a1 : Nat) (σ : SG) : Option (SG) :=
  match F_Rd_number (a0) ((0 : Int32)) ((4 : Int32)) σ with
  | none => none
  | some q10 =>
  stl (setI q10.2 (a1) 0 (q10.1)) fun s11 =>
  F_Rd_readClasses_12  5000 (a0) (a1) ((0 : Int32)) s11
set_option maxHeartbeats 4000000 in
theorem w_Rd_readClasses {b d : Nat} {pre tl : List PE} {B : Nat} {Q : Option Value → List PE → Prop} {res : SG} (hB : B = b + pre.length) (hd : 3 ≤ d)  {σ : SG} (a0 : Nat) (a1 : Nat) (ha0 : isC SHc (a0) 3 = true) (ha1 : isC SHc (a1) 1 = true) (hF : F_Rd_readClasses a0 a1 σ = some res) (hQ : Q none (HH pre tl SHc B res)) : Cl b d 109 [.ref (B + (a0)), .ref (B + (a1))] (HH pre tl SHc B σ) Q := by
  obtain ⟨e0, rfl⟩ : ∃ e, d = e + 1 := ⟨d - 1, by omega⟩
  unfold Cl
  unfold F_Rd_readClasses at hF
  refine r_aload_n f_Rd_readClasses_0 rfl ?_
  refine r_aload_n f_Rd_readClasses_1 rfl ?_
  refine r_iconst f_Rd_readClasses_2 (v := 0) (by decide) ?_
  refine r_iconst f_Rd_readClasses_3 (v := 4) (by decide) ?_
  cases hq10 : F_Rd_number (a0) ((0 : Int32)) ((4 : Int32)) σ with
  | none => simp only [hq10] at hF; cases hF
  | some q10 =>
    simp only [hq10] at hF
    refine t_V2i hB ha0 rfl rfl f_Rd_readClasses_4 (by decide) (Nat.le_of_ble_eq_true rfl) (Nat.le_of_ble_eq_true rfl) (w_Rd_number hB  (a0) ((0 : Int32)) ((4 : Int32)) ha0 hq10 ⟨_, rfl, ?_⟩)
    refine t_puti hB ha1 f_Rd_readClasses_7 rfl rfl ?_
    generalize hs11 : setI q10.2 (a1) 0 (q10.1) = s11 at hF ⊢
    rw [stl_eq] at hF
    refine r_iconst f_Rd_readClasses_10 (v := 0) (by decide) ?_
    refine r_istore_n f_Rd_readClasses_11 ?_
    exact w_Rd_readClasses_12 hB hd  hQ 5000 _ (s11) (a0) (a1) ((0 : Int32)) ha0 ha1 (lk_put_ne rfl (by decide) (Or.inl rfl)) (lk_put_ne rfl (by decide) (Or.inl rfl)) lk_put hF
theorem f_Rd_nextIs_0 : fetch 112 0 = some (.aload_n 0, 1, 0, 0, 0) := rfl
theorem f_Rd_nextIs_1 : fetch 112 1 = some (.getfield 23, 3, 3, 2, 76) := rfl
theorem f_Rd_nextIs_4 : fetch 112 4 = some (.aload_n 0, 1, 0, 0, 0) := rfl
theorem f_Rd_nextIs_5 : fetch 112 5 = some (.getfield 19, 3, 3, 1, 75) := rfl
theorem f_Rd_nextIs_8 : fetch 112 8 = some (.if_icmp .ge 20, 3, 28, 0, 0) := rfl
theorem f_Rd_nextIs_11 : fetch 112 11 = some (.aload_n 0, 1, 0, 0, 0) := rfl
theorem f_Rd_nextIs_12 : fetch 112 12 = some (.getfield 7, 3, 3, 0, 74) := rfl
theorem f_Rd_nextIs_15 : fetch 112 15 = some (.aload_n 0, 1, 0, 0, 0) := rfl
theorem f_Rd_nextIs_16 : fetch 112 16 = some (.getfield 23, 3, 3, 2, 76) := rfl
theorem f_Rd_nextIs_19 : fetch 112 19 = some (.iaload, 1, 0, 0, 0) := rfl
theorem f_Rd_nextIs_20 : fetch 112 20 = some (.iload_n 1, 1, 0, 0, 0) := rfl
theorem f_Rd_nextIs_21 : fetch 112 21 = some (.if_icmp .ne 7, 3, 28, 0, 0) := rfl
theorem f_Rd_nextIs_24 : fetch 112 24 = some (.iconst 1, 1, 0, 0, 0) := rfl
theorem f_Rd_nextIs_25 : fetch 112 25 = some (.goto 4, 3, 29, 0, 0) := rfl
theorem f_Rd_nextIs_28 : fetch 112 28 = some (.iconst 0, 1, 0, 0, 0) := rfl
theorem f_Rd_nextIs_29 : fetch 112 29 = some (.ireturn, 1, 2, 0, 0) := rfl
def F_Rd_nextIs_29  (y0 : Bool) (σ : SG) : Option (Bool × SG) :=
  some (y0, σ)
set_option maxHeartbeats 4000000 in
theorem w_Rd_nextIs_29 {b d : Nat} {sc : SC} {pre tl : List PE} {B : Nat} {Q : Option Value → List PE → Prop} {res : Bool × SG} (hB : B = b + pre.length)   (hQ : Q (some (.int (bz res.1))) (HH pre tl SHc B res.2)) (lv : LV) (σ : SG) (y0 : Bool)  (hF : F_Rd_nextIs_29  y0 σ = some res) : Rn b sc d 112 29 lv [.int (bz (y0))] (HH pre tl SHc B σ) Q := by
  unfold F_Rd_nextIs_29 at hF
  cases hF
  exact r_zreturn f_Rd_nextIs_29 (bz_or (y0)) hQ
def F_Rd_nextIs_28   (σ : SG) : Option (Bool × SG) :=
  F_Rd_nextIs_29 (false) σ
set_option maxHeartbeats 4000000 in
theorem w_Rd_nextIs_28 {b d : Nat} {sc : SC} {pre tl : List PE} {B : Nat} {Q : Option Value → List PE → Prop} {res : Bool × SG} (hB : B = b + pre.length)   (hQ : Q (some (.int (bz res.1))) (HH pre tl SHc B res.2)) (lv : LV) (σ : SG)   (hF : F_Rd_nextIs_28   σ = some res) : Rn b sc d 112 28 lv [] (HH pre tl SHc B σ) Q := by
  unfold F_Rd_nextIs_28 at hF
  refine r_iconst f_Rd_nextIs_28 (v := 0) (by decide) ?_
  exact w_Rd_nextIs_29 hB   hQ _ (σ) (false) hF
def F_Rd_nextIs (a0 : Nat) (a1 : Int32) (σ : SG) : Option (Bool × SG) :=
  if (σ.1 (a0) 1) ≤ (σ.1 (a0) 2) then
  F_Rd_nextIs_28 σ
  else if isA SHc ((σ.2.2.1 (a0) 0)) 0 (alen SHc ((σ.2.2.1 (a0) 0))) = true then
  if (σ.1 (a0) 2) < 0 ∨ (alen SHc ((σ.2.2.1 (a0) 0))) ≤ ((σ.1 (a0) 2)).toNatClampNeg then none else
  if (σ.2.2.2.1 ((σ.2.2.1 (a0) 0)) (((σ.1 (a0) 2)).toNatClampNeg)) = a1 then
  F_Rd_nextIs_29 (true) σ
  else F_Rd_nextIs_28 σ
  else none
set_option maxHeartbeats 4000000 in
theorem w_Rd_nextIs {b d : Nat} {pre tl : List PE} {B : Nat} {Q : Option Value → List PE → Prop} {res : Bool × SG} (hB : B = b + pre.length)  {σ : SG} (a0 : Nat) (a1 : Int32) (ha0 : isC SHc (a0) 3 = true) (hF : F_Rd_nextIs a0 a1 σ = some res) (hQ : Q (some (.int (bz res.1))) (HH pre tl SHc B res.2)) : Cl b d 112 [.ref (B + (a0)), .int (a1)] (HH pre tl SHc B σ) Q := by
  unfold Cl
  unfold F_Rd_nextIs at hF
  refine r_aload_n f_Rd_nextIs_0 rfl ?_
  refine t_geti hB ha0 f_Rd_nextIs_1 rfl ?_
  refine r_aload_n f_Rd_nextIs_4 rfl ?_
  refine t_geti hB ha0 f_Rd_nextIs_5 rfl ?_
  refine r_icmp_ge f_Rd_nextIs_8 (fun c1 => ?_) (fun c1 => ?_)
  · rw [if_pos c1] at hF
    exact w_Rd_nextIs_28 hB   hQ _ (σ) hF
  · rw [if_neg c1] at hF
    refine r_aload_n f_Rd_nextIs_11 rfl ?_
    by_cases c2 : isA SHc ((σ.2.2.1 (a0) 0)) 0 (alen SHc ((σ.2.2.1 (a0) 0))) = true
    case neg => rw [if_neg c2] at hF; cases hF
    rw [if_pos c2] at hF
    refine t_getm hB ha0 f_Rd_nextIs_12 rfl ?_
    refine r_aload_n f_Rd_nextIs_15 rfl ?_
    refine t_geti hB ha0 f_Rd_nextIs_16 rfl ?_
    by_cases c3 : (σ.1 (a0) 2) < 0 ∨ (alen SHc ((σ.2.2.1 (a0) 0))) ≤ ((σ.1 (a0) 2)).toNatClampNeg
    · rw [if_pos c3] at hF; cases hF
    rw [if_neg c3] at hF
    refine t_iald hB c2 f_Rd_nextIs_19 c3 ?_
    refine r_iload_n f_Rd_nextIs_20 rfl ?_
    refine r_icmp_ne f_Rd_nextIs_21 (fun c4 => ?_) (fun c4 => ?_)
    · rw [if_neg c4] at hF
      exact w_Rd_nextIs_28 hB   hQ _ (σ) hF
    · rw [if_pos (Decidable.not_not.mp c4)] at hF
      refine r_iconst f_Rd_nextIs_24 (v := 1) (by decide) ?_
      refine r_goto f_Rd_nextIs_25 ?_
      exact w_Rd_nextIs_29 hB   hQ _ (σ) (true) hF
theorem f_Rd_readRegion_0 : fetch 113 0 = some (.aload_n 1, 1, 0, 0, 0) := rfl
theorem f_Rd_readRegion_1 : fetch 113 1 = some (.aload_n 0, 1, 0, 0, 0) := rfl
theorem f_Rd_readRegion_2 : fetch 113 2 = some (.iconst 0, 1, 0, 0, 0) := rfl
theorem f_Rd_readRegion_3 : fetch 113 3 = some (.sipush 255, 3, 0, 0, 0) := rfl
theorem f_Rd_readRegion_6 : fetch 113 6 = some (.invokevirtual 30, 3, 108, 2, 104) := rfl
theorem f_Rd_readRegion_9 : fetch 113 9 = some (.putfield 101, 3, 4, 0, 92) := rfl
theorem f_Rd_readRegion_12 : fetch 113 12 = some (.aload_n 1, 1, 0, 0, 0) := rfl
theorem f_Rd_readRegion_13 : fetch 113 13 = some (.aload_n 0, 1, 0, 0, 0) := rfl
theorem f_Rd_readRegion_14 : fetch 113 14 = some (.iconst 0, 1, 0, 0, 0) := rfl
theorem f_Rd_readRegion_15 : fetch 113 15 = some (.sipush 255, 3, 0, 0, 0) := rfl
theorem f_Rd_readRegion_18 : fetch 113 18 = some (.invokevirtual 30, 3, 108, 2, 104) := rfl
theorem f_Rd_readRegion_21 : fetch 113 21 = some (.putfield 106, 3, 4, 1, 93) := rfl
theorem f_Rd_readRegion_24 : fetch 113 24 = some (.aload_n 1, 1, 0, 0, 0) := rfl
theorem f_Rd_readRegion_25 : fetch 113 25 = some (.aload_n 0, 1, 0, 0, 0) := rfl
theorem f_Rd_readRegion_26 : fetch 113 26 = some (.iconst 0, 1, 0, 0, 0) := rfl
theorem f_Rd_readRegion_27 : fetch 113 27 = some (.sipush 255, 3, 0, 0, 0) := rfl
theorem f_Rd_readRegion_30 : fetch 113 30 = some (.invokevirtual 30, 3, 108, 2, 104) := rfl
theorem f_Rd_readRegion_33 : fetch 113 33 = some (.putfield 109, 3, 4, 2, 94) := rfl
theorem f_Rd_readRegion_36 : fetch 113 36 = some (.aload_n 1, 1, 0, 0, 0) := rfl
theorem f_Rd_readRegion_37 : fetch 113 37 = some (.aload_n 0, 1, 0, 0, 0) := rfl
theorem f_Rd_readRegion_38 : fetch 113 38 = some (.iconst 0, 1, 0, 0, 0) := rfl
theorem f_Rd_readRegion_39 : fetch 113 39 = some (.iconst 1, 1, 0, 0, 0) := rfl
theorem f_Rd_readRegion_40 : fetch 113 40 = some (.invokevirtual 30, 3, 108, 2, 104) := rfl
theorem f_Rd_readRegion_43 : fetch 113 43 = some (.iconst 1, 1, 0, 0, 0) := rfl
theorem f_Rd_readRegion_44 : fetch 113 44 = some (.if_icmp .ne 7, 3, 51, 0, 0) := rfl
theorem f_Rd_readRegion_47 : fetch 113 47 = some (.iconst 1, 1, 0, 0, 0) := rfl
theorem f_Rd_readRegion_48 : fetch 113 48 = some (.goto 4, 3, 52, 0, 0) := rfl
theorem f_Rd_readRegion_51 : fetch 113 51 = some (.iconst 0, 1, 0, 0, 0) := rfl
theorem f_Rd_readRegion_52 : fetch 113 52 = some (.putfield 112, 3, 4, 3, 95) := rfl
theorem f_Rd_readRegion_55 : fetch 113 55 = some (.return_, 1, 0, 0, 0) := rfl
def F_Rd_readRegion_52  (y0 : Nat) (y1 : Bool) (σ : SG) : Option (SG) :=
  stl (setI σ (y0) 3 (bz (y1))) fun s1 =>
  some s1
set_option maxHeartbeats 4000000 in
theorem w_Rd_readRegion_52 {b d : Nat} {sc : SC} {pre tl : List PE} {B : Nat} {Q : Option Value → List PE → Prop} {res : SG} (hB : B = b + pre.length) (hd : 1 ≤ d)   (hQ : Q none (HH pre tl SHc B res)) (lv : LV) (σ : SG) (y0 : Nat) (y1 : Bool) (hy0 : isC SHc (y0) 4 = true) (hF : F_Rd_readRegion_52  y0 y1 σ = some res) : Rn b sc d 113 52 lv [.int (bz (y1)), .ref (B + (y0))] (HH pre tl SHc B σ) Q := by
  obtain ⟨e0, rfl⟩ : ∃ e, d = e + 1 := ⟨d - 1, by omega⟩
  unfold F_Rd_readRegion_52 at hF
  refine t_putz (v := y1) hB hy0 f_Rd_readRegion_52 rfl rfl ?_
  generalize hs1 : setI σ (y0) 3 (bz (y1)) = s1 at hF ⊢
  rw [stl_eq] at hF
  cases hF
  exact r_return f_Rd_readRegion_55 hQ
def F_Rd_readRegion (a0 : Nat) (a1 : Nat) (σ : SG) : Option (SG) :=
  match F_Rd_number (a0) ((0 : Int32)) ((255 : Int32)) σ with
  | none => none
  | some q2 =>
  stl (setI q2.2 (a1) 0 (q2.1)) fun s3 =>
  match F_Rd_number (a0) ((0 : Int32)) ((255 : Int32)) s3 with
  | none => none
  | some q4 =>
  stl (setI q4.2 (a1) 1 (q4.1)) fun s5 =>
  match F_Rd_number (a0) ((0 : Int32)) ((255 : Int32)) s5 with
  | none => none
  | some q6 =>
  stl (setI q6.2 (a1) 2 (q6.1)) fun s7 =>
  match F_Rd_number (a0) ((0 : Int32)) ((1 : Int32)) s7 with
  | none => none
  | some q8 =>
  if q8.1 = (1 : Int32) then
  F_Rd_readRegion_52 (a1) (true) q8.2
  else F_Rd_readRegion_52 (a1) (false) q8.2
set_option maxHeartbeats 4000000 in
theorem w_Rd_readRegion {b d : Nat} {pre tl : List PE} {B : Nat} {Q : Option Value → List PE → Prop} {res : SG} (hB : B = b + pre.length) (hd : 1 ≤ d)  {σ : SG} (a0 : Nat) (a1 : Nat) (ha0 : isC SHc (a0) 3 = true) (ha1 : isC SHc (a1) 4 = true) (hF : F_Rd_readRegion a0 a1 σ = some res) (hQ : Q none (HH pre tl SHc B res)) : Cl b d 113 [.ref (B + (a0)), .ref (B + (a1))] (HH pre tl SHc B σ) Q := by
  obtain ⟨e0, rfl⟩ : ∃ e, d = e + 1 := ⟨d - 1, by omega⟩
  unfold Cl
  unfold F_Rd_readRegion at hF
  refine r_aload_n f_Rd_readRegion_0 rfl ?_
  refine r_aload_n f_Rd_readRegion_1 rfl ?_
  refine r_iconst f_Rd_readRegion_2 (v := 0) (by decide) ?_
  refine r_sipush f_Rd_readRegion_3 (v := 255) (by decide) ?_
  cases hq2 : F_Rd_number (a0) ((0 : Int32)) ((255 : Int32)) σ with
  | none => simp only [hq2] at hF; cases hF
  | some q2 =>
    simp only [hq2] at hF
    refine t_V2i hB ha0 rfl rfl f_Rd_readRegion_6 (by decide) (Nat.le_of_ble_eq_true rfl) (Nat.le_of_ble_eq_true rfl) (w_Rd_number hB  (a0) ((0 : Int32)) ((255 : Int32)) ha0 hq2 ⟨_, rfl, ?_⟩)
    refine t_puti hB ha1 f_Rd_readRegion_9 rfl rfl ?_
    generalize hs3 : setI q2.2 (a1) 0 (q2.1) = s3 at hF ⊢
    rw [stl_eq] at hF
    refine r_aload_n f_Rd_readRegion_12 rfl ?_
    refine r_aload_n f_Rd_readRegion_13 rfl ?_
    refine r_iconst f_Rd_readRegion_14 (v := 0) (by decide) ?_
    refine r_sipush f_Rd_readRegion_15 (v := 255) (by decide) ?_
    cases hq4 : F_Rd_number (a0) ((0 : Int32)) ((255 : Int32)) s3 with
    | none => simp only [hq4] at hF; cases hF
    | some q4 =>
      simp only [hq4] at hF
      refine t_V2i hB ha0 rfl rfl f_Rd_readRegion_18 (by decide) (Nat.le_of_ble_eq_true rfl) (Nat.le_of_ble_eq_true rfl) (w_Rd_number hB  (a0) ((0 : Int32)) ((255 : Int32)) ha0 hq4 ⟨_, rfl, ?_⟩)
      refine t_puti hB ha1 f_Rd_readRegion_21 rfl rfl ?_
      generalize hs5 : setI q4.2 (a1) 1 (q4.1) = s5 at hF ⊢
      rw [stl_eq] at hF
      refine r_aload_n f_Rd_readRegion_24 rfl ?_
      refine r_aload_n f_Rd_readRegion_25 rfl ?_
      refine r_iconst f_Rd_readRegion_26 (v := 0) (by decide) ?_
      refine r_sipush f_Rd_readRegion_27 (v := 255) (by decide) ?_
      cases hq6 : F_Rd_number (a0) ((0 : Int32)) ((255 : Int32)) s5 with
      | none => simp only [hq6] at hF; cases hF
      | some q6 =>
        simp only [hq6] at hF
        refine t_V2i hB ha0 rfl rfl f_Rd_readRegion_30 (by decide) (Nat.le_of_ble_eq_true rfl) (Nat.le_of_ble_eq_true rfl) (w_Rd_number hB  (a0) ((0 : Int32)) ((255 : Int32)) ha0 hq6 ⟨_, rfl, ?_⟩)
        refine t_puti hB ha1 f_Rd_readRegion_33 rfl rfl ?_
        generalize hs7 : setI q6.2 (a1) 2 (q6.1) = s7 at hF ⊢
        rw [stl_eq] at hF
        refine r_aload_n f_Rd_readRegion_36 rfl ?_
        refine r_aload_n f_Rd_readRegion_37 rfl ?_
        refine r_iconst f_Rd_readRegion_38 (v := 0) (by decide) ?_
        refine r_iconst f_Rd_readRegion_39 (v := 1) (by decide) ?_
        cases hq8 : F_Rd_number (a0) ((0 : Int32)) ((1 : Int32)) s7 with
        | none => simp only [hq8] at hF; cases hF
        | some q8 =>
          simp only [hq8] at hF
          refine t_V2i hB ha0 rfl rfl f_Rd_readRegion_40 (by decide) (Nat.le_of_ble_eq_true rfl) (Nat.le_of_ble_eq_true rfl) (w_Rd_number hB  (a0) ((0 : Int32)) ((1 : Int32)) ha0 hq8 ⟨_, rfl, ?_⟩)
          refine r_iconst f_Rd_readRegion_43 (v := 1) (by decide) ?_
          refine r_icmp_ne f_Rd_readRegion_44 (fun c9 => ?_) (fun c9 => ?_)
          · rw [if_neg c9] at hF
            refine r_iconst f_Rd_readRegion_51 (v := 0) (by decide) ?_
            exact w_Rd_readRegion_52 hB hd  hQ _ (q8.2) (a1) (false) ha1 hF
          · rw [if_pos (Decidable.not_not.mp c9)] at hF
            refine r_iconst f_Rd_readRegion_47 (v := 1) (by decide) ?_
            refine r_goto f_Rd_readRegion_48 ?_
            exact w_Rd_readRegion_52 hB hd  hQ _ (q8.2) (a1) (true) ha1 hF
