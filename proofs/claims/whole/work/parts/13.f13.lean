theorem f_Vf_rowBehindValue_0 : fetch 186 0 = some (.iload_n 0, 1, 0, 0, 0) := rfl
theorem f_Vf_rowBehindValue_1 : fetch 186 1 = some (.tableswitch 103 26 32 #[43, 53, 63, 73, 73, 83, 93], 43, 104, 0, 0) := rfl
theorem f_Vf_rowBehindValue_44 : fetch 186 44 = some (.iload_n 1, 1, 0, 0, 0) := rfl
theorem f_Vf_rowBehindValue_45 : fetch 186 45 = some (.iconst 3, 1, 0, 0, 0) := rfl
theorem f_Vf_rowBehindValue_46 : fetch 186 46 = some (.invokestatic 176, 3, 157, 2, 204) := rfl
theorem f_Vf_rowBehindValue_49 : fetch 186 49 = some (.iconst 1, 1, 0, 0, 0) := rfl
theorem f_Vf_rowBehindValue_50 : fetch 186 50 = some (.invokestatic 167, 3, 155, 2, 202) := rfl
theorem f_Vf_rowBehindValue_53 : fetch 186 53 = some (.ireturn, 1, 0, 0, 0) := rfl
theorem f_Vf_rowBehindValue_54 : fetch 186 54 = some (.iload_n 1, 1, 0, 0, 0) := rfl
theorem f_Vf_rowBehindValue_55 : fetch 186 55 = some (.iconst 1, 1, 0, 0, 0) := rfl
theorem f_Vf_rowBehindValue_56 : fetch 186 56 = some (.invokestatic 185, 3, 184, 2, 207) := rfl
theorem f_Vf_rowBehindValue_59 : fetch 186 59 = some (.iconst 3, 1, 0, 0, 0) := rfl
theorem f_Vf_rowBehindValue_60 : fetch 186 60 = some (.invokestatic 176, 3, 157, 2, 204) := rfl
theorem f_Vf_rowBehindValue_63 : fetch 186 63 = some (.ireturn, 1, 0, 0, 0) := rfl
theorem f_Vf_rowBehindValue_64 : fetch 186 64 = some (.iload_n 1, 1, 0, 0, 0) := rfl
theorem f_Vf_rowBehindValue_65 : fetch 186 65 = some (.iconst 2, 1, 0, 0, 0) := rfl
theorem f_Vf_rowBehindValue_66 : fetch 186 66 = some (.invokestatic 185, 3, 184, 2, 207) := rfl
theorem f_Vf_rowBehindValue_69 : fetch 186 69 = some (.iconst 2, 1, 0, 0, 0) := rfl
theorem f_Vf_rowBehindValue_70 : fetch 186 70 = some (.invokestatic 167, 3, 155, 2, 202) := rfl
theorem f_Vf_rowBehindValue_73 : fetch 186 73 = some (.ireturn, 1, 0, 0, 0) := rfl
theorem f_Vf_rowBehindValue_74 : fetch 186 74 = some (.iload_n 1, 1, 0, 0, 0) := rfl
theorem f_Vf_rowBehindValue_75 : fetch 186 75 = some (.iconst 2, 1, 0, 0, 0) := rfl
theorem f_Vf_rowBehindValue_76 : fetch 186 76 = some (.invokestatic 176, 3, 157, 2, 204) := rfl
theorem f_Vf_rowBehindValue_79 : fetch 186 79 = some (.iconst 1, 1, 0, 0, 0) := rfl
theorem f_Vf_rowBehindValue_80 : fetch 186 80 = some (.invokestatic 167, 3, 155, 2, 202) := rfl
theorem f_Vf_rowBehindValue_83 : fetch 186 83 = some (.ireturn, 1, 0, 0, 0) := rfl
theorem f_Vf_rowBehindValue_84 : fetch 186 84 = some (.iload_n 1, 1, 0, 0, 0) := rfl
theorem f_Vf_rowBehindValue_85 : fetch 186 85 = some (.iconst 2, 1, 0, 0, 0) := rfl
theorem f_Vf_rowBehindValue_86 : fetch 186 86 = some (.invokestatic 176, 3, 157, 2, 204) := rfl
theorem f_Vf_rowBehindValue_89 : fetch 186 89 = some (.iconst 5, 1, 0, 0, 0) := rfl
theorem f_Vf_rowBehindValue_90 : fetch 186 90 = some (.invokestatic 167, 3, 155, 2, 202) := rfl
theorem f_Vf_rowBehindValue_93 : fetch 186 93 = some (.ireturn, 1, 0, 0, 0) := rfl
theorem f_Vf_rowBehindValue_94 : fetch 186 94 = some (.iload_n 1, 1, 0, 0, 0) := rfl
theorem f_Vf_rowBehindValue_95 : fetch 186 95 = some (.iconst 5, 1, 0, 0, 0) := rfl
theorem f_Vf_rowBehindValue_96 : fetch 186 96 = some (.invokestatic 176, 3, 157, 2, 204) := rfl
theorem f_Vf_rowBehindValue_99 : fetch 186 99 = some (.iconst 2, 1, 0, 0, 0) := rfl
theorem f_Vf_rowBehindValue_100 : fetch 186 100 = some (.invokestatic 167, 3, 155, 2, 202) := rfl
theorem f_Vf_rowBehindValue_103 : fetch 186 103 = some (.ireturn, 1, 0, 0, 0) := rfl
theorem f_Vf_rowBehindValue_104 : fetch 186 104 = some (.iconst (-1), 1, 0, 0, 0) := rfl
theorem f_Vf_rowBehindValue_105 : fetch 186 105 = some (.ireturn, 1, 0, 0, 0) := rfl
def F_Vf_rowBehindValue_74  (x1 : Int32) (σ : SG) : Option (Int32 × SG) :=
  match F_Rw_without (x1) ((2 : Int32)) σ with
  | none => none
  | some q1 =>
  match F_Rw_with (q1.1) ((1 : Int32)) q1.2 with
  | none => none
  | some q2 =>
  some (q2.1, q2.2)
set_option maxHeartbeats 4000000 in
theorem w_Vf_rowBehindValue_74 {b d : Nat} {sc : SC} {pre tl : List PE} {B : Nat} {Q : Option Value → List PE → Prop} {res : Int32 × SG} (hB : B = b + pre.length) (hd : 3 ≤ d)   (hQ : Q (some (.int res.1)) (HH pre tl SHc B res.2)) (lv : LV) (σ : SG) (x1 : Int32) (l1 : lv.lookup 1 = some (.int (x1))) (hF : F_Vf_rowBehindValue_74  x1 σ = some res) : Rn b sc d 186 74 lv [] (HH pre tl SHc B σ) Q := by
  obtain ⟨e0, rfl⟩ : ∃ e, d = e + 1 := ⟨d - 1, by omega⟩
  unfold F_Vf_rowBehindValue_74 at hF
  refine r_iload_n f_Vf_rowBehindValue_74 l1 ?_
  refine r_iconst f_Vf_rowBehindValue_75 (v := 2) (by decide) ?_
  cases hq1 : F_Rw_without (x1) ((2 : Int32)) σ with
  | none => simp only [hq1] at hF; cases hF
  | some q1 =>
    simp only [hq1] at hF
    refine t_S2i f_Vf_rowBehindValue_76 (by decide) (Nat.le_of_ble_eq_true rfl) (Nat.le_of_ble_eq_true rfl) (w_Rw_without hB (by omega) (x1) ((2 : Int32))  hq1 ⟨_, rfl, ?_⟩)
    refine r_iconst f_Vf_rowBehindValue_79 (v := 1) (by decide) ?_
    cases hq2 : F_Rw_with (q1.1) ((1 : Int32)) q1.2 with
    | none => simp only [hq2] at hF; cases hF
    | some q2 =>
      simp only [hq2] at hF
      refine t_S2i f_Vf_rowBehindValue_80 (by decide) (Nat.le_of_ble_eq_true rfl) (Nat.le_of_ble_eq_true rfl) (w_Rw_with hB (by omega) (q1.1) ((1 : Int32))  hq2 ⟨_, rfl, ?_⟩)
      cases hF
      exact r_ireturn f_Vf_rowBehindValue_83 hQ
def F_Vf_rowBehindValue (a0 : Int32) (a1 : Int32) (σ : SG) : Option (Int32 × SG) :=
  if a0 = 26 then
  match F_Rw_without (a1) ((3 : Int32)) σ with
  | none => none
  | some q4 =>
  match F_Rw_with (q4.1) ((1 : Int32)) q4.2 with
  | none => none
  | some q5 =>
  some (q5.1, q5.2)
  else if a0 = 27 then
  match F_Vf_withoutNumbers (a1) ((1 : Int32)) σ with
  | none => none
  | some q7 =>
  match F_Rw_without (q7.1) ((3 : Int32)) q7.2 with
  | none => none
  | some q8 =>
  some (q8.1, q8.2)
  else if a0 = 28 then
  match F_Vf_withoutNumbers (a1) ((2 : Int32)) σ with
  | none => none
  | some q10 =>
  match F_Rw_with (q10.1) ((2 : Int32)) q10.2 with
  | none => none
  | some q11 =>
  some (q11.1, q11.2)
  else if a0 = 29 then
  F_Vf_rowBehindValue_74 (a1) σ
  else if a0 = 30 then
  F_Vf_rowBehindValue_74 (a1) σ
  else if a0 = 31 then
  match F_Rw_without (a1) ((2 : Int32)) σ with
  | none => none
  | some q15 =>
  match F_Rw_with (q15.1) ((5 : Int32)) q15.2 with
  | none => none
  | some q16 =>
  some (q16.1, q16.2)
  else if a0 = 32 then
  match F_Rw_without (a1) ((5 : Int32)) σ with
  | none => none
  | some q18 =>
  match F_Rw_with (q18.1) ((2 : Int32)) q18.2 with
  | none => none
  | some q19 =>
  some (q19.1, q19.2)
  else some (((-1) : Int32), σ)
set_option maxHeartbeats 4000000 in
theorem w_Vf_rowBehindValue {b d : Nat} {pre tl : List PE} {B : Nat} {Q : Option Value → List PE → Prop} {res : Int32 × SG} (hB : B = b + pre.length) (hd : 3 ≤ d)  {σ : SG} (a0 : Int32) (a1 : Int32)  (hF : F_Vf_rowBehindValue a0 a1 σ = some res) (hQ : Q (some (.int res.1)) (HH pre tl SHc B res.2)) : Cl b d 186 [.int (a0), .int (a1)] (HH pre tl SHc B σ) Q := by
  obtain ⟨e0, rfl⟩ : ∃ e, d = e + 1 := ⟨d - 1, by omega⟩
  unfold Cl
  unfold F_Vf_rowBehindValue at hF
  refine r_iload_n f_Vf_rowBehindValue_0 rfl ?_
  by_cases c3 : a0 = 26
  · rw [if_pos c3] at hF
    refine r_tswI (t := 44) (off := 43) 0 f_Vf_rowBehindValue_1 (by rw [c3]; decide) (by rw [c3]; decide) (by rfl) (by decide) ?_
    refine r_iload_n f_Vf_rowBehindValue_44 rfl ?_
    refine r_iconst f_Vf_rowBehindValue_45 (v := 3) (by decide) ?_
    cases hq4 : F_Rw_without (a1) ((3 : Int32)) σ with
    | none => simp only [hq4] at hF; cases hF
    | some q4 =>
      simp only [hq4] at hF
      refine t_S2i f_Vf_rowBehindValue_46 (by decide) (Nat.le_of_ble_eq_true rfl) (Nat.le_of_ble_eq_true rfl) (w_Rw_without hB (by omega) (a1) ((3 : Int32))  hq4 ⟨_, rfl, ?_⟩)
      refine r_iconst f_Vf_rowBehindValue_49 (v := 1) (by decide) ?_
      cases hq5 : F_Rw_with (q4.1) ((1 : Int32)) q4.2 with
      | none => simp only [hq5] at hF; cases hF
      | some q5 =>
        simp only [hq5] at hF
        refine t_S2i f_Vf_rowBehindValue_50 (by decide) (Nat.le_of_ble_eq_true rfl) (Nat.le_of_ble_eq_true rfl) (w_Rw_with hB (by omega) (q4.1) ((1 : Int32))  hq5 ⟨_, rfl, ?_⟩)
        cases hF
        exact r_ireturn f_Vf_rowBehindValue_53 hQ
  rw [if_neg c3] at hF
  by_cases c6 : a0 = 27
  · rw [if_pos c6] at hF
    refine r_tswI (t := 54) (off := 53) 1 f_Vf_rowBehindValue_1 (by rw [c6]; decide) (by rw [c6]; decide) (by rfl) (by decide) ?_
    refine r_iload_n f_Vf_rowBehindValue_54 rfl ?_
    refine r_iconst f_Vf_rowBehindValue_55 (v := 1) (by decide) ?_
    cases hq7 : F_Vf_withoutNumbers (a1) ((1 : Int32)) σ with
    | none => simp only [hq7] at hF; cases hF
    | some q7 =>
      simp only [hq7] at hF
      refine t_S2i f_Vf_rowBehindValue_56 (by decide) (Nat.le_of_ble_eq_true rfl) (Nat.le_of_ble_eq_true rfl) (w_Vf_withoutNumbers hB (by omega) (a1) ((1 : Int32))  hq7 ⟨_, rfl, ?_⟩)
      refine r_iconst f_Vf_rowBehindValue_59 (v := 3) (by decide) ?_
      cases hq8 : F_Rw_without (q7.1) ((3 : Int32)) q7.2 with
      | none => simp only [hq8] at hF; cases hF
      | some q8 =>
        simp only [hq8] at hF
        refine t_S2i f_Vf_rowBehindValue_60 (by decide) (Nat.le_of_ble_eq_true rfl) (Nat.le_of_ble_eq_true rfl) (w_Rw_without hB (by omega) (q7.1) ((3 : Int32))  hq8 ⟨_, rfl, ?_⟩)
        cases hF
        exact r_ireturn f_Vf_rowBehindValue_63 hQ
  rw [if_neg c6] at hF
  by_cases c9 : a0 = 28
  · rw [if_pos c9] at hF
    refine r_tswI (t := 64) (off := 63) 2 f_Vf_rowBehindValue_1 (by rw [c9]; decide) (by rw [c9]; decide) (by rfl) (by decide) ?_
    refine r_iload_n f_Vf_rowBehindValue_64 rfl ?_
    refine r_iconst f_Vf_rowBehindValue_65 (v := 2) (by decide) ?_
    cases hq10 : F_Vf_withoutNumbers (a1) ((2 : Int32)) σ with
    | none => simp only [hq10] at hF; cases hF
    | some q10 =>
      simp only [hq10] at hF
      refine t_S2i f_Vf_rowBehindValue_66 (by decide) (Nat.le_of_ble_eq_true rfl) (Nat.le_of_ble_eq_true rfl) (w_Vf_withoutNumbers hB (by omega) (a1) ((2 : Int32))  hq10 ⟨_, rfl, ?_⟩)
      refine r_iconst f_Vf_rowBehindValue_69 (v := 2) (by decide) ?_
      cases hq11 : F_Rw_with (q10.1) ((2 : Int32)) q10.2 with
      | none => simp only [hq11] at hF; cases hF
      | some q11 =>
        simp only [hq11] at hF
        refine t_S2i f_Vf_rowBehindValue_70 (by decide) (Nat.le_of_ble_eq_true rfl) (Nat.le_of_ble_eq_true rfl) (w_Rw_with hB (by omega) (q10.1) ((2 : Int32))  hq11 ⟨_, rfl, ?_⟩)
        cases hF
        exact r_ireturn f_Vf_rowBehindValue_73 hQ
  rw [if_neg c9] at hF
  by_cases c12 : a0 = 29
  · rw [if_pos c12] at hF
    refine r_tswI (t := 74) (off := 73) 3 f_Vf_rowBehindValue_1 (by rw [c12]; decide) (by rw [c12]; decide) (by rfl) (by decide) ?_
    exact w_Vf_rowBehindValue_74 hB hd  hQ _ (σ) (a1) rfl hF
  rw [if_neg c12] at hF
  by_cases c13 : a0 = 30
  · rw [if_pos c13] at hF
    refine r_tswI (t := 74) (off := 73) 4 f_Vf_rowBehindValue_1 (by rw [c13]; decide) (by rw [c13]; decide) (by rfl) (by decide) ?_
    exact w_Vf_rowBehindValue_74 hB hd  hQ _ (σ) (a1) rfl hF
  rw [if_neg c13] at hF
  by_cases c14 : a0 = 31
  · rw [if_pos c14] at hF
    refine r_tswI (t := 84) (off := 83) 5 f_Vf_rowBehindValue_1 (by rw [c14]; decide) (by rw [c14]; decide) (by rfl) (by decide) ?_
    refine r_iload_n f_Vf_rowBehindValue_84 rfl ?_
    refine r_iconst f_Vf_rowBehindValue_85 (v := 2) (by decide) ?_
    cases hq15 : F_Rw_without (a1) ((2 : Int32)) σ with
    | none => simp only [hq15] at hF; cases hF
    | some q15 =>
      simp only [hq15] at hF
      refine t_S2i f_Vf_rowBehindValue_86 (by decide) (Nat.le_of_ble_eq_true rfl) (Nat.le_of_ble_eq_true rfl) (w_Rw_without hB (by omega) (a1) ((2 : Int32))  hq15 ⟨_, rfl, ?_⟩)
      refine r_iconst f_Vf_rowBehindValue_89 (v := 5) (by decide) ?_
      cases hq16 : F_Rw_with (q15.1) ((5 : Int32)) q15.2 with
      | none => simp only [hq16] at hF; cases hF
      | some q16 =>
        simp only [hq16] at hF
        refine t_S2i f_Vf_rowBehindValue_90 (by decide) (Nat.le_of_ble_eq_true rfl) (Nat.le_of_ble_eq_true rfl) (w_Rw_with hB (by omega) (q15.1) ((5 : Int32))  hq16 ⟨_, rfl, ?_⟩)
        cases hF
        exact r_ireturn f_Vf_rowBehindValue_93 hQ
  rw [if_neg c14] at hF
  by_cases c17 : a0 = 32
  · rw [if_pos c17] at hF
    refine r_tswI (t := 94) (off := 93) 6 f_Vf_rowBehindValue_1 (by rw [c17]; decide) (by rw [c17]; decide) (by rfl) (by decide) ?_
    refine r_iload_n f_Vf_rowBehindValue_94 rfl ?_
    refine r_iconst f_Vf_rowBehindValue_95 (v := 5) (by decide) ?_
    cases hq18 : F_Rw_without (a1) ((5 : Int32)) σ with
    | none => simp only [hq18] at hF; cases hF
    | some q18 =>
      simp only [hq18] at hF
      refine t_S2i f_Vf_rowBehindValue_96 (by decide) (Nat.le_of_ble_eq_true rfl) (Nat.le_of_ble_eq_true rfl) (w_Rw_without hB (by omega) (a1) ((5 : Int32))  hq18 ⟨_, rfl, ?_⟩)
      refine r_iconst f_Vf_rowBehindValue_99 (v := 2) (by decide) ?_
      cases hq19 : F_Rw_with (q18.1) ((2 : Int32)) q18.2 with
      | none => simp only [hq19] at hF; cases hF
      | some q19 =>
        simp only [hq19] at hF
        refine t_S2i f_Vf_rowBehindValue_100 (by decide) (Nat.le_of_ble_eq_true rfl) (Nat.le_of_ble_eq_true rfl) (w_Rw_with hB (by omega) (q18.1) ((2 : Int32))  hq19 ⟨_, rfl, ?_⟩)
        cases hF
        exact r_ireturn f_Vf_rowBehindValue_103 hQ
  rw [if_neg c17] at hF
  refine r_tswO f_Vf_rowBehindValue_1 (by have zc3 := lv_neT c3 (by decide : (26 : Int32).toInt = 26); have zc6 := lv_neT c6 (by decide : (27 : Int32).toInt = 27); have zc9 := lv_neT c9 (by decide : (28 : Int32).toInt = 28); have zc12 := lv_neT c12 (by decide : (29 : Int32).toInt = 29); have zc13 := lv_neT c13 (by decide : (30 : Int32).toInt = 30); have zc14 := lv_neT c14 (by decide : (31 : Int32).toInt = 31); have zc17 := lv_neT c17 (by decide : (32 : Int32).toInt = 32); omega) ?_
  refine r_iconst f_Vf_rowBehindValue_104 (v := (-1)) (by decide) ?_
  cases hF
  exact r_ireturn f_Vf_rowBehindValue_105 hQ
theorem f_Vf_rowBehindCall_0 : fetch 188 0 = some (.aload_n 0, 1, 0, 0, 0) := rfl
theorem f_Vf_rowBehindCall_1 : fetch 188 1 = some (.getfield 7, 3, 6, 0, 144) := rfl
theorem f_Vf_rowBehindCall_4 : fetch 188 4 = some (.iload_n 1, 1, 0, 0, 0) := rfl
theorem f_Vf_rowBehindCall_5 : fetch 188 5 = some (.invokevirtual 206, 3, 15, 1, 213) := rfl
theorem f_Vf_rowBehindCall_8 : fetch 188 8 = some (.astore_n 3, 1, 0, 0, 0) := rfl
theorem f_Vf_rowBehindCall_9 : fetch 188 9 = some (.aload_n 3, 1, 0, 0, 0) := rfl
theorem f_Vf_rowBehindCall_10 : fetch 188 10 = some (.ifnonnull 5, 3, 15, 0, 0) := rfl
theorem f_Vf_rowBehindCall_13 : fetch 188 13 = some (.iconst (-1), 1, 0, 0, 0) := rfl
theorem f_Vf_rowBehindCall_14 : fetch 188 14 = some (.ireturn, 1, 0, 0, 0) := rfl
theorem f_Vf_rowBehindCall_15 : fetch 188 15 = some (.aload_n 0, 1, 0, 0, 0) := rfl
theorem f_Vf_rowBehindCall_16 : fetch 188 16 = some (.getfield 19, 3, 6, 1, 146) := rfl
theorem f_Vf_rowBehindCall_19 : fetch 188 19 = some (.dup, 1, 0, 0, 0) := rfl
theorem f_Vf_rowBehindCall_20 : fetch 188 20 = some (.getfield 33, 3, 2, 11, 149) := rfl
theorem f_Vf_rowBehindCall_23 : fetch 188 23 = some (.iconst 1, 1, 0, 0, 0) := rfl
theorem f_Vf_rowBehindCall_24 : fetch 188 24 = some (.iload_n 1, 1, 0, 0, 0) := rfl
theorem f_Vf_rowBehindCall_25 : fetch 188 25 = some (.ishl, 1, 0, 0, 0) := rfl
theorem f_Vf_rowBehindCall_26 : fetch 188 26 = some (.ior, 1, 0, 0, 0) := rfl
theorem f_Vf_rowBehindCall_27 : fetch 188 27 = some (.putfield 33, 3, 2, 11, 149) := rfl
theorem f_Vf_rowBehindCall_30 : fetch 188 30 = some (.iload_n 2, 1, 0, 0, 0) := rfl
theorem f_Vf_rowBehindCall_31 : fetch 188 31 = some (.istore 4, 2, 0, 0, 0) := rfl
theorem f_Vf_rowBehindCall_33 : fetch 188 33 = some (.aload_n 3, 1, 0, 0, 0) := rfl
theorem f_Vf_rowBehindCall_34 : fetch 188 34 = some (.getfield 209, 3, 2, 1, 161) := rfl
theorem f_Vf_rowBehindCall_37 : fetch 188 37 = some (.iconst 1, 1, 0, 0, 0) := rfl
theorem f_Vf_rowBehindCall_38 : fetch 188 38 = some (.isub, 1, 0, 0, 0) := rfl
theorem f_Vf_rowBehindCall_39 : fetch 188 39 = some (.istore 5, 2, 0, 0, 0) := rfl
theorem f_Vf_rowBehindCall_41 : fetch 188 41 = some (.iload 5, 2, 0, 0, 0) := rfl
theorem f_Vf_rowBehindCall_43 : fetch 188 43 = some (.ifCond .lt 23, 3, 66, 0, 0) := rfl
theorem f_Vf_rowBehindCall_46 : fetch 188 46 = some (.iload 4, 2, 0, 0, 0) := rfl
theorem f_Vf_rowBehindCall_48 : fetch 188 48 = some (.aload_n 3, 1, 0, 0, 0) := rfl
theorem f_Vf_rowBehindCall_49 : fetch 188 49 = some (.getfield 212, 3, 2, 5, 162) := rfl
theorem f_Vf_rowBehindCall_52 : fetch 188 52 = some (.iload 5, 2, 0, 0, 0) := rfl
theorem f_Vf_rowBehindCall_54 : fetch 188 54 = some (.iaload, 1, 0, 0, 0) := rfl
theorem f_Vf_rowBehindCall_55 : fetch 188 55 = some (.invokestatic 176, 3, 157, 2, 204) := rfl
theorem f_Vf_rowBehindCall_58 : fetch 188 58 = some (.istore 4, 2, 0, 0, 0) := rfl
theorem f_Vf_rowBehindCall_60 : fetch 188 60 = some (.iinc 5 (-1), 3, 0, 0, 0) := rfl
theorem f_Vf_rowBehindCall_63 : fetch 188 63 = some (.goto (-22), 3, 41, 0, 0) := rfl
theorem f_Vf_rowBehindCall_66 : fetch 188 66 = some (.aload_n 3, 1, 0, 0, 0) := rfl
theorem f_Vf_rowBehindCall_67 : fetch 188 67 = some (.getfield 203, 3, 2, 0, 160) := rfl
theorem f_Vf_rowBehindCall_70 : fetch 188 70 = some (.ifCond .ne 8, 3, 78, 0, 0) := rfl
theorem f_Vf_rowBehindCall_73 : fetch 188 73 = some (.iload 4, 2, 0, 0, 0) := rfl
theorem f_Vf_rowBehindCall_75 : fetch 188 75 = some (.goto 12, 3, 87, 0, 0) := rfl
theorem f_Vf_rowBehindCall_78 : fetch 188 78 = some (.iload 4, 2, 0, 0, 0) := rfl
theorem f_Vf_rowBehindCall_80 : fetch 188 80 = some (.aload_n 3, 1, 0, 0, 0) := rfl
theorem f_Vf_rowBehindCall_81 : fetch 188 81 = some (.getfield 203, 3, 2, 0, 160) := rfl
theorem f_Vf_rowBehindCall_84 : fetch 188 84 = some (.invokestatic 167, 3, 155, 2, 202) := rfl
theorem f_Vf_rowBehindCall_87 : fetch 188 87 = some (.ireturn, 1, 0, 0, 0) := rfl
def F_Vf_rowBehindCall_87  (y0 : Int32) (σ : SG) : Option (Int32 × SG) :=
  some (y0, σ)
set_option maxHeartbeats 4000000 in
theorem w_Vf_rowBehindCall_87 {b d : Nat} {sc : SC} {pre tl : List PE} {B : Nat} {Q : Option Value → List PE → Prop} {res : Int32 × SG} (hB : B = b + pre.length) (hd : 2 ≤ d)   (hQ : Q (some (.int res.1)) (HH pre tl SHc B res.2)) (lv : LV) (σ : SG) (y0 : Int32)  (hF : F_Vf_rowBehindCall_87  y0 σ = some res) : Rn b sc d 188 87 lv [.int (y0)] (HH pre tl SHc B σ) Q := by
  obtain ⟨e0, rfl⟩ : ∃ e, d = e + 1 := ⟨d - 1, by omega⟩
  unfold F_Vf_rowBehindCall_87 at hF
  cases hF
  exact r_ireturn f_Vf_rowBehindCall_87 hQ
def F_Vf_rowBehindCall_41  : Nat → Option Nat → Int32 → Int32 → SG → Option (Int32 × SG)
  | 0, _, _, _, _ => none
  | n + 1, x3, x4, x5, σ =>
  if x5 < 0 then
  match x3 with
  | none => none
  | some k2 => if isC SHc k2 2 = true then
  if (σ.1 (k2) 0) = 0 then
  F_Vf_rowBehindCall_87 (x4) σ
  else match F_Rw_with (x4) ((σ.1 (k2) 0)) σ with
  | none => none
  | some q5 =>
  F_Vf_rowBehindCall_87 (q5.1) q5.2
  else none
  else match x3 with
  | none => none
  | some k6 => if isC SHc k6 2 = true then
  if x5 < 0 ∨ 3 ≤ (x5).toNatClampNeg then none else
  match F_Rw_without (x4) ((σ.2.2.2.1 ((cref SHc (k6) 5)) ((x5).toNatClampNeg))) σ with
  | none => none
  | some q9 =>
  F_Vf_rowBehindCall_41  n (some (k6)) (q9.1) ((x5 + (-1))) q9.2
  else none
set_option maxHeartbeats 4000000 in
theorem w_Vf_rowBehindCall_41 {b d : Nat} {sc : SC} {pre tl : List PE} {B : Nat} {Q : Option Value → List PE → Prop} {res : Int32 × SG} (hB : B = b + pre.length) (hd : 2 ≤ d)   (hQ : Q (some (.int res.1)) (HH pre tl SHc B res.2)) : ∀ (n : Nat) (lv : LV) (σ : SG) (x3 : Option Nat) (x4 : Int32) (x5 : Int32), lv.lookup 3 = some (ov B (x3)) → lv.lookup 4 = some (.int (x4)) → lv.lookup 5 = some (.int (x5)) → F_Vf_rowBehindCall_41  n x3 x4 x5 σ = some res → Rn b sc d 188 41 lv [] (HH pre tl SHc B σ) Q := by
  obtain ⟨e0, rfl⟩ : ∃ e, d = e + 1 := ⟨d - 1, by omega⟩
  intro n
  induction n with
  | zero => intro lv σ x3 x4 x5 l3 l4 l5 hF; cases hF
  | succ n ih =>
    intro lv σ x3 x4 x5 l3 l4 l5 hF
    unfold F_Vf_rowBehindCall_41 at hF
    refine r_iload f_Vf_rowBehindCall_41 l5 ?_
    refine r_if_lt f_Vf_rowBehindCall_43 (fun c1 => ?_) (fun c1 => ?_)
    · rw [if_pos c1] at hF
      refine r_aload_n_O f_Vf_rowBehindCall_66 l3 ?_
      cases c3 : (x3 : Option Nat) with
      | none => simp only [c3] at hF; cases hF
      | some k2 =>
        simp only [c3] at *
        by_cases c3k : isC SHc k2 2 = true
        · rw [if_pos c3k] at hF
          try simp only [ov]
          refine t_geti hB c3k f_Vf_rowBehindCall_67 rfl ?_
          refine r_if_ne f_Vf_rowBehindCall_70 (fun c4 => ?_) (fun c4 => ?_)
          · rw [if_neg c4] at hF
            refine r_iload f_Vf_rowBehindCall_78 l4 ?_
            refine r_aload_n f_Vf_rowBehindCall_80 l3 ?_
            refine t_geti hB c3k f_Vf_rowBehindCall_81 rfl ?_
            cases hq5 : F_Rw_with (x4) ((σ.1 (k2) 0)) σ with
            | none => simp only [hq5] at hF; cases hF
            | some q5 =>
              simp only [hq5] at hF
              refine t_S2i f_Vf_rowBehindCall_84 (by decide) (Nat.le_of_ble_eq_true rfl) (Nat.le_of_ble_eq_true rfl) (w_Rw_with hB (by omega) (x4) ((σ.1 (k2) 0))  hq5 ⟨_, rfl, ?_⟩)
              exact w_Vf_rowBehindCall_87 hB hd  hQ _ (q5.2) (q5.1) hF
          · rw [if_pos (Decidable.not_not.mp c4)] at hF
            refine r_iload f_Vf_rowBehindCall_73 l4 ?_
            refine r_goto f_Vf_rowBehindCall_75 ?_
            exact w_Vf_rowBehindCall_87 hB hd  hQ _ (σ) (x4) hF
        · rw [if_neg c3k] at hF; cases hF
    · rw [if_neg c1] at hF
      refine r_iload f_Vf_rowBehindCall_46 l4 ?_
      refine r_aload_n_O f_Vf_rowBehindCall_48 l3 ?_
      cases c7 : (x3 : Option Nat) with
      | none => simp only [c7] at hF; cases hF
      | some k6 =>
        simp only [c7] at *
        by_cases c7k : isC SHc k6 2 = true
        · rw [if_pos c7k] at hF
          try simp only [ov]
          refine t_getc hB c7k f_Vf_rowBehindCall_49 rfl ?_
          refine r_iload f_Vf_rowBehindCall_52 l5 ?_
          by_cases c8 : x5 < 0 ∨ 3 ≤ (x5).toNatClampNeg
          · rw [if_pos c8] at hF; cases hF
          rw [if_neg c8] at hF
          refine t_iald hB (cc_2_5 c7k) f_Vf_rowBehindCall_54 c8 ?_
          cases hq9 : F_Rw_without (x4) ((σ.2.2.2.1 ((cref SHc (k6) 5)) ((x5).toNatClampNeg))) σ with
          | none => simp only [hq9] at hF; cases hF
          | some q9 =>
            simp only [hq9] at hF
            refine t_S2i f_Vf_rowBehindCall_55 (by decide) (Nat.le_of_ble_eq_true rfl) (Nat.le_of_ble_eq_true rfl) (w_Rw_without hB (by omega) (x4) ((σ.2.2.2.1 ((cref SHc (k6) 5)) ((x5).toNatClampNeg)))  hq9 ⟨_, rfl, ?_⟩)
            refine r_istore f_Vf_rowBehindCall_58 ?_
            refine r_iinc f_Vf_rowBehindCall_60 (lk_put_ne l5 (by decide) (Or.inl rfl)) (w := x5 + (-1)) rfl ?_
            refine r_goto f_Vf_rowBehindCall_63 ?_
            exact ih _ (q9.2) (some (k6)) (q9.1) ((x5 + (-1))) (lk_put_ne (lk_put_ne l3 (by decide) (Or.inl rfl)) (by decide) (Or.inl rfl)) (lk_put_ne lk_put (by decide) (Or.inl rfl)) lk_put hF
        · rw [if_neg c7k] at hF; cases hF
def F_Vf_rowBehindCall (a0 : Nat) (a1 : Int32) (a2 : Int32) (σ : SG) : Option (Int32 × SG) :=
  if isC SHc ((σ.2.2.1 (a0) 0)) 1 = true then
  match F_Im_method ((σ.2.2.1 (a0) 0)) (a1) σ with
  | none => none
  | some q11 =>
  match q11.1 with
  | none => some (((-1) : Int32), q11.2)
  | some k12 => if isC SHc k12 2 = true then
  if isC SHc ((q11.2.2.2.1 (a0) 1)) 2 = true then
  stl (setI q11.2 ((q11.2.2.2.1 (a0) 1)) 11 (((q11.2.1 ((q11.2.2.2.1 (a0) 1)) 11) ||| ((1 : Int32) <<< (a1 &&& 31))))) fun s15 =>
  F_Vf_rowBehindCall_41  5000 (some (k12)) (a2) (((s15.1 (k12) 1) - (1 : Int32))) s15
  else none
  else none
  else none
set_option maxHeartbeats 4000000 in
theorem w_Vf_rowBehindCall {b d : Nat} {pre tl : List PE} {B : Nat} {Q : Option Value → List PE → Prop} {res : Int32 × SG} (hB : B = b + pre.length) (hd : 2 ≤ d)  {σ : SG} (a0 : Nat) (a1 : Int32) (a2 : Int32) (ha0 : isC SHc (a0) 6 = true) (hF : F_Vf_rowBehindCall a0 a1 a2 σ = some res) (hQ : Q (some (.int res.1)) (HH pre tl SHc B res.2)) : Cl b d 188 [.ref (B + (a0)), .int (a1), .int (a2)] (HH pre tl SHc B σ) Q := by
  obtain ⟨e0, rfl⟩ : ∃ e, d = e + 1 := ⟨d - 1, by omega⟩
  unfold Cl
  unfold F_Vf_rowBehindCall at hF
  refine r_aload_n f_Vf_rowBehindCall_0 rfl ?_
  by_cases c10 : isC SHc ((σ.2.2.1 (a0) 0)) 1 = true
  case neg => rw [if_neg c10] at hF; cases hF
  rw [if_pos c10] at hF
  refine t_getm hB ha0 f_Vf_rowBehindCall_1 rfl ?_
  refine r_iload_n f_Vf_rowBehindCall_4 rfl ?_
  cases hq11 : F_Im_method ((σ.2.2.1 (a0) 0)) (a1) σ with
  | none => simp only [hq11] at hF; cases hF
  | some q11 =>
    simp only [hq11] at hF
    refine t_V1o hB c10 rfl rfl f_Vf_rowBehindCall_5 (by decide) (Nat.le_of_ble_eq_true rfl) (Nat.le_of_ble_eq_true rfl) (w_Im_method hB  ((σ.2.2.1 (a0) 0)) (a1) c10 hq11 ⟨_, rfl, ?_⟩)
    refine r_astore_n_O f_Vf_rowBehindCall_8 ?_
    refine r_aload_n_O f_Vf_rowBehindCall_9 lk_put ?_
    cases c13 : (q11.1 : Option Nat) with
    | none =>
      simp only [c13] at *
      refine r_ifnonnullF f_Vf_rowBehindCall_10 ?_
      refine r_iconst f_Vf_rowBehindCall_13 (v := (-1)) (by decide) ?_
      cases hF
      exact r_ireturn f_Vf_rowBehindCall_14 hQ
    | some k12 =>
      simp only [c13] at *
      by_cases c13k : isC SHc k12 2 = true
      · rw [if_pos c13k] at hF
        refine r_ifnonnullT f_Vf_rowBehindCall_10 ?_
        refine r_aload_n f_Vf_rowBehindCall_15 (lk_put_ne rfl (by decide) (Or.inl rfl)) ?_
        by_cases c14 : isC SHc ((q11.2.2.2.1 (a0) 1)) 2 = true
        case neg => rw [if_neg c14] at hF; cases hF
        rw [if_pos c14] at hF
        refine t_getm hB ha0 f_Vf_rowBehindCall_16 rfl ?_
        refine r_dup f_Vf_rowBehindCall_19 rfl ?_
        refine t_geti hB c14 f_Vf_rowBehindCall_20 rfl ?_
        refine r_iconst f_Vf_rowBehindCall_23 (v := 1) (by decide) ?_
        refine r_iload_n f_Vf_rowBehindCall_24 (lk_put_ne rfl (by decide) (Or.inl rfl)) ?_
        refine r_ishl f_Vf_rowBehindCall_25 ?_
        refine r_ior f_Vf_rowBehindCall_26 ?_
        refine t_puti hB c14 f_Vf_rowBehindCall_27 rfl rfl ?_
        generalize hs15 : setI q11.2 ((q11.2.2.2.1 (a0) 1)) 11 (((q11.2.1 ((q11.2.2.2.1 (a0) 1)) 11) ||| ((1 : Int32) <<< (a1 &&& 31)))) = s15 at hF ⊢
        rw [stl_eq] at hF
        refine r_iload_n f_Vf_rowBehindCall_30 (lk_put_ne rfl (by decide) (Or.inl rfl)) ?_
        refine r_istore f_Vf_rowBehindCall_31 ?_
        refine r_aload_n f_Vf_rowBehindCall_33 (lk_put_ne lk_put (by decide) (Or.inl rfl)) ?_
        refine t_geti hB c13k f_Vf_rowBehindCall_34 rfl ?_
        refine r_iconst f_Vf_rowBehindCall_37 (v := 1) (by decide) ?_
        refine r_isub f_Vf_rowBehindCall_38 ?_
        refine r_istore f_Vf_rowBehindCall_39 ?_
        exact w_Vf_rowBehindCall_41 hB hd  hQ 5000 _ (s15) (some (k12)) (a2) (((s15.1 (k12) 1) - (1 : Int32))) (lk_put_ne (lk_put_ne lk_put (by decide) (Or.inl rfl)) (by decide) (Or.inl rfl)) (lk_put_ne lk_put (by decide) (Or.inl rfl)) lk_put hF
      · rw [if_neg c13k] at hF; cases hF
theorem f_Vf_rowBehindFlow_0 : fetch 187 0 = some (.iload_n 1, 1, 0, 0, 0) := rfl
theorem f_Vf_rowBehindFlow_1 : fetch 187 1 = some (.tableswitch 66 33 35 #[27, 34, 60], 27, 67, 0, 0) := rfl
theorem f_Vf_rowBehindFlow_28 : fetch 187 28 = some (.aload_n 0, 1, 0, 0, 0) := rfl
theorem f_Vf_rowBehindFlow_29 : fetch 187 29 = some (.iload_n 2, 1, 0, 0, 0) := rfl
theorem f_Vf_rowBehindFlow_30 : fetch 187 30 = some (.iload_n 3, 1, 0, 0, 0) := rfl
theorem f_Vf_rowBehindFlow_31 : fetch 187 31 = some (.invokevirtual 200, 3, 188, 2, 212) := rfl
theorem f_Vf_rowBehindFlow_34 : fetch 187 34 = some (.ireturn, 1, 0, 0, 0) := rfl
theorem f_Vf_rowBehindFlow_35 : fetch 187 35 = some (.aload_n 0, 1, 0, 0, 0) := rfl
theorem f_Vf_rowBehindFlow_36 : fetch 187 36 = some (.getfield 19, 3, 6, 1, 146) := rfl
theorem f_Vf_rowBehindFlow_39 : fetch 187 39 = some (.getfield 203, 3, 2, 0, 160) := rfl
theorem f_Vf_rowBehindFlow_42 : fetch 187 42 = some (.ifCond .ne 7, 3, 49, 0, 0) := rfl
theorem f_Vf_rowBehindFlow_45 : fetch 187 45 = some (.iload_n 3, 1, 0, 0, 0) := rfl
theorem f_Vf_rowBehindFlow_46 : fetch 187 46 = some (.goto 14, 3, 60, 0, 0) := rfl
theorem f_Vf_rowBehindFlow_49 : fetch 187 49 = some (.iload_n 3, 1, 0, 0, 0) := rfl
theorem f_Vf_rowBehindFlow_50 : fetch 187 50 = some (.aload_n 0, 1, 0, 0, 0) := rfl
theorem f_Vf_rowBehindFlow_51 : fetch 187 51 = some (.getfield 19, 3, 6, 1, 146) := rfl
theorem f_Vf_rowBehindFlow_54 : fetch 187 54 = some (.getfield 203, 3, 2, 0, 160) := rfl
theorem f_Vf_rowBehindFlow_57 : fetch 187 57 = some (.invokestatic 176, 3, 157, 2, 204) := rfl
theorem f_Vf_rowBehindFlow_60 : fetch 187 60 = some (.ireturn, 1, 0, 0, 0) := rfl
theorem f_Vf_rowBehindFlow_61 : fetch 187 61 = some (.iload_n 3, 1, 0, 0, 0) := rfl
theorem f_Vf_rowBehindFlow_62 : fetch 187 62 = some (.iconst 1, 1, 0, 0, 0) := rfl
theorem f_Vf_rowBehindFlow_63 : fetch 187 63 = some (.invokestatic 185, 3, 184, 2, 207) := rfl
theorem f_Vf_rowBehindFlow_66 : fetch 187 66 = some (.ireturn, 1, 0, 0, 0) := rfl
theorem f_Vf_rowBehindFlow_67 : fetch 187 67 = some (.iload_n 3, 1, 0, 0, 0) := rfl
theorem f_Vf_rowBehindFlow_68 : fetch 187 68 = some (.ireturn, 1, 0, 0, 0) := rfl
def F_Vf_rowBehindFlow_60  (y0 : Int32) (σ : SG) : Option (Int32 × SG) :=
  some (y0, σ)
set_option maxHeartbeats 4000000 in
theorem w_Vf_rowBehindFlow_60 {b d : Nat} {sc : SC} {pre tl : List PE} {B : Nat} {Q : Option Value → List PE → Prop} {res : Int32 × SG} (hB : B = b + pre.length) (hd : 3 ≤ d)   (hQ : Q (some (.int res.1)) (HH pre tl SHc B res.2)) (lv : LV) (σ : SG) (y0 : Int32)  (hF : F_Vf_rowBehindFlow_60  y0 σ = some res) : Rn b sc d 187 60 lv [.int (y0)] (HH pre tl SHc B σ) Q := by
  obtain ⟨e0, rfl⟩ : ∃ e, d = e + 1 := ⟨d - 1, by omega⟩
  unfold F_Vf_rowBehindFlow_60 at hF
  cases hF
  exact r_ireturn f_Vf_rowBehindFlow_60 hQ
def F_Vf_rowBehindFlow (a0 : Nat) (a1 : Int32) (a2 : Int32) (a3 : Int32) (σ : SG) : Option (Int32 × SG) :=
  if a1 = 33 then
  match F_Vf_rowBehindCall (a0) (a2) (a3) σ with
  | none => none
  | some q2 =>
  some (q2.1, q2.2)
  else if a1 = 34 then
  if isC SHc ((σ.2.2.1 (a0) 1)) 2 = true then
  if (σ.1 ((σ.2.2.1 (a0) 1)) 0) = 0 then
  F_Vf_rowBehindFlow_60 (a3) σ
  else if isC SHc ((σ.2.2.1 (a0) 1)) 2 = true then
  match F_Rw_without (a3) ((σ.1 ((σ.2.2.1 (a0) 1)) 0)) σ with
  | none => none
  | some q7 =>
  F_Vf_rowBehindFlow_60 (q7.1) q7.2
  else none
  else none
  else if a1 = 35 then
  match F_Vf_withoutNumbers (a3) ((1 : Int32)) σ with
  | none => none
  | some q9 =>
  some (q9.1, q9.2)
  else some (a3, σ)
set_option maxHeartbeats 4000000 in
theorem w_Vf_rowBehindFlow {b d : Nat} {pre tl : List PE} {B : Nat} {Q : Option Value → List PE → Prop} {res : Int32 × SG} (hB : B = b + pre.length) (hd : 3 ≤ d)  {σ : SG} (a0 : Nat) (a1 : Int32) (a2 : Int32) (a3 : Int32) (ha0 : isC SHc (a0) 6 = true) (hF : F_Vf_rowBehindFlow a0 a1 a2 a3 σ = some res) (hQ : Q (some (.int res.1)) (HH pre tl SHc B res.2)) : Cl b d 187 [.ref (B + (a0)), .int (a1), .int (a2), .int (a3)] (HH pre tl SHc B σ) Q := by
  obtain ⟨e0, rfl⟩ : ∃ e, d = e + 1 := ⟨d - 1, by omega⟩
  unfold Cl
  unfold F_Vf_rowBehindFlow at hF
  refine r_iload_n f_Vf_rowBehindFlow_0 rfl ?_
  by_cases c1 : a1 = 33
  · rw [if_pos c1] at hF
    refine r_tswI (t := 28) (off := 27) 0 f_Vf_rowBehindFlow_1 (by rw [c1]; decide) (by rw [c1]; decide) (by rfl) (by decide) ?_
    refine r_aload_n f_Vf_rowBehindFlow_28 rfl ?_
    refine r_iload_n f_Vf_rowBehindFlow_29 rfl ?_
    refine r_iload_n f_Vf_rowBehindFlow_30 rfl ?_
    cases hq2 : F_Vf_rowBehindCall (a0) (a2) (a3) σ with
    | none => simp only [hq2] at hF; cases hF
    | some q2 =>
      simp only [hq2] at hF
      refine t_V2i hB ha0 rfl rfl f_Vf_rowBehindFlow_31 (by decide) (Nat.le_of_ble_eq_true rfl) (Nat.le_of_ble_eq_true rfl) (w_Vf_rowBehindCall hB (by omega) (a0) (a2) (a3) ha0 hq2 ⟨_, rfl, ?_⟩)
      cases hF
      exact r_ireturn f_Vf_rowBehindFlow_34 hQ
  rw [if_neg c1] at hF
  by_cases c3 : a1 = 34
  · rw [if_pos c3] at hF
    refine r_tswI (t := 35) (off := 34) 1 f_Vf_rowBehindFlow_1 (by rw [c3]; decide) (by rw [c3]; decide) (by rfl) (by decide) ?_
    refine r_aload_n f_Vf_rowBehindFlow_35 rfl ?_
    by_cases c4 : isC SHc ((σ.2.2.1 (a0) 1)) 2 = true
    case neg => rw [if_neg c4] at hF; cases hF
    rw [if_pos c4] at hF
    refine t_getm hB ha0 f_Vf_rowBehindFlow_36 rfl ?_
    refine t_geti hB c4 f_Vf_rowBehindFlow_39 rfl ?_
    refine r_if_ne f_Vf_rowBehindFlow_42 (fun c5 => ?_) (fun c5 => ?_)
    · rw [if_neg c5] at hF
      refine r_iload_n f_Vf_rowBehindFlow_49 rfl ?_
      refine r_aload_n f_Vf_rowBehindFlow_50 rfl ?_
      by_cases c6 : isC SHc ((σ.2.2.1 (a0) 1)) 2 = true
      case neg => rw [if_neg c6] at hF; cases hF
      rw [if_pos c6] at hF
      refine t_getm hB ha0 f_Vf_rowBehindFlow_51 rfl ?_
      refine t_geti hB c6 f_Vf_rowBehindFlow_54 rfl ?_
      cases hq7 : F_Rw_without (a3) ((σ.1 ((σ.2.2.1 (a0) 1)) 0)) σ with
      | none => simp only [hq7] at hF; cases hF
      | some q7 =>
        simp only [hq7] at hF
        refine t_S2i f_Vf_rowBehindFlow_57 (by decide) (Nat.le_of_ble_eq_true rfl) (Nat.le_of_ble_eq_true rfl) (w_Rw_without hB (by omega) (a3) ((σ.1 ((σ.2.2.1 (a0) 1)) 0))  hq7 ⟨_, rfl, ?_⟩)
        exact w_Vf_rowBehindFlow_60 hB hd  hQ _ (q7.2) (q7.1) hF
    · rw [if_pos (Decidable.not_not.mp c5)] at hF
      refine r_iload_n f_Vf_rowBehindFlow_45 rfl ?_
      refine r_goto f_Vf_rowBehindFlow_46 ?_
      exact w_Vf_rowBehindFlow_60 hB hd  hQ _ (σ) (a3) hF
  rw [if_neg c3] at hF
  by_cases c8 : a1 = 35
  · rw [if_pos c8] at hF
    refine r_tswI (t := 61) (off := 60) 2 f_Vf_rowBehindFlow_1 (by rw [c8]; decide) (by rw [c8]; decide) (by rfl) (by decide) ?_
    refine r_iload_n f_Vf_rowBehindFlow_61 rfl ?_
    refine r_iconst f_Vf_rowBehindFlow_62 (v := 1) (by decide) ?_
    cases hq9 : F_Vf_withoutNumbers (a3) ((1 : Int32)) σ with
    | none => simp only [hq9] at hF; cases hF
    | some q9 =>
      simp only [hq9] at hF
      refine t_S2i f_Vf_rowBehindFlow_63 (by decide) (Nat.le_of_ble_eq_true rfl) (Nat.le_of_ble_eq_true rfl) (w_Vf_withoutNumbers hB (by omega) (a3) ((1 : Int32))  hq9 ⟨_, rfl, ?_⟩)
      cases hF
      exact r_ireturn f_Vf_rowBehindFlow_66 hQ
  rw [if_neg c8] at hF
  refine r_tswO f_Vf_rowBehindFlow_1 (by have zc1 := lv_neT c1 (by decide : (33 : Int32).toInt = 33); have zc3 := lv_neT c3 (by decide : (34 : Int32).toInt = 34); have zc8 := lv_neT c8 (by decide : (35 : Int32).toInt = 35); omega) ?_
  refine r_iload_n f_Vf_rowBehindFlow_67 rfl ?_
  cases hF
  exact r_ireturn f_Vf_rowBehindFlow_68 hQ
theorem f_Vf_liesWhereItMay_0 : fetch 189 0 = some (.iload_n 1, 1, 0, 0, 0) := rfl
theorem f_Vf_liesWhereItMay_1 : fetch 189 1 = some (.bipush 34, 2, 0, 0, 0) := rfl
theorem f_Vf_liesWhereItMay_3 : fetch 189 3 = some (.if_icmp .ne 31, 3, 34, 0, 0) := rfl
theorem f_Vf_liesWhereItMay_6 : fetch 189 6 = some (.aload_n 0, 1, 0, 0, 0) := rfl
theorem f_Vf_liesWhereItMay_7 : fetch 189 7 = some (.getfield 19, 3, 6, 1, 146) := rfl
theorem f_Vf_liesWhereItMay_10 : fetch 189 10 = some (.iload_n 2, 1, 0, 0, 0) := rfl
theorem f_Vf_liesWhereItMay_11 : fetch 189 11 = some (.invokevirtual 153, 3, 23, 1, 214) := rfl
theorem f_Vf_liesWhereItMay_14 : fetch 189 14 = some (.ifCond .ne 18, 3, 32, 0, 0) := rfl
theorem f_Vf_liesWhereItMay_17 : fetch 189 17 = some (.aload_n 0, 1, 0, 0, 0) := rfl
theorem f_Vf_liesWhereItMay_18 : fetch 189 18 = some (.getfield 19, 3, 6, 1, 146) := rfl
theorem f_Vf_liesWhereItMay_21 : fetch 189 21 = some (.iload_n 2, 1, 0, 0, 0) := rfl
theorem f_Vf_liesWhereItMay_22 : fetch 189 22 = some (.invokevirtual 156, 3, 24, 1, 215) := rfl
theorem f_Vf_liesWhereItMay_25 : fetch 189 25 = some (.ifCond .ne 7, 3, 32, 0, 0) := rfl
theorem f_Vf_liesWhereItMay_28 : fetch 189 28 = some (.iconst 1, 1, 0, 0, 0) := rfl
theorem f_Vf_liesWhereItMay_29 : fetch 189 29 = some (.goto 4, 3, 33, 0, 0) := rfl
theorem f_Vf_liesWhereItMay_32 : fetch 189 32 = some (.iconst 0, 1, 0, 0, 0) := rfl
theorem f_Vf_liesWhereItMay_33 : fetch 189 33 = some (.ireturn, 1, 2, 0, 0) := rfl
theorem f_Vf_liesWhereItMay_34 : fetch 189 34 = some (.iload_n 1, 1, 0, 0, 0) := rfl
theorem f_Vf_liesWhereItMay_35 : fetch 189 35 = some (.bipush 37, 2, 0, 0, 0) := rfl
theorem f_Vf_liesWhereItMay_37 : fetch 189 37 = some (.if_icmp .ne 31, 3, 68, 0, 0) := rfl
theorem f_Vf_liesWhereItMay_40 : fetch 189 40 = some (.aload_n 0, 1, 0, 0, 0) := rfl
theorem f_Vf_liesWhereItMay_41 : fetch 189 41 = some (.getfield 19, 3, 6, 1, 146) := rfl
theorem f_Vf_liesWhereItMay_44 : fetch 189 44 = some (.iload_n 2, 1, 0, 0, 0) := rfl
theorem f_Vf_liesWhereItMay_45 : fetch 189 45 = some (.invokevirtual 159, 3, 25, 1, 216) := rfl
theorem f_Vf_liesWhereItMay_48 : fetch 189 48 = some (.ifCond .lt 18, 3, 66, 0, 0) := rfl
theorem f_Vf_liesWhereItMay_51 : fetch 189 51 = some (.aload_n 0, 1, 0, 0, 0) := rfl
theorem f_Vf_liesWhereItMay_52 : fetch 189 52 = some (.getfield 19, 3, 6, 1, 146) := rfl
theorem f_Vf_liesWhereItMay_55 : fetch 189 55 = some (.iload_n 2, 1, 0, 0, 0) := rfl
theorem f_Vf_liesWhereItMay_56 : fetch 189 56 = some (.invokevirtual 110, 3, 20, 1, 194) := rfl
theorem f_Vf_liesWhereItMay_59 : fetch 189 59 = some (.ifCond .ne 7, 3, 66, 0, 0) := rfl
theorem f_Vf_liesWhereItMay_62 : fetch 189 62 = some (.iconst 1, 1, 0, 0, 0) := rfl
theorem f_Vf_liesWhereItMay_63 : fetch 189 63 = some (.goto 4, 3, 67, 0, 0) := rfl
theorem f_Vf_liesWhereItMay_66 : fetch 189 66 = some (.iconst 0, 1, 0, 0, 0) := rfl
theorem f_Vf_liesWhereItMay_67 : fetch 189 67 = some (.ireturn, 1, 2, 0, 0) := rfl
theorem f_Vf_liesWhereItMay_68 : fetch 189 68 = some (.iconst 1, 1, 0, 0, 0) := rfl
theorem f_Vf_liesWhereItMay_69 : fetch 189 69 = some (.ireturn, 1, 2, 0, 0) := rfl
def F_Vf_liesWhereItMay_67  (y0 : Bool) (σ : SG) : Option (Bool × SG) :=
  some (y0, σ)
set_option maxHeartbeats 4000000 in
theorem w_Vf_liesWhereItMay_67 {b d : Nat} {sc : SC} {pre tl : List PE} {B : Nat} {Q : Option Value → List PE → Prop} {res : Bool × SG} (hB : B = b + pre.length) (hd : 2 ≤ d)   (hQ : Q (some (.int (bz res.1))) (HH pre tl SHc B res.2)) (lv : LV) (σ : SG) (y0 : Bool)  (hF : F_Vf_liesWhereItMay_67  y0 σ = some res) : Rn b sc d 189 67 lv [.int (bz (y0))] (HH pre tl SHc B σ) Q := by
  obtain ⟨e0, rfl⟩ : ∃ e, d = e + 1 := ⟨d - 1, by omega⟩
  unfold F_Vf_liesWhereItMay_67 at hF
  cases hF
  exact r_zreturn f_Vf_liesWhereItMay_67 (bz_or (y0)) hQ
def F_Vf_liesWhereItMay_66   (σ : SG) : Option (Bool × SG) :=
  F_Vf_liesWhereItMay_67 (false) σ
set_option maxHeartbeats 4000000 in
theorem w_Vf_liesWhereItMay_66 {b d : Nat} {sc : SC} {pre tl : List PE} {B : Nat} {Q : Option Value → List PE → Prop} {res : Bool × SG} (hB : B = b + pre.length) (hd : 2 ≤ d)   (hQ : Q (some (.int (bz res.1))) (HH pre tl SHc B res.2)) (lv : LV) (σ : SG)   (hF : F_Vf_liesWhereItMay_66   σ = some res) : Rn b sc d 189 66 lv [] (HH pre tl SHc B σ) Q := by
  obtain ⟨e0, rfl⟩ : ∃ e, d = e + 1 := ⟨d - 1, by omega⟩
  unfold F_Vf_liesWhereItMay_66 at hF
  refine r_iconst f_Vf_liesWhereItMay_66 (v := 0) (by decide) ?_
  exact w_Vf_liesWhereItMay_67 hB hd  hQ _ (σ) (false) hF
def F_Vf_liesWhereItMay_33  (y0 : Bool) (σ : SG) : Option (Bool × SG) :=
  some (y0, σ)
set_option maxHeartbeats 4000000 in
theorem w_Vf_liesWhereItMay_33 {b d : Nat} {sc : SC} {pre tl : List PE} {B : Nat} {Q : Option Value → List PE → Prop} {res : Bool × SG} (hB : B = b + pre.length) (hd : 2 ≤ d)   (hQ : Q (some (.int (bz res.1))) (HH pre tl SHc B res.2)) (lv : LV) (σ : SG) (y0 : Bool)  (hF : F_Vf_liesWhereItMay_33  y0 σ = some res) : Rn b sc d 189 33 lv [.int (bz (y0))] (HH pre tl SHc B σ) Q := by
  obtain ⟨e0, rfl⟩ : ∃ e, d = e + 1 := ⟨d - 1, by omega⟩
  unfold F_Vf_liesWhereItMay_33 at hF
  cases hF
  exact r_zreturn f_Vf_liesWhereItMay_33 (bz_or (y0)) hQ
def F_Vf_liesWhereItMay_32   (σ : SG) : Option (Bool × SG) :=
  F_Vf_liesWhereItMay_33 (false) σ
set_option maxHeartbeats 4000000 in
theorem w_Vf_liesWhereItMay_32 {b d : Nat} {sc : SC} {pre tl : List PE} {B : Nat} {Q : Option Value → List PE → Prop} {res : Bool × SG} (hB : B = b + pre.length) (hd : 2 ≤ d)   (hQ : Q (some (.int (bz res.1))) (HH pre tl SHc B res.2)) (lv : LV) (σ : SG)   (hF : F_Vf_liesWhereItMay_32   σ = some res) : Rn b sc d 189 32 lv [] (HH pre tl SHc B σ) Q := by
  obtain ⟨e0, rfl⟩ : ∃ e, d = e + 1 := ⟨d - 1, by omega⟩
  unfold F_Vf_liesWhereItMay_32 at hF
  refine r_iconst f_Vf_liesWhereItMay_32 (v := 0) (by decide) ?_
  exact w_Vf_liesWhereItMay_33 hB hd  hQ _ (σ) (false) hF
def F_Vf_liesWhereItMay (a0 : Nat) (a1 : Int32) (a2 : Int32) (σ : SG) : Option (Bool × SG) :=
  if a1 = (34 : Int32) then
  if isC SHc ((σ.2.2.1 (a0) 1)) 2 = true then
  match F_Me_partsAt ((σ.2.2.1 (a0) 1)) (a2) σ with
  | none => none
  | some q10 =>
  if q10.1 = 0 then
  if isC SHc ((q10.2.2.2.1 (a0) 1)) 2 = true then
  match F_Me_handlersAt ((q10.2.2.2.1 (a0) 1)) (a2) q10.2 with
  | none => none
  | some q13 =>
  if q13.1 = 0 then
  F_Vf_liesWhereItMay_33 (true) q13.2
  else F_Vf_liesWhereItMay_32 q13.2
  else none
  else F_Vf_liesWhereItMay_32 q10.2
  else none
  else if a1 = (37 : Int32) then
  if isC SHc ((σ.2.2.1 (a0) 1)) 2 = true then
  match F_Me_finallyAround ((σ.2.2.1 (a0) 1)) (a2) σ with
  | none => none
  | some q4 =>
  if q4.1 < 0 then
  F_Vf_liesWhereItMay_66 q4.2
  else if isC SHc ((q4.2.2.2.1 (a0) 1)) 2 = true then
  match F_Me_rowAt ((q4.2.2.2.1 (a0) 1)) (a2) q4.2 with
  | none => none
  | some q7 =>
  if q7.1 = 0 then
  F_Vf_liesWhereItMay_67 (true) q7.2
  else F_Vf_liesWhereItMay_66 q7.2
  else none
  else none
  else some (true, σ)
set_option maxHeartbeats 4000000 in
theorem w_Vf_liesWhereItMay {b d : Nat} {pre tl : List PE} {B : Nat} {Q : Option Value → List PE → Prop} {res : Bool × SG} (hB : B = b + pre.length) (hd : 2 ≤ d)  {σ : SG} (a0 : Nat) (a1 : Int32) (a2 : Int32) (ha0 : isC SHc (a0) 6 = true) (hF : F_Vf_liesWhereItMay a0 a1 a2 σ = some res) (hQ : Q (some (.int (bz res.1))) (HH pre tl SHc B res.2)) : Cl b d 189 [.ref (B + (a0)), .int (a1), .int (a2)] (HH pre tl SHc B σ) Q := by
  obtain ⟨e0, rfl⟩ : ∃ e, d = e + 1 := ⟨d - 1, by omega⟩
  unfold Cl
  unfold F_Vf_liesWhereItMay at hF
  refine r_iload_n f_Vf_liesWhereItMay_0 rfl ?_
  refine r_bipush f_Vf_liesWhereItMay_1 (v := 34) (by decide) ?_
  refine r_icmp_ne f_Vf_liesWhereItMay_3 (fun c1 => ?_) (fun c1 => ?_)
  · rw [if_neg c1] at hF
    refine r_iload_n f_Vf_liesWhereItMay_34 rfl ?_
    refine r_bipush f_Vf_liesWhereItMay_35 (v := 37) (by decide) ?_
    refine r_icmp_ne f_Vf_liesWhereItMay_37 (fun c2 => ?_) (fun c2 => ?_)
    · rw [if_neg c2] at hF
      refine r_iconst f_Vf_liesWhereItMay_68 (v := 1) (by decide) ?_
      cases hF
      exact r_zreturn f_Vf_liesWhereItMay_69 (bz_or (true)) hQ
    · rw [if_pos (Decidable.not_not.mp c2)] at hF
      refine r_aload_n f_Vf_liesWhereItMay_40 rfl ?_
      by_cases c3 : isC SHc ((σ.2.2.1 (a0) 1)) 2 = true
      case neg => rw [if_neg c3] at hF; cases hF
      rw [if_pos c3] at hF
      refine t_getm hB ha0 f_Vf_liesWhereItMay_41 rfl ?_
      refine r_iload_n f_Vf_liesWhereItMay_44 rfl ?_
      cases hq4 : F_Me_finallyAround ((σ.2.2.1 (a0) 1)) (a2) σ with
      | none => simp only [hq4] at hF; cases hF
      | some q4 =>
        simp only [hq4] at hF
        refine t_V1i hB c3 rfl rfl f_Vf_liesWhereItMay_45 (by decide) (Nat.le_of_ble_eq_true rfl) (Nat.le_of_ble_eq_true rfl) (w_Me_finallyAround hB (by omega) ((σ.2.2.1 (a0) 1)) (a2) c3 hq4 ⟨_, rfl, ?_⟩)
        refine r_if_lt f_Vf_liesWhereItMay_48 (fun c5 => ?_) (fun c5 => ?_)
        · rw [if_pos c5] at hF
          exact w_Vf_liesWhereItMay_66 hB hd  hQ _ (q4.2) hF
        · rw [if_neg c5] at hF
          refine r_aload_n f_Vf_liesWhereItMay_51 rfl ?_
          by_cases c6 : isC SHc ((q4.2.2.2.1 (a0) 1)) 2 = true
          case neg => rw [if_neg c6] at hF; cases hF
          rw [if_pos c6] at hF
          refine t_getm hB ha0 f_Vf_liesWhereItMay_52 rfl ?_
          refine r_iload_n f_Vf_liesWhereItMay_55 rfl ?_
          cases hq7 : F_Me_rowAt ((q4.2.2.2.1 (a0) 1)) (a2) q4.2 with
          | none => simp only [hq7] at hF; cases hF
          | some q7 =>
            simp only [hq7] at hF
            refine t_V1i hB c6 rfl rfl f_Vf_liesWhereItMay_56 (by decide) (Nat.le_of_ble_eq_true rfl) (Nat.le_of_ble_eq_true rfl) (w_Me_rowAt hB  ((q4.2.2.2.1 (a0) 1)) (a2) c6 hq7 ⟨_, rfl, ?_⟩)
            refine r_if_ne f_Vf_liesWhereItMay_59 (fun c8 => ?_) (fun c8 => ?_)
            · rw [if_neg c8] at hF
              exact w_Vf_liesWhereItMay_66 hB hd  hQ _ (q7.2) hF
            · rw [if_pos (Decidable.not_not.mp c8)] at hF
              refine r_iconst f_Vf_liesWhereItMay_62 (v := 1) (by decide) ?_
              refine r_goto f_Vf_liesWhereItMay_63 ?_
              exact w_Vf_liesWhereItMay_67 hB hd  hQ _ (q7.2) (true) hF
  · rw [if_pos (Decidable.not_not.mp c1)] at hF
    refine r_aload_n f_Vf_liesWhereItMay_6 rfl ?_
    by_cases c9 : isC SHc ((σ.2.2.1 (a0) 1)) 2 = true
    case neg => rw [if_neg c9] at hF; cases hF
    rw [if_pos c9] at hF
    refine t_getm hB ha0 f_Vf_liesWhereItMay_7 rfl ?_
    refine r_iload_n f_Vf_liesWhereItMay_10 rfl ?_
    cases hq10 : F_Me_partsAt ((σ.2.2.1 (a0) 1)) (a2) σ with
    | none => simp only [hq10] at hF; cases hF
    | some q10 =>
      simp only [hq10] at hF
      refine t_V1i hB c9 rfl rfl f_Vf_liesWhereItMay_11 (by decide) (Nat.le_of_ble_eq_true rfl) (Nat.le_of_ble_eq_true rfl) (w_Me_partsAt hB (by omega) ((σ.2.2.1 (a0) 1)) (a2) c9 hq10 ⟨_, rfl, ?_⟩)
      refine r_if_ne f_Vf_liesWhereItMay_14 (fun c11 => ?_) (fun c11 => ?_)
      · rw [if_neg c11] at hF
        exact w_Vf_liesWhereItMay_32 hB hd  hQ _ (q10.2) hF
      · rw [if_pos (Decidable.not_not.mp c11)] at hF
        refine r_aload_n f_Vf_liesWhereItMay_17 rfl ?_
        by_cases c12 : isC SHc ((q10.2.2.2.1 (a0) 1)) 2 = true
        case neg => rw [if_neg c12] at hF; cases hF
        rw [if_pos c12] at hF
        refine t_getm hB ha0 f_Vf_liesWhereItMay_18 rfl ?_
        refine r_iload_n f_Vf_liesWhereItMay_21 rfl ?_
        cases hq13 : F_Me_handlersAt ((q10.2.2.2.1 (a0) 1)) (a2) q10.2 with
        | none => simp only [hq13] at hF; cases hF
        | some q13 =>
          simp only [hq13] at hF
          refine t_V1i hB c12 rfl rfl f_Vf_liesWhereItMay_22 (by decide) (Nat.le_of_ble_eq_true rfl) (Nat.le_of_ble_eq_true rfl) (w_Me_handlersAt hB (by omega) ((q10.2.2.2.1 (a0) 1)) (a2) c12 hq13 ⟨_, rfl, ?_⟩)
          refine r_if_ne f_Vf_liesWhereItMay_25 (fun c14 => ?_) (fun c14 => ?_)
          · rw [if_neg c14] at hF
            exact w_Vf_liesWhereItMay_32 hB hd  hQ _ (q13.2) hF
          · rw [if_pos (Decidable.not_not.mp c14)] at hF
            refine r_iconst f_Vf_liesWhereItMay_28 (v := 1) (by decide) ?_
            refine r_goto f_Vf_liesWhereItMay_29 ?_
            exact w_Vf_liesWhereItMay_33 hB hd  hQ _ (q13.2) (true) hF
theorem f_Vf_reachHandlers_0 : fetch 190 0 = some (.iconst 0, 1, 0, 0, 0) := rfl
theorem f_Vf_reachHandlers_1 : fetch 190 1 = some (.istore_n 2, 1, 0, 0, 0) := rfl
theorem f_Vf_reachHandlers_2 : fetch 190 2 = some (.iload_n 2, 1, 0, 0, 0) := rfl
theorem f_Vf_reachHandlers_3 : fetch 190 3 = some (.aload_n 0, 1, 0, 0, 0) := rfl
theorem f_Vf_reachHandlers_4 : fetch 190 4 = some (.getfield 19, 3, 6, 1, 146) := rfl
theorem f_Vf_reachHandlers_7 : fetch 190 7 = some (.getfield 79, 3, 2, 3, 155) := rfl
theorem f_Vf_reachHandlers_10 : fetch 190 10 = some (.if_icmp .ge 60, 3, 70, 0, 0) := rfl
theorem f_Vf_reachHandlers_13 : fetch 190 13 = some (.aload_n 0, 1, 0, 0, 0) := rfl
theorem f_Vf_reachHandlers_14 : fetch 190 14 = some (.getfield 19, 3, 6, 1, 146) := rfl
theorem f_Vf_reachHandlers_17 : fetch 190 17 = some (.getfield 82, 3, 2, 7, 156) := rfl
theorem f_Vf_reachHandlers_20 : fetch 190 20 = some (.iload_n 2, 1, 0, 0, 0) := rfl
theorem f_Vf_reachHandlers_21 : fetch 190 21 = some (.aaload, 1, 0, 0, 0) := rfl
theorem f_Vf_reachHandlers_22 : fetch 190 22 = some (.astore_n 3, 1, 0, 0, 0) := rfl
theorem f_Vf_reachHandlers_23 : fetch 190 23 = some (.aload_n 3, 1, 0, 0, 0) := rfl
theorem f_Vf_reachHandlers_24 : fetch 190 24 = some (.getfield 162, 3, 4, 3, 163) := rfl
theorem f_Vf_reachHandlers_27 : fetch 190 27 = some (.ifCond .eq 7, 3, 34, 0, 0) := rfl
theorem f_Vf_reachHandlers_30 : fetch 190 30 = some (.iconst 0, 1, 0, 0, 0) := rfl
theorem f_Vf_reachHandlers_31 : fetch 190 31 = some (.goto 8, 3, 39, 0, 0) := rfl
theorem f_Vf_reachHandlers_34 : fetch 190 34 = some (.iconst 0, 1, 0, 0, 0) := rfl
theorem f_Vf_reachHandlers_35 : fetch 190 35 = some (.iconst 1, 1, 0, 0, 0) := rfl
theorem f_Vf_reachHandlers_36 : fetch 190 36 = some (.invokestatic 167, 3, 155, 2, 202) := rfl
theorem f_Vf_reachHandlers_39 : fetch 190 39 = some (.istore 4, 2, 0, 0, 0) := rfl
theorem f_Vf_reachHandlers_41 : fetch 190 41 = some (.aload_n 3, 1, 0, 0, 0) := rfl
theorem f_Vf_reachHandlers_42 : fetch 190 42 = some (.iload_n 1, 1, 0, 0, 0) := rfl
theorem f_Vf_reachHandlers_43 : fetch 190 43 = some (.invokevirtual 170, 3, 116, 1, 217) := rfl
theorem f_Vf_reachHandlers_46 : fetch 190 46 = some (.ifCond .eq 18, 3, 64, 0, 0) := rfl
theorem f_Vf_reachHandlers_49 : fetch 190 49 = some (.aload_n 0, 1, 0, 0, 0) := rfl
theorem f_Vf_reachHandlers_50 : fetch 190 50 = some (.aload_n 3, 1, 0, 0, 0) := rfl
theorem f_Vf_reachHandlers_51 : fetch 190 51 = some (.getfield 98, 3, 4, 1, 158) := rfl
theorem f_Vf_reachHandlers_54 : fetch 190 54 = some (.iload 4, 2, 0, 0, 0) := rfl
theorem f_Vf_reachHandlers_56 : fetch 190 56 = some (.invokevirtual 49, 3, 180, 2, 186) := rfl
theorem f_Vf_reachHandlers_59 : fetch 190 59 = some (.ifCond .ne 5, 3, 64, 0, 0) := rfl
theorem f_Vf_reachHandlers_62 : fetch 190 62 = some (.iconst 0, 1, 0, 0, 0) := rfl
theorem f_Vf_reachHandlers_63 : fetch 190 63 = some (.ireturn, 1, 2, 0, 0) := rfl
theorem f_Vf_reachHandlers_64 : fetch 190 64 = some (.iinc 2 1, 3, 0, 0, 0) := rfl
theorem f_Vf_reachHandlers_67 : fetch 190 67 = some (.goto (-65), 3, 2, 0, 0) := rfl
theorem f_Vf_reachHandlers_70 : fetch 190 70 = some (.iconst 1, 1, 0, 0, 0) := rfl
theorem f_Vf_reachHandlers_71 : fetch 190 71 = some (.ireturn, 1, 2, 0, 0) := rfl
def F_Vf_reachHandlers_64 (rec2 : Nat → Int32 → Int32 → SG → Option (Bool × SG)) (x0 : Nat) (x1 : Int32) (x2 : Int32) (σ : SG) : Option (Bool × SG) :=
  rec2 (x0) (x1) ((x2 + 1)) σ
set_option maxHeartbeats 4000000 in
theorem w_Vf_reachHandlers_64 {b d : Nat} {sc : SC} {pre tl : List PE} {B : Nat} {Q : Option Value → List PE → Prop} {res : Bool × SG} (hB : B = b + pre.length) (hd : 2 ≤ d) {rec2 : Nat → Int32 → Int32 → SG → Option (Bool × SG)} (hr2 : ∀ (lv : LV) (σ : SG) (x0 : Nat) (x1 : Int32) (x2 : Int32), isC SHc (x0) 6 = true → lv.lookup 0 = some (.ref (B + (x0))) → lv.lookup 1 = some (.int (x1)) → lv.lookup 2 = some (.int (x2)) →  rec2 x0 x1 x2 σ = some res → Rn b sc d 190 2 lv [] (HH pre tl SHc B σ) Q) (hQ : Q (some (.int (bz res.1))) (HH pre tl SHc B res.2)) (lv : LV) (σ : SG) (x0 : Nat) (x1 : Int32) (x2 : Int32) (hx0 : isC SHc (x0) 6 = true) (l0 : lv.lookup 0 = some (.ref (B + (x0)))) (l1 : lv.lookup 1 = some (.int (x1))) (l2 : lv.lookup 2 = some (.int (x2))) (hF : F_Vf_reachHandlers_64 rec2 x0 x1 x2 σ = some res) : Rn b sc d 190 64 lv [] (HH pre tl SHc B σ) Q := by
  obtain ⟨e0, rfl⟩ : ∃ e, d = e + 1 := ⟨d - 1, by omega⟩
  unfold F_Vf_reachHandlers_64 at hF
  refine r_iinc f_Vf_reachHandlers_64 l2 (w := x2 + 1) rfl ?_
  refine r_goto f_Vf_reachHandlers_67 ?_
  exact hr2 _ (σ) (x0) (x1) ((x2 + 1)) hx0 (lk_put_ne l0 (by decide) (Or.inl rfl)) (lk_put_ne l1 (by decide) (Or.inl rfl)) lk_put hF
def F_Vf_reachHandlers_39 (rec2 : Nat → Int32 → Int32 → SG → Option (Bool × SG)) (x0 : Nat) (x1 : Int32) (x2 : Int32) (x3 : Nat) (y0 : Int32) (σ : SG) : Option (Bool × SG) :=
  match F_Rg_keeps (x3) (x1) σ with
  | none => none
  | some q1 =>
  if q1.1 = true then
  match F_Vf_reach (x0) ((q1.2.1 (x3) 1)) (y0) q1.2 with
  | none => none
  | some q3 =>
  if q3.1 = true then
  F_Vf_reachHandlers_64 (rec2) (x0) (x1) (x2) q3.2
  else some (false, q3.2)
  else F_Vf_reachHandlers_64 (rec2) (x0) (x1) (x2) q1.2
set_option maxHeartbeats 4000000 in
theorem w_Vf_reachHandlers_39 {b d : Nat} {sc : SC} {pre tl : List PE} {B : Nat} {Q : Option Value → List PE → Prop} {res : Bool × SG} (hB : B = b + pre.length) (hd : 2 ≤ d) {rec2 : Nat → Int32 → Int32 → SG → Option (Bool × SG)} (hr2 : ∀ (lv : LV) (σ : SG) (x0 : Nat) (x1 : Int32) (x2 : Int32), isC SHc (x0) 6 = true → lv.lookup 0 = some (.ref (B + (x0))) → lv.lookup 1 = some (.int (x1)) → lv.lookup 2 = some (.int (x2)) →  rec2 x0 x1 x2 σ = some res → Rn b sc d 190 2 lv [] (HH pre tl SHc B σ) Q) (hQ : Q (some (.int (bz res.1))) (HH pre tl SHc B res.2)) (lv : LV) (σ : SG) (x0 : Nat) (x1 : Int32) (x2 : Int32) (x3 : Nat) (y0 : Int32) (hx0 : isC SHc (x0) 6 = true) (hx3 : isC SHc (x3) 4 = true) (l0 : lv.lookup 0 = some (.ref (B + (x0)))) (l1 : lv.lookup 1 = some (.int (x1))) (l2 : lv.lookup 2 = some (.int (x2))) (l3 : lv.lookup 3 = some (.ref (B + (x3)))) (hF : F_Vf_reachHandlers_39 rec2 x0 x1 x2 x3 y0 σ = some res) : Rn b sc d 190 39 lv [.int (y0)] (HH pre tl SHc B σ) Q := by
  obtain ⟨e0, rfl⟩ : ∃ e, d = e + 1 := ⟨d - 1, by omega⟩
  unfold F_Vf_reachHandlers_39 at hF
  refine r_istore f_Vf_reachHandlers_39 ?_
  refine r_aload_n f_Vf_reachHandlers_41 (lk_put_ne l3 (by decide) (Or.inl rfl)) ?_
  refine r_iload_n f_Vf_reachHandlers_42 (lk_put_ne l1 (by decide) (Or.inl rfl)) ?_
  cases hq1 : F_Rg_keeps (x3) (x1) σ with
  | none => simp only [hq1] at hF; cases hF
  | some q1 =>
    simp only [hq1] at hF
    refine t_V1i hB hx3 rfl rfl f_Vf_reachHandlers_43 (by decide) (Nat.le_of_ble_eq_true rfl) (Nat.le_of_ble_eq_true rfl) (w_Rg_keeps hB  (x3) (x1) hx3 hq1 ⟨_, rfl, ?_⟩)
    refine r_if_eq f_Vf_reachHandlers_46 (fun c2 => ?_) (fun c2 => ?_)
    · rw [if_neg (bz_nt c2)] at hF
      exact w_Vf_reachHandlers_64 hB hd (hr2) hQ _ (q1.2) (x0) (x1) (x2) hx0 (lk_put_ne l0 (by decide) (Or.inl rfl)) (lk_put_ne l1 (by decide) (Or.inl rfl)) (lk_put_ne l2 (by decide) (Or.inl rfl)) hF
    · rw [if_pos (bz_t c2)] at hF
      refine r_aload_n f_Vf_reachHandlers_49 (lk_put_ne l0 (by decide) (Or.inl rfl)) ?_
      refine r_aload_n f_Vf_reachHandlers_50 (lk_put_ne l3 (by decide) (Or.inl rfl)) ?_
      refine t_geti hB hx3 f_Vf_reachHandlers_51 rfl ?_
      refine r_iload f_Vf_reachHandlers_54 lk_put ?_
      cases hq3 : F_Vf_reach (x0) ((q1.2.1 (x3) 1)) (y0) q1.2 with
      | none => simp only [hq3] at hF; cases hF
      | some q3 =>
        simp only [hq3] at hF
        refine t_V2i hB hx0 rfl rfl f_Vf_reachHandlers_56 (by decide) (Nat.le_of_ble_eq_true rfl) (Nat.le_of_ble_eq_true rfl) (w_Vf_reach hB (by omega) (x0) ((q1.2.1 (x3) 1)) (y0) hx0 hq3 ⟨_, rfl, ?_⟩)
        refine r_if_ne f_Vf_reachHandlers_59 (fun c4 => ?_) (fun c4 => ?_)
        · rw [if_pos (bz_t c4)] at hF
          exact w_Vf_reachHandlers_64 hB hd (hr2) hQ _ (q3.2) (x0) (x1) (x2) hx0 (lk_put_ne l0 (by decide) (Or.inl rfl)) (lk_put_ne l1 (by decide) (Or.inl rfl)) (lk_put_ne l2 (by decide) (Or.inl rfl)) hF
        · rw [if_neg (bz_nt (Decidable.not_not.mp c4))] at hF
          refine r_iconst f_Vf_reachHandlers_62 (v := 0) (by decide) ?_
          cases hF
          exact r_zreturn f_Vf_reachHandlers_63 (bz_or (false)) hQ
def F_Vf_reachHandlers_2  : Nat → Nat → Int32 → Int32 → SG → Option (Bool × SG)
  | 0, _, _, _, _ => none
  | n + 1, x0, x1, x2, σ =>
  if isC SHc ((σ.2.2.1 (x0) 1)) 2 = true then
  if (σ.1 ((σ.2.2.1 (x0) 1)) 3) ≤ x2 then
  some (true, σ)
  else if isC SHc ((σ.2.2.1 (x0) 1)) 2 = true then
  if x2 < 0 ∨ 3 ≤ (x2).toNatClampNeg then none else
  if (zb (σ.1 ((relem SHc ((cref SHc ((σ.2.2.1 (x0) 1)) 7)) ((x2).toNatClampNeg))) 3)) = true then
  F_Vf_reachHandlers_39 (F_Vf_reachHandlers_2  n) (x0) (x1) (x2) ((relem SHc ((cref SHc ((σ.2.2.1 (x0) 1)) 7)) ((x2).toNatClampNeg))) ((0 : Int32)) σ
  else match F_Rw_with ((0 : Int32)) ((1 : Int32)) σ with
  | none => none
  | some q10 =>
  F_Vf_reachHandlers_39 (F_Vf_reachHandlers_2  n) (x0) (x1) (x2) ((relem SHc ((cref SHc ((σ.2.2.1 (x0) 1)) 7)) ((x2).toNatClampNeg))) (q10.1) q10.2
  else none
  else none
set_option maxHeartbeats 4000000 in
theorem w_Vf_reachHandlers_2 {b d : Nat} {sc : SC} {pre tl : List PE} {B : Nat} {Q : Option Value → List PE → Prop} {res : Bool × SG} (hB : B = b + pre.length) (hd : 2 ≤ d)   (hQ : Q (some (.int (bz res.1))) (HH pre tl SHc B res.2)) : ∀ (n : Nat) (lv : LV) (σ : SG) (x0 : Nat) (x1 : Int32) (x2 : Int32), isC SHc (x0) 6 = true → lv.lookup 0 = some (.ref (B + (x0))) → lv.lookup 1 = some (.int (x1)) → lv.lookup 2 = some (.int (x2)) → F_Vf_reachHandlers_2  n x0 x1 x2 σ = some res → Rn b sc d 190 2 lv [] (HH pre tl SHc B σ) Q := by
  obtain ⟨e0, rfl⟩ : ∃ e, d = e + 1 := ⟨d - 1, by omega⟩
  intro n
  induction n with
  | zero => intro lv σ x0 x1 x2 hx0 l0 l1 l2 hF; cases hF
  | succ n ih =>
    intro lv σ x0 x1 x2 hx0 l0 l1 l2 hF
    unfold F_Vf_reachHandlers_2 at hF
    refine r_iload_n f_Vf_reachHandlers_2 l2 ?_
    refine r_aload_n f_Vf_reachHandlers_3 l0 ?_
    by_cases c5 : isC SHc ((σ.2.2.1 (x0) 1)) 2 = true
    case neg => rw [if_neg c5] at hF; cases hF
    rw [if_pos c5] at hF
    refine t_getm hB hx0 f_Vf_reachHandlers_4 rfl ?_
    refine t_geti hB c5 f_Vf_reachHandlers_7 rfl ?_
    refine r_icmp_ge f_Vf_reachHandlers_10 (fun c6 => ?_) (fun c6 => ?_)
    · rw [if_pos c6] at hF
      refine r_iconst f_Vf_reachHandlers_70 (v := 1) (by decide) ?_
      cases hF
      exact r_zreturn f_Vf_reachHandlers_71 (bz_or (true)) hQ
    · rw [if_neg c6] at hF
      refine r_aload_n f_Vf_reachHandlers_13 l0 ?_
      by_cases c7 : isC SHc ((σ.2.2.1 (x0) 1)) 2 = true
      case neg => rw [if_neg c7] at hF; cases hF
      rw [if_pos c7] at hF
      refine t_getm hB hx0 f_Vf_reachHandlers_14 rfl ?_
      refine t_getc hB c7 f_Vf_reachHandlers_17 rfl ?_
      refine r_iload_n f_Vf_reachHandlers_20 l2 ?_
      by_cases c8 : x2 < 0 ∨ 3 ≤ (x2).toNatClampNeg
      · rw [if_pos c8] at hF; cases hF
      rw [if_neg c8] at hF
      refine t_aald hB (cc_2_7 c7) (by decide) f_Vf_reachHandlers_21 c8 ?_
      refine r_astore_n f_Vf_reachHandlers_22 ?_
      refine r_aload_n f_Vf_reachHandlers_23 lk_put ?_
      refine t_getz hB (re_4 (cc_2_7 c7) (nlt c8)) f_Vf_reachHandlers_24 rfl ?_
      refine r_if_eq f_Vf_reachHandlers_27 (fun c9 => ?_) (fun c9 => ?_)
      · rw [if_neg (bz_nt c9)] at hF
        refine r_iconst f_Vf_reachHandlers_34 (v := 0) (by decide) ?_
        refine r_iconst f_Vf_reachHandlers_35 (v := 1) (by decide) ?_
        cases hq10 : F_Rw_with ((0 : Int32)) ((1 : Int32)) σ with
        | none => simp only [hq10] at hF; cases hF
        | some q10 =>
          simp only [hq10] at hF
          refine t_S2i f_Vf_reachHandlers_36 (by decide) (Nat.le_of_ble_eq_true rfl) (Nat.le_of_ble_eq_true rfl) (w_Rw_with hB (by omega) ((0 : Int32)) ((1 : Int32))  hq10 ⟨_, rfl, ?_⟩)
          exact w_Vf_reachHandlers_39 hB hd (ih) hQ _ (q10.2) (x0) (x1) (x2) ((relem SHc ((cref SHc ((σ.2.2.1 (x0) 1)) 7)) ((x2).toNatClampNeg))) (q10.1) hx0 (re_4 (cc_2_7 c7) (nlt c8)) (lk_put_ne l0 (by decide) (Or.inl rfl)) (lk_put_ne l1 (by decide) (Or.inl rfl)) (lk_put_ne l2 (by decide) (Or.inl rfl)) lk_put hF
      · rw [if_pos (bz_t c9)] at hF
        refine r_iconst f_Vf_reachHandlers_30 (v := 0) (by decide) ?_
        refine r_goto f_Vf_reachHandlers_31 ?_
        exact w_Vf_reachHandlers_39 hB hd (ih) hQ _ (σ) (x0) (x1) (x2) ((relem SHc ((cref SHc ((σ.2.2.1 (x0) 1)) 7)) ((x2).toNatClampNeg))) ((0 : Int32)) hx0 (re_4 (cc_2_7 c7) (nlt c8)) (lk_put_ne l0 (by decide) (Or.inl rfl)) (lk_put_ne l1 (by decide) (Or.inl rfl)) (lk_put_ne l2 (by decide) (Or.inl rfl)) lk_put hF
def F_Vf_reachHandlers (a0 : Nat) (a1 : Int32) (σ : SG) : Option (Bool × SG) :=
  F_Vf_reachHandlers_2  5000 (a0) (a1) ((0 : Int32)) σ
set_option maxHeartbeats 4000000 in
theorem w_Vf_reachHandlers {b d : Nat} {pre tl : List PE} {B : Nat} {Q : Option Value → List PE → Prop} {res : Bool × SG} (hB : B = b + pre.length) (hd : 2 ≤ d)  {σ : SG} (a0 : Nat) (a1 : Int32) (ha0 : isC SHc (a0) 6 = true) (hF : F_Vf_reachHandlers a0 a1 σ = some res) (hQ : Q (some (.int (bz res.1))) (HH pre tl SHc B res.2)) : Cl b d 190 [.ref (B + (a0)), .int (a1)] (HH pre tl SHc B σ) Q := by
  obtain ⟨e0, rfl⟩ : ∃ e, d = e + 1 := ⟨d - 1, by omega⟩
  unfold Cl
  unfold F_Vf_reachHandlers at hF
  refine r_iconst f_Vf_reachHandlers_0 (v := 0) (by decide) ?_
  refine r_istore_n f_Vf_reachHandlers_1 ?_
  exact w_Vf_reachHandlers_2 hB hd  hQ 5000 _ (σ) (a0) (a1) ((0 : Int32)) ha0 (lk_put_ne rfl (by decide) (Or.inl rfl)) (lk_put_ne rfl (by decide) (Or.inl rfl)) lk_put hF
theorem f_Vf_mayLeave_0 : fetch 192 0 = some (.aload_n 0, 1, 0, 0, 0) := rfl
theorem f_Vf_mayLeave_1 : fetch 192 1 = some (.getfield 19, 3, 6, 1, 146) := rfl
theorem f_Vf_mayLeave_4 : fetch 192 4 = some (.iload_n 1, 1, 0, 0, 0) := rfl
theorem f_Vf_mayLeave_5 : fetch 192 5 = some (.invokevirtual 156, 3, 24, 1, 215) := rfl
theorem f_Vf_mayLeave_8 : fetch 192 8 = some (.istore_n 3, 1, 0, 0, 0) := rfl
theorem f_Vf_mayLeave_9 : fetch 192 9 = some (.aload_n 0, 1, 0, 0, 0) := rfl
theorem f_Vf_mayLeave_10 : fetch 192 10 = some (.getfield 19, 3, 6, 1, 146) := rfl
theorem f_Vf_mayLeave_13 : fetch 192 13 = some (.iload_n 2, 1, 0, 0, 0) := rfl
theorem f_Vf_mayLeave_14 : fetch 192 14 = some (.invokevirtual 156, 3, 24, 1, 215) := rfl
theorem f_Vf_mayLeave_17 : fetch 192 17 = some (.istore 4, 2, 0, 0, 0) := rfl
theorem f_Vf_mayLeave_19 : fetch 192 19 = some (.aload_n 0, 1, 0, 0, 0) := rfl
theorem f_Vf_mayLeave_20 : fetch 192 20 = some (.getfield 19, 3, 6, 1, 146) := rfl
theorem f_Vf_mayLeave_23 : fetch 192 23 = some (.iload_n 2, 1, 0, 0, 0) := rfl
theorem f_Vf_mayLeave_24 : fetch 192 24 = some (.invokevirtual 153, 3, 23, 1, 214) := rfl
theorem f_Vf_mayLeave_27 : fetch 192 27 = some (.aload_n 0, 1, 0, 0, 0) := rfl
theorem f_Vf_mayLeave_28 : fetch 192 28 = some (.getfield 19, 3, 6, 1, 146) := rfl
theorem f_Vf_mayLeave_31 : fetch 192 31 = some (.iload_n 1, 1, 0, 0, 0) := rfl
theorem f_Vf_mayLeave_32 : fetch 192 32 = some (.invokevirtual 153, 3, 23, 1, 214) := rfl
theorem f_Vf_mayLeave_35 : fetch 192 35 = some (.iconst (-1), 1, 0, 0, 0) := rfl
theorem f_Vf_mayLeave_36 : fetch 192 36 = some (.ixor, 1, 0, 0, 0) := rfl
theorem f_Vf_mayLeave_37 : fetch 192 37 = some (.iand, 1, 0, 0, 0) := rfl
theorem f_Vf_mayLeave_38 : fetch 192 38 = some (.ifCond .ne 12, 3, 50, 0, 0) := rfl
theorem f_Vf_mayLeave_41 : fetch 192 41 = some (.iload 4, 2, 0, 0, 0) := rfl
theorem f_Vf_mayLeave_43 : fetch 192 43 = some (.iload_n 3, 1, 0, 0, 0) := rfl
theorem f_Vf_mayLeave_44 : fetch 192 44 = some (.iconst (-1), 1, 0, 0, 0) := rfl
theorem f_Vf_mayLeave_45 : fetch 192 45 = some (.ixor, 1, 0, 0, 0) := rfl
theorem f_Vf_mayLeave_46 : fetch 192 46 = some (.iand, 1, 0, 0, 0) := rfl
theorem f_Vf_mayLeave_47 : fetch 192 47 = some (.ifCond .eq 5, 3, 52, 0, 0) := rfl
theorem f_Vf_mayLeave_50 : fetch 192 50 = some (.iconst 0, 1, 0, 0, 0) := rfl
theorem f_Vf_mayLeave_51 : fetch 192 51 = some (.ireturn, 1, 2, 0, 0) := rfl
theorem f_Vf_mayLeave_52 : fetch 192 52 = some (.iload_n 3, 1, 0, 0, 0) := rfl
theorem f_Vf_mayLeave_53 : fetch 192 53 = some (.iload 4, 2, 0, 0, 0) := rfl
theorem f_Vf_mayLeave_55 : fetch 192 55 = some (.iconst (-1), 1, 0, 0, 0) := rfl
theorem f_Vf_mayLeave_56 : fetch 192 56 = some (.ixor, 1, 0, 0, 0) := rfl
theorem f_Vf_mayLeave_57 : fetch 192 57 = some (.iand, 1, 0, 0, 0) := rfl
theorem f_Vf_mayLeave_58 : fetch 192 58 = some (.istore 5, 2, 0, 0, 0) := rfl
theorem f_Vf_mayLeave_60 : fetch 192 60 = some (.iconst 0, 1, 0, 0, 0) := rfl
theorem f_Vf_mayLeave_61 : fetch 192 61 = some (.istore 6, 2, 0, 0, 0) := rfl
theorem f_Vf_mayLeave_63 : fetch 192 63 = some (.iload 6, 2, 0, 0, 0) := rfl
theorem f_Vf_mayLeave_65 : fetch 192 65 = some (.aload_n 0, 1, 0, 0, 0) := rfl
theorem f_Vf_mayLeave_66 : fetch 192 66 = some (.getfield 19, 3, 6, 1, 146) := rfl
theorem f_Vf_mayLeave_69 : fetch 192 69 = some (.getfield 79, 3, 2, 3, 155) := rfl
theorem f_Vf_mayLeave_72 : fetch 192 72 = some (.if_icmp .ge 38, 3, 110, 0, 0) := rfl
theorem f_Vf_mayLeave_75 : fetch 192 75 = some (.iload 5, 2, 0, 0, 0) := rfl
theorem f_Vf_mayLeave_77 : fetch 192 77 = some (.iload 6, 2, 0, 0, 0) := rfl
theorem f_Vf_mayLeave_79 : fetch 192 79 = some (.ishr, 1, 0, 0, 0) := rfl
theorem f_Vf_mayLeave_80 : fetch 192 80 = some (.iconst 1, 1, 0, 0, 0) := rfl
theorem f_Vf_mayLeave_81 : fetch 192 81 = some (.iand, 1, 0, 0, 0) := rfl
theorem f_Vf_mayLeave_82 : fetch 192 82 = some (.iconst 1, 1, 0, 0, 0) := rfl
theorem f_Vf_mayLeave_83 : fetch 192 83 = some (.if_icmp .ne 21, 3, 104, 0, 0) := rfl
theorem f_Vf_mayLeave_86 : fetch 192 86 = some (.aload_n 0, 1, 0, 0, 0) := rfl
theorem f_Vf_mayLeave_87 : fetch 192 87 = some (.getfield 19, 3, 6, 1, 146) := rfl
theorem f_Vf_mayLeave_90 : fetch 192 90 = some (.getfield 82, 3, 2, 7, 156) := rfl
theorem f_Vf_mayLeave_93 : fetch 192 93 = some (.iload 6, 2, 0, 0, 0) := rfl
theorem f_Vf_mayLeave_95 : fetch 192 95 = some (.aaload, 1, 0, 0, 0) := rfl
theorem f_Vf_mayLeave_96 : fetch 192 96 = some (.getfield 162, 3, 4, 3, 163) := rfl
theorem f_Vf_mayLeave_99 : fetch 192 99 = some (.ifCond .eq 5, 3, 104, 0, 0) := rfl
theorem f_Vf_mayLeave_102 : fetch 192 102 = some (.iconst 0, 1, 0, 0, 0) := rfl
theorem f_Vf_mayLeave_103 : fetch 192 103 = some (.ireturn, 1, 2, 0, 0) := rfl
theorem f_Vf_mayLeave_104 : fetch 192 104 = some (.iinc 6 1, 3, 0, 0, 0) := rfl
theorem f_Vf_mayLeave_107 : fetch 192 107 = some (.goto (-44), 3, 63, 0, 0) := rfl
theorem f_Vf_mayLeave_110 : fetch 192 110 = some (.iconst 1, 1, 0, 0, 0) := rfl
theorem f_Vf_mayLeave_111 : fetch 192 111 = some (.ireturn, 1, 2, 0, 0) := rfl
def F_Vf_mayLeave_104 (rec63 : Nat → Int32 → Int32 → SG → Option (Bool × SG)) (x0 : Nat) (x5 : Int32) (x6 : Int32) (σ : SG) : Option (Bool × SG) :=
  rec63 (x0) (x5) ((x6 + 1)) σ
set_option maxHeartbeats 4000000 in
theorem w_Vf_mayLeave_104 {b d : Nat} {sc : SC} {pre tl : List PE} {B : Nat} {Q : Option Value → List PE → Prop} {res : Bool × SG} (hB : B = b + pre.length) (hd : 2 ≤ d) {rec63 : Nat → Int32 → Int32 → SG → Option (Bool × SG)} (hr63 : ∀ (lv : LV) (σ : SG) (x0 : Nat) (x5 : Int32) (x6 : Int32), isC SHc (x0) 6 = true → lv.lookup 0 = some (.ref (B + (x0))) → lv.lookup 5 = some (.int (x5)) → lv.lookup 6 = some (.int (x6)) →  rec63 x0 x5 x6 σ = some res → Rn b sc d 192 63 lv [] (HH pre tl SHc B σ) Q) (hQ : Q (some (.int (bz res.1))) (HH pre tl SHc B res.2)) (lv : LV) (σ : SG) (x0 : Nat) (x5 : Int32) (x6 : Int32) (hx0 : isC SHc (x0) 6 = true) (l0 : lv.lookup 0 = some (.ref (B + (x0)))) (l5 : lv.lookup 5 = some (.int (x5))) (l6 : lv.lookup 6 = some (.int (x6))) (hF : F_Vf_mayLeave_104 rec63 x0 x5 x6 σ = some res) : Rn b sc d 192 104 lv [] (HH pre tl SHc B σ) Q := by
  obtain ⟨e0, rfl⟩ : ∃ e, d = e + 1 := ⟨d - 1, by omega⟩
  unfold F_Vf_mayLeave_104 at hF
  refine r_iinc f_Vf_mayLeave_104 l6 (w := x6 + 1) rfl ?_
  refine r_goto f_Vf_mayLeave_107 ?_
  exact hr63 _ (σ) (x0) (x5) ((x6 + 1)) hx0 (lk_put_ne l0 (by decide) (Or.inl rfl)) (lk_put_ne l5 (by decide) (Or.inl rfl)) lk_put hF
def F_Vf_mayLeave_63  : Nat → Nat → Int32 → Int32 → SG → Option (Bool × SG)
  | 0, _, _, _, _ => none
  | n + 1, x0, x5, x6, σ =>
  if isC SHc ((σ.2.2.1 (x0) 1)) 2 = true then
  if (σ.1 ((σ.2.2.1 (x0) 1)) 3) ≤ x6 then
  some (true, σ)
  else if ((x5 >>> (x6 &&& 31)) &&& (1 : Int32)) = (1 : Int32) then
  if isC SHc ((σ.2.2.1 (x0) 1)) 2 = true then
  if x6 < 0 ∨ 3 ≤ (x6).toNatClampNeg then none else
  if (zb (σ.1 ((relem SHc ((cref SHc ((σ.2.2.1 (x0) 1)) 7)) ((x6).toNatClampNeg))) 3)) = true then
  some (false, σ)
  else F_Vf_mayLeave_104 (F_Vf_mayLeave_63  n) (x0) (x5) (x6) σ
  else none
  else F_Vf_mayLeave_104 (F_Vf_mayLeave_63  n) (x0) (x5) (x6) σ
  else none
set_option maxHeartbeats 4000000 in
theorem w_Vf_mayLeave_63 {b d : Nat} {sc : SC} {pre tl : List PE} {B : Nat} {Q : Option Value → List PE → Prop} {res : Bool × SG} (hB : B = b + pre.length) (hd : 2 ≤ d)   (hQ : Q (some (.int (bz res.1))) (HH pre tl SHc B res.2)) : ∀ (n : Nat) (lv : LV) (σ : SG) (x0 : Nat) (x5 : Int32) (x6 : Int32), isC SHc (x0) 6 = true → lv.lookup 0 = some (.ref (B + (x0))) → lv.lookup 5 = some (.int (x5)) → lv.lookup 6 = some (.int (x6)) → F_Vf_mayLeave_63  n x0 x5 x6 σ = some res → Rn b sc d 192 63 lv [] (HH pre tl SHc B σ) Q := by
  obtain ⟨e0, rfl⟩ : ∃ e, d = e + 1 := ⟨d - 1, by omega⟩
  intro n
  induction n with
  | zero => intro lv σ x0 x5 x6 hx0 l0 l5 l6 hF; cases hF
  | succ n ih =>
    intro lv σ x0 x5 x6 hx0 l0 l5 l6 hF
    unfold F_Vf_mayLeave_63 at hF
    refine r_iload f_Vf_mayLeave_63 l6 ?_
    refine r_aload_n f_Vf_mayLeave_65 l0 ?_
    by_cases c1 : isC SHc ((σ.2.2.1 (x0) 1)) 2 = true
    case neg => rw [if_neg c1] at hF; cases hF
    rw [if_pos c1] at hF
    refine t_getm hB hx0 f_Vf_mayLeave_66 rfl ?_
    refine t_geti hB c1 f_Vf_mayLeave_69 rfl ?_
    refine r_icmp_ge f_Vf_mayLeave_72 (fun c2 => ?_) (fun c2 => ?_)
    · rw [if_pos c2] at hF
      refine r_iconst f_Vf_mayLeave_110 (v := 1) (by decide) ?_
      cases hF
      exact r_zreturn f_Vf_mayLeave_111 (bz_or (true)) hQ
    · rw [if_neg c2] at hF
      refine r_iload f_Vf_mayLeave_75 l5 ?_
      refine r_iload f_Vf_mayLeave_77 l6 ?_
      refine r_ishr f_Vf_mayLeave_79 ?_
      refine r_iconst f_Vf_mayLeave_80 (v := 1) (by decide) ?_
      refine r_iand f_Vf_mayLeave_81 ?_
      refine r_iconst f_Vf_mayLeave_82 (v := 1) (by decide) ?_
      refine r_icmp_ne f_Vf_mayLeave_83 (fun c3 => ?_) (fun c3 => ?_)
      · rw [if_neg c3] at hF
        exact w_Vf_mayLeave_104 hB hd (ih) hQ _ (σ) (x0) (x5) (x6) hx0 l0 l5 l6 hF
      · rw [if_pos (Decidable.not_not.mp c3)] at hF
        refine r_aload_n f_Vf_mayLeave_86 l0 ?_
        by_cases c4 : isC SHc ((σ.2.2.1 (x0) 1)) 2 = true
        case neg => rw [if_neg c4] at hF; cases hF
        rw [if_pos c4] at hF
        refine t_getm hB hx0 f_Vf_mayLeave_87 rfl ?_
        refine t_getc hB c4 f_Vf_mayLeave_90 rfl ?_
        refine r_iload f_Vf_mayLeave_93 l6 ?_
        by_cases c5 : x6 < 0 ∨ 3 ≤ (x6).toNatClampNeg
        · rw [if_pos c5] at hF; cases hF
        rw [if_neg c5] at hF
        refine t_aald hB (cc_2_7 c4) (by decide) f_Vf_mayLeave_95 c5 ?_
        refine t_getz hB (re_4 (cc_2_7 c4) (nlt c5)) f_Vf_mayLeave_96 rfl ?_
        refine r_if_eq f_Vf_mayLeave_99 (fun c6 => ?_) (fun c6 => ?_)
        · rw [if_neg (bz_nt c6)] at hF
          exact w_Vf_mayLeave_104 hB hd (ih) hQ _ (σ) (x0) (x5) (x6) hx0 l0 l5 l6 hF
        · rw [if_pos (bz_t c6)] at hF
          refine r_iconst f_Vf_mayLeave_102 (v := 0) (by decide) ?_
          cases hF
          exact r_zreturn f_Vf_mayLeave_103 (bz_or (false)) hQ
def F_Vf_mayLeave_50   (σ : SG) : Option (Bool × SG) :=
  some (false, σ)
set_option maxHeartbeats 4000000 in
theorem w_Vf_mayLeave_50 {b d : Nat} {sc : SC} {pre tl : List PE} {B : Nat} {Q : Option Value → List PE → Prop} {res : Bool × SG} (hB : B = b + pre.length) (hd : 2 ≤ d)   (hQ : Q (some (.int (bz res.1))) (HH pre tl SHc B res.2)) (lv : LV) (σ : SG)   (hF : F_Vf_mayLeave_50   σ = some res) : Rn b sc d 192 50 lv [] (HH pre tl SHc B σ) Q := by
  obtain ⟨e0, rfl⟩ : ∃ e, d = e + 1 := ⟨d - 1, by omega⟩
  unfold F_Vf_mayLeave_50 at hF
  refine r_iconst f_Vf_mayLeave_50 (v := 0) (by decide) ?_
  cases hF
  exact r_zreturn f_Vf_mayLeave_51 (bz_or (false)) hQ
def F_Vf_mayLeave (a0 : Nat) (a1 : Int32) (a2 : Int32) (σ : SG) : Option (Bool × SG) :=
  if isC SHc ((σ.2.2.1 (a0) 1)) 2 = true then
  match F_Me_handlersAt ((σ.2.2.1 (a0) 1)) (a1) σ with
  | none => none
  | some q8 =>
  if isC SHc ((q8.2.2.2.1 (a0) 1)) 2 = true then
  match F_Me_handlersAt ((q8.2.2.2.1 (a0) 1)) (a2) q8.2 with
  | none => none
  | some q10 =>
  if isC SHc ((q10.2.2.2.1 (a0) 1)) 2 = true then
  match F_Me_partsAt ((q10.2.2.2.1 (a0) 1)) (a2) q10.2 with
  | none => none
  | some q12 =>
  if isC SHc ((q12.2.2.2.1 (a0) 1)) 2 = true then
  match F_Me_partsAt ((q12.2.2.2.1 (a0) 1)) (a1) q12.2 with
  | none => none
  | some q14 =>
  if (q12.1 &&& (q14.1 ^^^ ((-1) : Int32))) = 0 then
  if (q10.1 &&& (q8.1 ^^^ ((-1) : Int32))) = 0 then
  F_Vf_mayLeave_63  5000 (a0) ((q8.1 &&& (q10.1 ^^^ ((-1) : Int32)))) ((0 : Int32)) q14.2
  else F_Vf_mayLeave_50 q14.2
  else F_Vf_mayLeave_50 q14.2
  else none
  else none
  else none
  else none
set_option maxHeartbeats 4000000 in
theorem w_Vf_mayLeave {b d : Nat} {pre tl : List PE} {B : Nat} {Q : Option Value → List PE → Prop} {res : Bool × SG} (hB : B = b + pre.length) (hd : 2 ≤ d)  {σ : SG} (a0 : Nat) (a1 : Int32) (a2 : Int32) (ha0 : isC SHc (a0) 6 = true) (hF : F_Vf_mayLeave a0 a1 a2 σ = some res) (hQ : Q (some (.int (bz res.1))) (HH pre tl SHc B res.2)) : Cl b d 192 [.ref (B + (a0)), .int (a1), .int (a2)] (HH pre tl SHc B σ) Q := by
  obtain ⟨e0, rfl⟩ : ∃ e, d = e + 1 := ⟨d - 1, by omega⟩
  unfold Cl
  unfold F_Vf_mayLeave at hF
  refine r_aload_n f_Vf_mayLeave_0 rfl ?_
  by_cases c7 : isC SHc ((σ.2.2.1 (a0) 1)) 2 = true
  case neg => rw [if_neg c7] at hF; cases hF
  rw [if_pos c7] at hF
  refine t_getm hB ha0 f_Vf_mayLeave_1 rfl ?_
  refine r_iload_n f_Vf_mayLeave_4 rfl ?_
  cases hq8 : F_Me_handlersAt ((σ.2.2.1 (a0) 1)) (a1) σ with
  | none => simp only [hq8] at hF; cases hF
  | some q8 =>
    simp only [hq8] at hF
    refine t_V1i hB c7 rfl rfl f_Vf_mayLeave_5 (by decide) (Nat.le_of_ble_eq_true rfl) (Nat.le_of_ble_eq_true rfl) (w_Me_handlersAt hB (by omega) ((σ.2.2.1 (a0) 1)) (a1) c7 hq8 ⟨_, rfl, ?_⟩)
    refine r_istore_n f_Vf_mayLeave_8 ?_
    refine r_aload_n f_Vf_mayLeave_9 (lk_put_ne rfl (by decide) (Or.inl rfl)) ?_
    by_cases c9 : isC SHc ((q8.2.2.2.1 (a0) 1)) 2 = true
    case neg => rw [if_neg c9] at hF; cases hF
    rw [if_pos c9] at hF
    refine t_getm hB ha0 f_Vf_mayLeave_10 rfl ?_
    refine r_iload_n f_Vf_mayLeave_13 (lk_put_ne rfl (by decide) (Or.inl rfl)) ?_
    cases hq10 : F_Me_handlersAt ((q8.2.2.2.1 (a0) 1)) (a2) q8.2 with
    | none => simp only [hq10] at hF; cases hF
    | some q10 =>
      simp only [hq10] at hF
      refine t_V1i hB c9 rfl rfl f_Vf_mayLeave_14 (by decide) (Nat.le_of_ble_eq_true rfl) (Nat.le_of_ble_eq_true rfl) (w_Me_handlersAt hB (by omega) ((q8.2.2.2.1 (a0) 1)) (a2) c9 hq10 ⟨_, rfl, ?_⟩)
      refine r_istore f_Vf_mayLeave_17 ?_
      refine r_aload_n f_Vf_mayLeave_19 (lk_put_ne (lk_put_ne rfl (by decide) (Or.inl rfl)) (by decide) (Or.inl rfl)) ?_
      by_cases c11 : isC SHc ((q10.2.2.2.1 (a0) 1)) 2 = true
      case neg => rw [if_neg c11] at hF; cases hF
      rw [if_pos c11] at hF
      refine t_getm hB ha0 f_Vf_mayLeave_20 rfl ?_
      refine r_iload_n f_Vf_mayLeave_23 (lk_put_ne (lk_put_ne rfl (by decide) (Or.inl rfl)) (by decide) (Or.inl rfl)) ?_
      cases hq12 : F_Me_partsAt ((q10.2.2.2.1 (a0) 1)) (a2) q10.2 with
      | none => simp only [hq12] at hF; cases hF
      | some q12 =>
        simp only [hq12] at hF
        refine t_V1i hB c11 rfl rfl f_Vf_mayLeave_24 (by decide) (Nat.le_of_ble_eq_true rfl) (Nat.le_of_ble_eq_true rfl) (w_Me_partsAt hB (by omega) ((q10.2.2.2.1 (a0) 1)) (a2) c11 hq12 ⟨_, rfl, ?_⟩)
        refine r_aload_n f_Vf_mayLeave_27 (lk_put_ne (lk_put_ne rfl (by decide) (Or.inl rfl)) (by decide) (Or.inl rfl)) ?_
        by_cases c13 : isC SHc ((q12.2.2.2.1 (a0) 1)) 2 = true
        case neg => rw [if_neg c13] at hF; cases hF
        rw [if_pos c13] at hF
        refine t_getm hB ha0 f_Vf_mayLeave_28 rfl ?_
        refine r_iload_n f_Vf_mayLeave_31 (lk_put_ne (lk_put_ne rfl (by decide) (Or.inl rfl)) (by decide) (Or.inl rfl)) ?_
        cases hq14 : F_Me_partsAt ((q12.2.2.2.1 (a0) 1)) (a1) q12.2 with
        | none => simp only [hq14] at hF; cases hF
        | some q14 =>
          simp only [hq14] at hF
          refine t_V1i hB c13 rfl rfl f_Vf_mayLeave_32 (by decide) (Nat.le_of_ble_eq_true rfl) (Nat.le_of_ble_eq_true rfl) (w_Me_partsAt hB (by omega) ((q12.2.2.2.1 (a0) 1)) (a1) c13 hq14 ⟨_, rfl, ?_⟩)
          refine r_iconst f_Vf_mayLeave_35 (v := (-1)) (by decide) ?_
          refine r_ixor f_Vf_mayLeave_36 ?_
          refine r_iand f_Vf_mayLeave_37 ?_
          refine r_if_ne f_Vf_mayLeave_38 (fun c15 => ?_) (fun c15 => ?_)
          · rw [if_neg c15] at hF
            exact w_Vf_mayLeave_50 hB hd  hQ _ (q14.2) hF
          · rw [if_pos (Decidable.not_not.mp c15)] at hF
            refine r_iload f_Vf_mayLeave_41 lk_put ?_
            refine r_iload_n f_Vf_mayLeave_43 (lk_put_ne lk_put (by decide) (Or.inl rfl)) ?_
            refine r_iconst f_Vf_mayLeave_44 (v := (-1)) (by decide) ?_
            refine r_ixor f_Vf_mayLeave_45 ?_
            refine r_iand f_Vf_mayLeave_46 ?_
            refine r_if_eq f_Vf_mayLeave_47 (fun c16 => ?_) (fun c16 => ?_)
            · rw [if_pos c16] at hF
              refine r_iload_n f_Vf_mayLeave_52 (lk_put_ne lk_put (by decide) (Or.inl rfl)) ?_
              refine r_iload f_Vf_mayLeave_53 lk_put ?_
              refine r_iconst f_Vf_mayLeave_55 (v := (-1)) (by decide) ?_
              refine r_ixor f_Vf_mayLeave_56 ?_
              refine r_iand f_Vf_mayLeave_57 ?_
              refine r_istore f_Vf_mayLeave_58 ?_
              refine r_iconst f_Vf_mayLeave_60 (v := 0) (by decide) ?_
              refine r_istore f_Vf_mayLeave_61 ?_
              exact w_Vf_mayLeave_63 hB hd  hQ 5000 _ (q14.2) (a0) ((q8.1 &&& (q10.1 ^^^ ((-1) : Int32)))) ((0 : Int32)) ha0 (lk_put_ne (lk_put_ne (lk_put_ne (lk_put_ne rfl (by decide) (Or.inl rfl)) (by decide) (Or.inl rfl)) (by decide) (Or.inl rfl)) (by decide) (Or.inl rfl)) (lk_put_ne lk_put (by decide) (Or.inl rfl)) lk_put hF
            · rw [if_neg c16] at hF
              exact w_Vf_mayLeave_50 hB hd  hQ _ (q14.2) hF
theorem f_Vf_goOn_0 : fetch 193 0 = some (.aload_n 0, 1, 0, 0, 0) := rfl
theorem f_Vf_goOn_1 : fetch 193 1 = some (.getfield 19, 3, 6, 1, 146) := rfl
theorem f_Vf_goOn_4 : fetch 193 4 = some (.iload_n 1, 1, 0, 0, 0) := rfl
theorem f_Vf_goOn_5 : fetch 193 5 = some (.invokevirtual 153, 3, 23, 1, 214) := rfl
theorem f_Vf_goOn_8 : fetch 193 8 = some (.istore 4, 2, 0, 0, 0) := rfl
theorem f_Vf_goOn_10 : fetch 193 10 = some (.aload_n 0, 1, 0, 0, 0) := rfl
theorem f_Vf_goOn_11 : fetch 193 11 = some (.getfield 19, 3, 6, 1, 146) := rfl
theorem f_Vf_goOn_14 : fetch 193 14 = some (.iload_n 2, 1, 0, 0, 0) := rfl
theorem f_Vf_goOn_15 : fetch 193 15 = some (.invokevirtual 153, 3, 23, 1, 214) := rfl
theorem f_Vf_goOn_18 : fetch 193 18 = some (.istore 5, 2, 0, 0, 0) := rfl
theorem f_Vf_goOn_20 : fetch 193 20 = some (.aload_n 0, 1, 0, 0, 0) := rfl
theorem f_Vf_goOn_21 : fetch 193 21 = some (.getfield 19, 3, 6, 1, 146) := rfl
theorem f_Vf_goOn_24 : fetch 193 24 = some (.iload_n 1, 1, 0, 0, 0) := rfl
theorem f_Vf_goOn_25 : fetch 193 25 = some (.invokevirtual 156, 3, 24, 1, 215) := rfl
theorem f_Vf_goOn_28 : fetch 193 28 = some (.aload_n 0, 1, 0, 0, 0) := rfl
theorem f_Vf_goOn_29 : fetch 193 29 = some (.getfield 19, 3, 6, 1, 146) := rfl
theorem f_Vf_goOn_32 : fetch 193 32 = some (.iload_n 2, 1, 0, 0, 0) := rfl
theorem f_Vf_goOn_33 : fetch 193 33 = some (.invokevirtual 156, 3, 24, 1, 215) := rfl
theorem f_Vf_goOn_36 : fetch 193 36 = some (.if_icmp .ne 13, 3, 49, 0, 0) := rfl
theorem f_Vf_goOn_39 : fetch 193 39 = some (.iload 4, 2, 0, 0, 0) := rfl
theorem f_Vf_goOn_41 : fetch 193 41 = some (.iload 5, 2, 0, 0, 0) := rfl
theorem f_Vf_goOn_43 : fetch 193 43 = some (.iconst (-1), 1, 0, 0, 0) := rfl
theorem f_Vf_goOn_44 : fetch 193 44 = some (.ixor, 1, 0, 0, 0) := rfl
theorem f_Vf_goOn_45 : fetch 193 45 = some (.iand, 1, 0, 0, 0) := rfl
theorem f_Vf_goOn_46 : fetch 193 46 = some (.ifCond .eq 5, 3, 51, 0, 0) := rfl
theorem f_Vf_goOn_49 : fetch 193 49 = some (.iconst 0, 1, 0, 0, 0) := rfl
theorem f_Vf_goOn_50 : fetch 193 50 = some (.ireturn, 1, 2, 0, 0) := rfl
theorem f_Vf_goOn_51 : fetch 193 51 = some (.iload 5, 2, 0, 0, 0) := rfl
theorem f_Vf_goOn_53 : fetch 193 53 = some (.iload 4, 2, 0, 0, 0) := rfl
theorem f_Vf_goOn_55 : fetch 193 55 = some (.iconst (-1), 1, 0, 0, 0) := rfl
theorem f_Vf_goOn_56 : fetch 193 56 = some (.ixor, 1, 0, 0, 0) := rfl
theorem f_Vf_goOn_57 : fetch 193 57 = some (.iand, 1, 0, 0, 0) := rfl
theorem f_Vf_goOn_58 : fetch 193 58 = some (.istore 6, 2, 0, 0, 0) := rfl
theorem f_Vf_goOn_60 : fetch 193 60 = some (.iconst 0, 1, 0, 0, 0) := rfl
theorem f_Vf_goOn_61 : fetch 193 61 = some (.istore 7, 2, 0, 0, 0) := rfl
theorem f_Vf_goOn_63 : fetch 193 63 = some (.iload 7, 2, 0, 0, 0) := rfl
theorem f_Vf_goOn_65 : fetch 193 65 = some (.aload_n 0, 1, 0, 0, 0) := rfl
theorem f_Vf_goOn_66 : fetch 193 66 = some (.getfield 19, 3, 6, 1, 146) := rfl
theorem f_Vf_goOn_69 : fetch 193 69 = some (.getfield 79, 3, 2, 3, 155) := rfl
theorem f_Vf_goOn_72 : fetch 193 72 = some (.if_icmp .ge 43, 3, 115, 0, 0) := rfl
theorem f_Vf_goOn_75 : fetch 193 75 = some (.iload 6, 2, 0, 0, 0) := rfl
theorem f_Vf_goOn_77 : fetch 193 77 = some (.iload 7, 2, 0, 0, 0) := rfl
theorem f_Vf_goOn_79 : fetch 193 79 = some (.ishr, 1, 0, 0, 0) := rfl
theorem f_Vf_goOn_80 : fetch 193 80 = some (.iconst 1, 1, 0, 0, 0) := rfl
theorem f_Vf_goOn_81 : fetch 193 81 = some (.iand, 1, 0, 0, 0) := rfl
theorem f_Vf_goOn_82 : fetch 193 82 = some (.iconst 1, 1, 0, 0, 0) := rfl
theorem f_Vf_goOn_83 : fetch 193 83 = some (.if_icmp .ne 26, 3, 109, 0, 0) := rfl
theorem f_Vf_goOn_86 : fetch 193 86 = some (.aload_n 0, 1, 0, 0, 0) := rfl
theorem f_Vf_goOn_87 : fetch 193 87 = some (.getfield 19, 3, 6, 1, 146) := rfl
theorem f_Vf_goOn_90 : fetch 193 90 = some (.getfield 82, 3, 2, 7, 156) := rfl
theorem f_Vf_goOn_93 : fetch 193 93 = some (.iload 7, 2, 0, 0, 0) := rfl
theorem f_Vf_goOn_95 : fetch 193 95 = some (.aaload, 1, 0, 0, 0) := rfl
theorem f_Vf_goOn_96 : fetch 193 96 = some (.getfield 95, 3, 4, 0, 157) := rfl
theorem f_Vf_goOn_99 : fetch 193 99 = some (.iload_n 2, 1, 0, 0, 0) := rfl
theorem f_Vf_goOn_100 : fetch 193 100 = some (.if_icmp .ne 7, 3, 107, 0, 0) := rfl
theorem f_Vf_goOn_103 : fetch 193 103 = some (.iload_n 3, 1, 0, 0, 0) := rfl
theorem f_Vf_goOn_104 : fetch 193 104 = some (.ifCond .eq 5, 3, 109, 0, 0) := rfl
theorem f_Vf_goOn_107 : fetch 193 107 = some (.iconst 0, 1, 0, 0, 0) := rfl
theorem f_Vf_goOn_108 : fetch 193 108 = some (.ireturn, 1, 2, 0, 0) := rfl
theorem f_Vf_goOn_109 : fetch 193 109 = some (.iinc 7 1, 3, 0, 0, 0) := rfl
theorem f_Vf_goOn_112 : fetch 193 112 = some (.goto (-49), 3, 63, 0, 0) := rfl
theorem f_Vf_goOn_115 : fetch 193 115 = some (.aload_n 0, 1, 0, 0, 0) := rfl
theorem f_Vf_goOn_116 : fetch 193 116 = some (.iload_n 2, 1, 0, 0, 0) := rfl
theorem f_Vf_goOn_117 : fetch 193 117 = some (.iload_n 3, 1, 0, 0, 0) := rfl
theorem f_Vf_goOn_118 : fetch 193 118 = some (.invokevirtual 49, 3, 180, 2, 186) := rfl
theorem f_Vf_goOn_121 : fetch 193 121 = some (.ireturn, 1, 2, 0, 0) := rfl
def F_Vf_goOn_109 (rec63 : Nat → Int32 → Int32 → Int32 → Int32 → SG → Option (Bool × SG)) (x0 : Nat) (x2 : Int32) (x3 : Int32) (x6 : Int32) (x7 : Int32) (σ : SG) : Option (Bool × SG) :=
  rec63 (x0) (x2) (x3) (x6) ((x7 + 1)) σ
set_option maxHeartbeats 4000000 in
theorem w_Vf_goOn_109 {b d : Nat} {sc : SC} {pre tl : List PE} {B : Nat} {Q : Option Value → List PE → Prop} {res : Bool × SG} (hB : B = b + pre.length) (hd : 2 ≤ d) {rec63 : Nat → Int32 → Int32 → Int32 → Int32 → SG → Option (Bool × SG)} (hr63 : ∀ (lv : LV) (σ : SG) (x0 : Nat) (x2 : Int32) (x3 : Int32) (x6 : Int32) (x7 : Int32), isC SHc (x0) 6 = true → lv.lookup 0 = some (.ref (B + (x0))) → lv.lookup 2 = some (.int (x2)) → lv.lookup 3 = some (.int (x3)) → lv.lookup 6 = some (.int (x6)) → lv.lookup 7 = some (.int (x7)) →  rec63 x0 x2 x3 x6 x7 σ = some res → Rn b sc d 193 63 lv [] (HH pre tl SHc B σ) Q) (hQ : Q (some (.int (bz res.1))) (HH pre tl SHc B res.2)) (lv : LV) (σ : SG) (x0 : Nat) (x2 : Int32) (x3 : Int32) (x6 : Int32) (x7 : Int32) (hx0 : isC SHc (x0) 6 = true) (l0 : lv.lookup 0 = some (.ref (B + (x0)))) (l2 : lv.lookup 2 = some (.int (x2))) (l3 : lv.lookup 3 = some (.int (x3))) (l6 : lv.lookup 6 = some (.int (x6))) (l7 : lv.lookup 7 = some (.int (x7))) (hF : F_Vf_goOn_109 rec63 x0 x2 x3 x6 x7 σ = some res) : Rn b sc d 193 109 lv [] (HH pre tl SHc B σ) Q := by
  obtain ⟨e0, rfl⟩ : ∃ e, d = e + 1 := ⟨d - 1, by omega⟩
  unfold F_Vf_goOn_109 at hF
  refine r_iinc f_Vf_goOn_109 l7 (w := x7 + 1) rfl ?_
  refine r_goto f_Vf_goOn_112 ?_
  exact hr63 _ (σ) (x0) (x2) (x3) (x6) ((x7 + 1)) hx0 (lk_put_ne l0 (by decide) (Or.inl rfl)) (lk_put_ne l2 (by decide) (Or.inl rfl)) (lk_put_ne l3 (by decide) (Or.inl rfl)) (lk_put_ne l6 (by decide) (Or.inl rfl)) lk_put hF
def F_Vf_goOn_107   (σ : SG) : Option (Bool × SG) :=
  some (false, σ)
set_option maxHeartbeats 4000000 in
theorem w_Vf_goOn_107 {b d : Nat} {sc : SC} {pre tl : List PE} {B : Nat} {Q : Option Value → List PE → Prop} {res : Bool × SG} (hB : B = b + pre.length) (hd : 2 ≤ d)   (hQ : Q (some (.int (bz res.1))) (HH pre tl SHc B res.2)) (lv : LV) (σ : SG)   (hF : F_Vf_goOn_107   σ = some res) : Rn b sc d 193 107 lv [] (HH pre tl SHc B σ) Q := by
  obtain ⟨e0, rfl⟩ : ∃ e, d = e + 1 := ⟨d - 1, by omega⟩
  unfold F_Vf_goOn_107 at hF
  refine r_iconst f_Vf_goOn_107 (v := 0) (by decide) ?_
  cases hF
  exact r_zreturn f_Vf_goOn_108 (bz_or (false)) hQ
def F_Vf_goOn_63  : Nat → Nat → Int32 → Int32 → Int32 → Int32 → SG → Option (Bool × SG)
  | 0, _, _, _, _, _, _ => none
  | n + 1, x0, x2, x3, x6, x7, σ =>
  if isC SHc ((σ.2.2.1 (x0) 1)) 2 = true then
  if (σ.1 ((σ.2.2.1 (x0) 1)) 3) ≤ x7 then
  match F_Vf_reach (x0) (x2) (x3) σ with
  | none => none
  | some q3 =>
  some (q3.1, q3.2)
  else if ((x6 >>> (x7 &&& 31)) &&& (1 : Int32)) = (1 : Int32) then
  if isC SHc ((σ.2.2.1 (x0) 1)) 2 = true then
  if x7 < 0 ∨ 3 ≤ (x7).toNatClampNeg then none else
  if (σ.1 ((relem SHc ((cref SHc ((σ.2.2.1 (x0) 1)) 7)) ((x7).toNatClampNeg))) 0) = x2 then
  if x3 = 0 then
  F_Vf_goOn_109 (F_Vf_goOn_63  n) (x0) (x2) (x3) (x6) (x7) σ
  else F_Vf_goOn_107 σ
  else F_Vf_goOn_107 σ
  else none
  else F_Vf_goOn_109 (F_Vf_goOn_63  n) (x0) (x2) (x3) (x6) (x7) σ
  else none
set_option maxHeartbeats 4000000 in
theorem w_Vf_goOn_63 {b d : Nat} {sc : SC} {pre tl : List PE} {B : Nat} {Q : Option Value → List PE → Prop} {res : Bool × SG} (hB : B = b + pre.length) (hd : 2 ≤ d)   (hQ : Q (some (.int (bz res.1))) (HH pre tl SHc B res.2)) : ∀ (n : Nat) (lv : LV) (σ : SG) (x0 : Nat) (x2 : Int32) (x3 : Int32) (x6 : Int32) (x7 : Int32), isC SHc (x0) 6 = true → lv.lookup 0 = some (.ref (B + (x0))) → lv.lookup 2 = some (.int (x2)) → lv.lookup 3 = some (.int (x3)) → lv.lookup 6 = some (.int (x6)) → lv.lookup 7 = some (.int (x7)) → F_Vf_goOn_63  n x0 x2 x3 x6 x7 σ = some res → Rn b sc d 193 63 lv [] (HH pre tl SHc B σ) Q := by
  obtain ⟨e0, rfl⟩ : ∃ e, d = e + 1 := ⟨d - 1, by omega⟩
  intro n
  induction n with
  | zero => intro lv σ x0 x2 x3 x6 x7 hx0 l0 l2 l3 l6 l7 hF; cases hF
  | succ n ih =>
    intro lv σ x0 x2 x3 x6 x7 hx0 l0 l2 l3 l6 l7 hF
    unfold F_Vf_goOn_63 at hF
    refine r_iload f_Vf_goOn_63 l7 ?_
    refine r_aload_n f_Vf_goOn_65 l0 ?_
    by_cases c1 : isC SHc ((σ.2.2.1 (x0) 1)) 2 = true
    case neg => rw [if_neg c1] at hF; cases hF
    rw [if_pos c1] at hF
    refine t_getm hB hx0 f_Vf_goOn_66 rfl ?_
    refine t_geti hB c1 f_Vf_goOn_69 rfl ?_
    refine r_icmp_ge f_Vf_goOn_72 (fun c2 => ?_) (fun c2 => ?_)
    · rw [if_pos c2] at hF
      refine r_aload_n f_Vf_goOn_115 l0 ?_
      refine r_iload_n f_Vf_goOn_116 l2 ?_
      refine r_iload_n f_Vf_goOn_117 l3 ?_
      cases hq3 : F_Vf_reach (x0) (x2) (x3) σ with
      | none => simp only [hq3] at hF; cases hF
      | some q3 =>
        simp only [hq3] at hF
        refine t_V2i hB hx0 rfl rfl f_Vf_goOn_118 (by decide) (Nat.le_of_ble_eq_true rfl) (Nat.le_of_ble_eq_true rfl) (w_Vf_reach hB (by omega) (x0) (x2) (x3) hx0 hq3 ⟨_, rfl, ?_⟩)
        cases hF
        exact r_zreturn f_Vf_goOn_121 (bz_or (q3.1)) hQ
    · rw [if_neg c2] at hF
      refine r_iload f_Vf_goOn_75 l6 ?_
      refine r_iload f_Vf_goOn_77 l7 ?_
      refine r_ishr f_Vf_goOn_79 ?_
      refine r_iconst f_Vf_goOn_80 (v := 1) (by decide) ?_
      refine r_iand f_Vf_goOn_81 ?_
      refine r_iconst f_Vf_goOn_82 (v := 1) (by decide) ?_
      refine r_icmp_ne f_Vf_goOn_83 (fun c4 => ?_) (fun c4 => ?_)
      · rw [if_neg c4] at hF
        exact w_Vf_goOn_109 hB hd (ih) hQ _ (σ) (x0) (x2) (x3) (x6) (x7) hx0 l0 l2 l3 l6 l7 hF
      · rw [if_pos (Decidable.not_not.mp c4)] at hF
        refine r_aload_n f_Vf_goOn_86 l0 ?_
        by_cases c5 : isC SHc ((σ.2.2.1 (x0) 1)) 2 = true
        case neg => rw [if_neg c5] at hF; cases hF
        rw [if_pos c5] at hF
        refine t_getm hB hx0 f_Vf_goOn_87 rfl ?_
        refine t_getc hB c5 f_Vf_goOn_90 rfl ?_
        refine r_iload f_Vf_goOn_93 l7 ?_
        by_cases c6 : x7 < 0 ∨ 3 ≤ (x7).toNatClampNeg
        · rw [if_pos c6] at hF; cases hF
        rw [if_neg c6] at hF
        refine t_aald hB (cc_2_7 c5) (by decide) f_Vf_goOn_95 c6 ?_
        refine t_geti hB (re_4 (cc_2_7 c5) (nlt c6)) f_Vf_goOn_96 rfl ?_
        refine r_iload_n f_Vf_goOn_99 l2 ?_
        refine r_icmp_ne f_Vf_goOn_100 (fun c7 => ?_) (fun c7 => ?_)
        · rw [if_neg c7] at hF
          exact w_Vf_goOn_107 hB hd  hQ _ (σ) hF
        · rw [if_pos (Decidable.not_not.mp c7)] at hF
          refine r_iload_n f_Vf_goOn_103 l3 ?_
          refine r_if_eq f_Vf_goOn_104 (fun c8 => ?_) (fun c8 => ?_)
          · rw [if_pos c8] at hF
            exact w_Vf_goOn_109 hB hd (ih) hQ _ (σ) (x0) (x2) (x3) (x6) (x7) hx0 l0 l2 l3 l6 l7 hF
          · rw [if_neg c8] at hF
            exact w_Vf_goOn_107 hB hd  hQ _ (σ) hF
def F_Vf_goOn_49   (σ : SG) : Option (Bool × SG) :=
  some (false, σ)
set_option maxHeartbeats 4000000 in
theorem w_Vf_goOn_49 {b d : Nat} {sc : SC} {pre tl : List PE} {B : Nat} {Q : Option Value → List PE → Prop} {res : Bool × SG} (hB : B = b + pre.length) (hd : 2 ≤ d)   (hQ : Q (some (.int (bz res.1))) (HH pre tl SHc B res.2)) (lv : LV) (σ : SG)   (hF : F_Vf_goOn_49   σ = some res) : Rn b sc d 193 49 lv [] (HH pre tl SHc B σ) Q := by
  obtain ⟨e0, rfl⟩ : ∃ e, d = e + 1 := ⟨d - 1, by omega⟩
  unfold F_Vf_goOn_49 at hF
  refine r_iconst f_Vf_goOn_49 (v := 0) (by decide) ?_
  cases hF
  exact r_zreturn f_Vf_goOn_50 (bz_or (false)) hQ
def F_Vf_goOn (a0 : Nat) (a1 : Int32) (a2 : Int32) (a3 : Int32) (σ : SG) : Option (Bool × SG) :=
  if isC SHc ((σ.2.2.1 (a0) 1)) 2 = true then
  match F_Me_partsAt ((σ.2.2.1 (a0) 1)) (a1) σ with
  | none => none
  | some q10 =>
  if isC SHc ((q10.2.2.2.1 (a0) 1)) 2 = true then
  match F_Me_partsAt ((q10.2.2.2.1 (a0) 1)) (a2) q10.2 with
  | none => none
  | some q12 =>
  if isC SHc ((q12.2.2.2.1 (a0) 1)) 2 = true then
  match F_Me_handlersAt ((q12.2.2.2.1 (a0) 1)) (a1) q12.2 with
  | none => none
  | some q14 =>
  if isC SHc ((q14.2.2.2.1 (a0) 1)) 2 = true then
  match F_Me_handlersAt ((q14.2.2.2.1 (a0) 1)) (a2) q14.2 with
  | none => none
  | some q16 =>
  if q14.1 = q16.1 then
  if (q10.1 &&& (q12.1 ^^^ ((-1) : Int32))) = 0 then
  F_Vf_goOn_63  5000 (a0) (a2) (a3) ((q12.1 &&& (q10.1 ^^^ ((-1) : Int32)))) ((0 : Int32)) q16.2
  else F_Vf_goOn_49 q16.2
  else F_Vf_goOn_49 q16.2
  else none
  else none
  else none
  else none
set_option maxHeartbeats 4000000 in
theorem w_Vf_goOn {b d : Nat} {pre tl : List PE} {B : Nat} {Q : Option Value → List PE → Prop} {res : Bool × SG} (hB : B = b + pre.length) (hd : 2 ≤ d)  {σ : SG} (a0 : Nat) (a1 : Int32) (a2 : Int32) (a3 : Int32) (ha0 : isC SHc (a0) 6 = true) (hF : F_Vf_goOn a0 a1 a2 a3 σ = some res) (hQ : Q (some (.int (bz res.1))) (HH pre tl SHc B res.2)) : Cl b d 193 [.ref (B + (a0)), .int (a1), .int (a2), .int (a3)] (HH pre tl SHc B σ) Q := by
  obtain ⟨e0, rfl⟩ : ∃ e, d = e + 1 := ⟨d - 1, by omega⟩
  unfold Cl
  unfold F_Vf_goOn at hF
  refine r_aload_n f_Vf_goOn_0 rfl ?_
  by_cases c9 : isC SHc ((σ.2.2.1 (a0) 1)) 2 = true
  case neg => rw [if_neg c9] at hF; cases hF
  rw [if_pos c9] at hF
  refine t_getm hB ha0 f_Vf_goOn_1 rfl ?_
  refine r_iload_n f_Vf_goOn_4 rfl ?_
  cases hq10 : F_Me_partsAt ((σ.2.2.1 (a0) 1)) (a1) σ with
  | none => simp only [hq10] at hF; cases hF
  | some q10 =>
    simp only [hq10] at hF
    refine t_V1i hB c9 rfl rfl f_Vf_goOn_5 (by decide) (Nat.le_of_ble_eq_true rfl) (Nat.le_of_ble_eq_true rfl) (w_Me_partsAt hB (by omega) ((σ.2.2.1 (a0) 1)) (a1) c9 hq10 ⟨_, rfl, ?_⟩)
    refine r_istore f_Vf_goOn_8 ?_
    refine r_aload_n f_Vf_goOn_10 (lk_put_ne rfl (by decide) (Or.inl rfl)) ?_
    by_cases c11 : isC SHc ((q10.2.2.2.1 (a0) 1)) 2 = true
    case neg => rw [if_neg c11] at hF; cases hF
    rw [if_pos c11] at hF
    refine t_getm hB ha0 f_Vf_goOn_11 rfl ?_
    refine r_iload_n f_Vf_goOn_14 (lk_put_ne rfl (by decide) (Or.inl rfl)) ?_
    cases hq12 : F_Me_partsAt ((q10.2.2.2.1 (a0) 1)) (a2) q10.2 with
    | none => simp only [hq12] at hF; cases hF
    | some q12 =>
      simp only [hq12] at hF
      refine t_V1i hB c11 rfl rfl f_Vf_goOn_15 (by decide) (Nat.le_of_ble_eq_true rfl) (Nat.le_of_ble_eq_true rfl) (w_Me_partsAt hB (by omega) ((q10.2.2.2.1 (a0) 1)) (a2) c11 hq12 ⟨_, rfl, ?_⟩)
      refine r_istore f_Vf_goOn_18 ?_
      refine r_aload_n f_Vf_goOn_20 (lk_put_ne (lk_put_ne rfl (by decide) (Or.inl rfl)) (by decide) (Or.inl rfl)) ?_
      by_cases c13 : isC SHc ((q12.2.2.2.1 (a0) 1)) 2 = true
      case neg => rw [if_neg c13] at hF; cases hF
      rw [if_pos c13] at hF
      refine t_getm hB ha0 f_Vf_goOn_21 rfl ?_
      refine r_iload_n f_Vf_goOn_24 (lk_put_ne (lk_put_ne rfl (by decide) (Or.inl rfl)) (by decide) (Or.inl rfl)) ?_
      cases hq14 : F_Me_handlersAt ((q12.2.2.2.1 (a0) 1)) (a1) q12.2 with
      | none => simp only [hq14] at hF; cases hF
      | some q14 =>
        simp only [hq14] at hF
        refine t_V1i hB c13 rfl rfl f_Vf_goOn_25 (by decide) (Nat.le_of_ble_eq_true rfl) (Nat.le_of_ble_eq_true rfl) (w_Me_handlersAt hB (by omega) ((q12.2.2.2.1 (a0) 1)) (a1) c13 hq14 ⟨_, rfl, ?_⟩)
        refine r_aload_n f_Vf_goOn_28 (lk_put_ne (lk_put_ne rfl (by decide) (Or.inl rfl)) (by decide) (Or.inl rfl)) ?_
        by_cases c15 : isC SHc ((q14.2.2.2.1 (a0) 1)) 2 = true
        case neg => rw [if_neg c15] at hF; cases hF
        rw [if_pos c15] at hF
        refine t_getm hB ha0 f_Vf_goOn_29 rfl ?_
        refine r_iload_n f_Vf_goOn_32 (lk_put_ne (lk_put_ne rfl (by decide) (Or.inl rfl)) (by decide) (Or.inl rfl)) ?_
        cases hq16 : F_Me_handlersAt ((q14.2.2.2.1 (a0) 1)) (a2) q14.2 with
        | none => simp only [hq16] at hF; cases hF
        | some q16 =>
          simp only [hq16] at hF
          refine t_V1i hB c15 rfl rfl f_Vf_goOn_33 (by decide) (Nat.le_of_ble_eq_true rfl) (Nat.le_of_ble_eq_true rfl) (w_Me_handlersAt hB (by omega) ((q14.2.2.2.1 (a0) 1)) (a2) c15 hq16 ⟨_, rfl, ?_⟩)
          refine r_icmp_ne f_Vf_goOn_36 (fun c17 => ?_) (fun c17 => ?_)
          · rw [if_neg c17] at hF
            exact w_Vf_goOn_49 hB hd  hQ _ (q16.2) hF
          · rw [if_pos (Decidable.not_not.mp c17)] at hF
            refine r_iload f_Vf_goOn_39 (lk_put_ne lk_put (by decide) (Or.inl rfl)) ?_
            refine r_iload f_Vf_goOn_41 lk_put ?_
            refine r_iconst f_Vf_goOn_43 (v := (-1)) (by decide) ?_
            refine r_ixor f_Vf_goOn_44 ?_
            refine r_iand f_Vf_goOn_45 ?_
            refine r_if_eq f_Vf_goOn_46 (fun c18 => ?_) (fun c18 => ?_)
            · rw [if_pos c18] at hF
              refine r_iload f_Vf_goOn_51 lk_put ?_
              refine r_iload f_Vf_goOn_53 (lk_put_ne lk_put (by decide) (Or.inl rfl)) ?_
              refine r_iconst f_Vf_goOn_55 (v := (-1)) (by decide) ?_
              refine r_ixor f_Vf_goOn_56 ?_
              refine r_iand f_Vf_goOn_57 ?_
              refine r_istore f_Vf_goOn_58 ?_
              refine r_iconst f_Vf_goOn_60 (v := 0) (by decide) ?_
              refine r_istore f_Vf_goOn_61 ?_
              exact w_Vf_goOn_63 hB hd  hQ 5000 _ (q16.2) (a0) (a2) (a3) ((q12.1 &&& (q10.1 ^^^ ((-1) : Int32)))) ((0 : Int32)) ha0 (lk_put_ne (lk_put_ne (lk_put_ne (lk_put_ne rfl (by decide) (Or.inl rfl)) (by decide) (Or.inl rfl)) (by decide) (Or.inl rfl)) (by decide) (Or.inl rfl)) (lk_put_ne (lk_put_ne (lk_put_ne (lk_put_ne rfl (by decide) (Or.inl rfl)) (by decide) (Or.inl rfl)) (by decide) (Or.inl rfl)) (by decide) (Or.inl rfl)) (lk_put_ne (lk_put_ne (lk_put_ne (lk_put_ne rfl (by decide) (Or.inl rfl)) (by decide) (Or.inl rfl)) (by decide) (Or.inl rfl)) (by decide) (Or.inl rfl)) (lk_put_ne lk_put (by decide) (Or.inl rfl)) lk_put hF
            · rw [if_neg c18] at hF
              exact w_Vf_goOn_49 hB hd  hQ _ (q16.2) hF
theorem f_Vf_reachNext_0 : fetch 191 0 = some (.iload_n 1, 1, 0, 0, 0) := rfl
theorem f_Vf_reachNext_1 : fetch 191 1 = some (.iconst 2, 1, 0, 0, 0) := rfl
theorem f_Vf_reachNext_2 : fetch 191 2 = some (.iadd, 1, 0, 0, 0) := rfl
theorem f_Vf_reachNext_3 : fetch 191 3 = some (.iload_n 3, 1, 0, 0, 0) := rfl
theorem f_Vf_reachNext_4 : fetch 191 4 = some (.invokestatic 137, 3, 103, 1, 218) := rfl
theorem f_Vf_reachNext_7 : fetch 191 7 = some (.iadd, 1, 0, 0, 0) := rfl
theorem f_Vf_reachNext_8 : fetch 191 8 = some (.istore 5, 2, 0, 0, 0) := rfl
theorem f_Vf_reachNext_10 : fetch 191 10 = some (.iload_n 2, 1, 0, 0, 0) := rfl
theorem f_Vf_reachNext_11 : fetch 191 11 = some (.bipush 36, 2, 0, 0, 0) := rfl
theorem f_Vf_reachNext_13 : fetch 191 13 = some (.if_icmp .ne 29, 3, 42, 0, 0) := rfl
theorem f_Vf_reachNext_16 : fetch 191 16 = some (.aload_n 0, 1, 0, 0, 0) := rfl
theorem f_Vf_reachNext_17 : fetch 191 17 = some (.iload_n 1, 1, 0, 0, 0) := rfl
theorem f_Vf_reachNext_18 : fetch 191 18 = some (.iload 5, 2, 0, 0, 0) := rfl
theorem f_Vf_reachNext_20 : fetch 191 20 = some (.invokevirtual 140, 3, 192, 2, 219) := rfl
theorem f_Vf_reachNext_23 : fetch 191 23 = some (.ifCond .eq 17, 3, 40, 0, 0) := rfl
theorem f_Vf_reachNext_26 : fetch 191 26 = some (.aload_n 0, 1, 0, 0, 0) := rfl
theorem f_Vf_reachNext_27 : fetch 191 27 = some (.iload 5, 2, 0, 0, 0) := rfl
theorem f_Vf_reachNext_29 : fetch 191 29 = some (.iconst 0, 1, 0, 0, 0) := rfl
theorem f_Vf_reachNext_30 : fetch 191 30 = some (.invokevirtual 49, 3, 180, 2, 186) := rfl
theorem f_Vf_reachNext_33 : fetch 191 33 = some (.ifCond .eq 7, 3, 40, 0, 0) := rfl
theorem f_Vf_reachNext_36 : fetch 191 36 = some (.iconst 1, 1, 0, 0, 0) := rfl
theorem f_Vf_reachNext_37 : fetch 191 37 = some (.goto 4, 3, 41, 0, 0) := rfl
theorem f_Vf_reachNext_40 : fetch 191 40 = some (.iconst 0, 1, 0, 0, 0) := rfl
theorem f_Vf_reachNext_41 : fetch 191 41 = some (.ireturn, 1, 2, 0, 0) := rfl
theorem f_Vf_reachNext_42 : fetch 191 42 = some (.iload_n 2, 1, 0, 0, 0) := rfl
theorem f_Vf_reachNext_43 : fetch 191 43 = some (.invokestatic 143, 3, 104, 1, 220) := rfl
theorem f_Vf_reachNext_46 : fetch 191 46 = some (.ifCond .eq 17, 3, 63, 0, 0) := rfl
theorem f_Vf_reachNext_49 : fetch 191 49 = some (.aload_n 0, 1, 0, 0, 0) := rfl
theorem f_Vf_reachNext_50 : fetch 191 50 = some (.iload_n 1, 1, 0, 0, 0) := rfl
theorem f_Vf_reachNext_51 : fetch 191 51 = some (.iload 5, 2, 0, 0, 0) := rfl
theorem f_Vf_reachNext_53 : fetch 191 53 = some (.iload 4, 2, 0, 0, 0) := rfl
theorem f_Vf_reachNext_55 : fetch 191 55 = some (.invokevirtual 146, 3, 193, 3, 221) := rfl
theorem f_Vf_reachNext_58 : fetch 191 58 = some (.ifCond .ne 5, 3, 63, 0, 0) := rfl
theorem f_Vf_reachNext_61 : fetch 191 61 = some (.iconst 0, 1, 0, 0, 0) := rfl
theorem f_Vf_reachNext_62 : fetch 191 62 = some (.ireturn, 1, 2, 0, 0) := rfl
theorem f_Vf_reachNext_63 : fetch 191 63 = some (.iload_n 2, 1, 0, 0, 0) := rfl
theorem f_Vf_reachNext_64 : fetch 191 64 = some (.invokestatic 150, 3, 105, 1, 222) := rfl
theorem f_Vf_reachNext_67 : fetch 191 67 = some (.ifCond .eq 19, 3, 86, 0, 0) := rfl
theorem f_Vf_reachNext_70 : fetch 191 70 = some (.aload_n 0, 1, 0, 0, 0) := rfl
theorem f_Vf_reachNext_71 : fetch 191 71 = some (.iload_n 1, 1, 0, 0, 0) := rfl
theorem f_Vf_reachNext_72 : fetch 191 72 = some (.iload_n 1, 1, 0, 0, 0) := rfl
theorem f_Vf_reachNext_73 : fetch 191 73 = some (.iload_n 2, 1, 0, 0, 0) := rfl
theorem f_Vf_reachNext_74 : fetch 191 74 = some (.invokestatic 75, 3, 102, 1, 189) := rfl
theorem f_Vf_reachNext_77 : fetch 191 77 = some (.iadd, 1, 0, 0, 0) := rfl
theorem f_Vf_reachNext_78 : fetch 191 78 = some (.iload 4, 2, 0, 0, 0) := rfl
theorem f_Vf_reachNext_80 : fetch 191 80 = some (.invokevirtual 146, 3, 193, 3, 221) := rfl
theorem f_Vf_reachNext_83 : fetch 191 83 = some (.ifCond .eq 7, 3, 90, 0, 0) := rfl
theorem f_Vf_reachNext_86 : fetch 191 86 = some (.iconst 1, 1, 0, 0, 0) := rfl
theorem f_Vf_reachNext_87 : fetch 191 87 = some (.goto 4, 3, 91, 0, 0) := rfl
theorem f_Vf_reachNext_90 : fetch 191 90 = some (.iconst 0, 1, 0, 0, 0) := rfl
theorem f_Vf_reachNext_91 : fetch 191 91 = some (.ireturn, 1, 2, 0, 0) := rfl
def F_Vf_reachNext_91  (y0 : Bool) (σ : SG) : Option (Bool × SG) :=
  some (y0, σ)
set_option maxHeartbeats 4000000 in
theorem w_Vf_reachNext_91 {b d : Nat} {sc : SC} {pre tl : List PE} {B : Nat} {Q : Option Value → List PE → Prop} {res : Bool × SG} (hB : B = b + pre.length) (hd : 3 ≤ d)   (hQ : Q (some (.int (bz res.1))) (HH pre tl SHc B res.2)) (lv : LV) (σ : SG) (y0 : Bool)  (hF : F_Vf_reachNext_91  y0 σ = some res) : Rn b sc d 191 91 lv [.int (bz (y0))] (HH pre tl SHc B σ) Q := by
  obtain ⟨e0, rfl⟩ : ∃ e, d = e + 1 := ⟨d - 1, by omega⟩
  unfold F_Vf_reachNext_91 at hF
  cases hF
  exact r_zreturn f_Vf_reachNext_91 (bz_or (y0)) hQ
def F_Vf_reachNext_86   (σ : SG) : Option (Bool × SG) :=
  F_Vf_reachNext_91 (true) σ
set_option maxHeartbeats 4000000 in
theorem w_Vf_reachNext_86 {b d : Nat} {sc : SC} {pre tl : List PE} {B : Nat} {Q : Option Value → List PE → Prop} {res : Bool × SG} (hB : B = b + pre.length) (hd : 3 ≤ d)   (hQ : Q (some (.int (bz res.1))) (HH pre tl SHc B res.2)) (lv : LV) (σ : SG)   (hF : F_Vf_reachNext_86   σ = some res) : Rn b sc d 191 86 lv [] (HH pre tl SHc B σ) Q := by
  obtain ⟨e0, rfl⟩ : ∃ e, d = e + 1 := ⟨d - 1, by omega⟩
  unfold F_Vf_reachNext_86 at hF
  refine r_iconst f_Vf_reachNext_86 (v := 1) (by decide) ?_
  refine r_goto f_Vf_reachNext_87 ?_
  exact w_Vf_reachNext_91 hB hd  hQ _ (σ) (true) hF
def F_Vf_reachNext_63  (x0 : Nat) (x1 : Int32) (x2 : Int32) (x4 : Int32) (σ : SG) : Option (Bool × SG) :=
  match F_Op_goesBehind (x2) σ with
  | none => none
  | some q1 =>
  if q1.1 = true then
  match F_Op_width (x2) q1.2 with
  | none => none
  | some q3 =>
  match F_Vf_goOn (x0) (x1) ((x1 + q3.1)) (x4) q3.2 with
  | none => none
  | some q4 =>
  if q4.1 = true then
  F_Vf_reachNext_86 q4.2
  else F_Vf_reachNext_91 (false) q4.2
  else F_Vf_reachNext_86 q1.2
set_option maxHeartbeats 4000000 in
theorem w_Vf_reachNext_63 {b d : Nat} {sc : SC} {pre tl : List PE} {B : Nat} {Q : Option Value → List PE → Prop} {res : Bool × SG} (hB : B = b + pre.length) (hd : 3 ≤ d)   (hQ : Q (some (.int (bz res.1))) (HH pre tl SHc B res.2)) (lv : LV) (σ : SG) (x0 : Nat) (x1 : Int32) (x2 : Int32) (x4 : Int32) (hx0 : isC SHc (x0) 6 = true) (l0 : lv.lookup 0 = some (.ref (B + (x0)))) (l1 : lv.lookup 1 = some (.int (x1))) (l2 : lv.lookup 2 = some (.int (x2))) (l4 : lv.lookup 4 = some (.int (x4))) (hF : F_Vf_reachNext_63  x0 x1 x2 x4 σ = some res) : Rn b sc d 191 63 lv [] (HH pre tl SHc B σ) Q := by
  obtain ⟨e0, rfl⟩ : ∃ e, d = e + 1 := ⟨d - 1, by omega⟩
  unfold F_Vf_reachNext_63 at hF
  refine r_iload_n f_Vf_reachNext_63 l2 ?_
  cases hq1 : F_Op_goesBehind (x2) σ with
  | none => simp only [hq1] at hF; cases hF
  | some q1 =>
    simp only [hq1] at hF
    refine t_S1i f_Vf_reachNext_64 (by decide) (Nat.le_of_ble_eq_true rfl) (Nat.le_of_ble_eq_true rfl) (w_Op_goesBehind hB  (x2)  hq1 ⟨_, rfl, ?_⟩)
    refine r_if_eq f_Vf_reachNext_67 (fun c2 => ?_) (fun c2 => ?_)
    · rw [if_neg (bz_nt c2)] at hF
      exact w_Vf_reachNext_86 hB hd  hQ _ (q1.2) hF
    · rw [if_pos (bz_t c2)] at hF
      refine r_aload_n f_Vf_reachNext_70 l0 ?_
      refine r_iload_n f_Vf_reachNext_71 l1 ?_
      refine r_iload_n f_Vf_reachNext_72 l1 ?_
      refine r_iload_n f_Vf_reachNext_73 l2 ?_
      cases hq3 : F_Op_width (x2) q1.2 with
      | none => simp only [hq3] at hF; cases hF
      | some q3 =>
        simp only [hq3] at hF
        refine t_S1i f_Vf_reachNext_74 (by decide) (Nat.le_of_ble_eq_true rfl) (Nat.le_of_ble_eq_true rfl) (w_Op_width hB  (x2)  hq3 ⟨_, rfl, ?_⟩)
        refine r_iadd f_Vf_reachNext_77 ?_
        refine r_iload f_Vf_reachNext_78 l4 ?_
        cases hq4 : F_Vf_goOn (x0) (x1) ((x1 + q3.1)) (x4) q3.2 with
        | none => simp only [hq4] at hF; cases hF
        | some q4 =>
          simp only [hq4] at hF
          refine t_V3i hB hx0 rfl rfl f_Vf_reachNext_80 (by decide) (Nat.le_of_ble_eq_true rfl) (Nat.le_of_ble_eq_true rfl) (w_Vf_goOn hB (by omega) (x0) (x1) ((x1 + q3.1)) (x4) hx0 hq4 ⟨_, rfl, ?_⟩)
          refine r_if_eq f_Vf_reachNext_83 (fun c5 => ?_) (fun c5 => ?_)
          · rw [if_neg (bz_nt c5)] at hF
            refine r_iconst f_Vf_reachNext_90 (v := 0) (by decide) ?_
            exact w_Vf_reachNext_91 hB hd  hQ _ (q4.2) (false) hF
          · rw [if_pos (bz_t c5)] at hF
            exact w_Vf_reachNext_86 hB hd  hQ _ (q4.2) hF
def F_Vf_reachNext_41  (y0 : Bool) (σ : SG) : Option (Bool × SG) :=
  some (y0, σ)
set_option maxHeartbeats 4000000 in
theorem w_Vf_reachNext_41 {b d : Nat} {sc : SC} {pre tl : List PE} {B : Nat} {Q : Option Value → List PE → Prop} {res : Bool × SG} (hB : B = b + pre.length) (hd : 3 ≤ d)   (hQ : Q (some (.int (bz res.1))) (HH pre tl SHc B res.2)) (lv : LV) (σ : SG) (y0 : Bool)  (hF : F_Vf_reachNext_41  y0 σ = some res) : Rn b sc d 191 41 lv [.int (bz (y0))] (HH pre tl SHc B σ) Q := by
  obtain ⟨e0, rfl⟩ : ∃ e, d = e + 1 := ⟨d - 1, by omega⟩
  unfold F_Vf_reachNext_41 at hF
  cases hF
  exact r_zreturn f_Vf_reachNext_41 (bz_or (y0)) hQ
def F_Vf_reachNext_40   (σ : SG) : Option (Bool × SG) :=
  F_Vf_reachNext_41 (false) σ
set_option maxHeartbeats 4000000 in
theorem w_Vf_reachNext_40 {b d : Nat} {sc : SC} {pre tl : List PE} {B : Nat} {Q : Option Value → List PE → Prop} {res : Bool × SG} (hB : B = b + pre.length) (hd : 3 ≤ d)   (hQ : Q (some (.int (bz res.1))) (HH pre tl SHc B res.2)) (lv : LV) (σ : SG)   (hF : F_Vf_reachNext_40   σ = some res) : Rn b sc d 191 40 lv [] (HH pre tl SHc B σ) Q := by
  obtain ⟨e0, rfl⟩ : ∃ e, d = e + 1 := ⟨d - 1, by omega⟩
  unfold F_Vf_reachNext_40 at hF
  refine r_iconst f_Vf_reachNext_40 (v := 0) (by decide) ?_
  exact w_Vf_reachNext_41 hB hd  hQ _ (σ) (false) hF
def F_Vf_reachNext (a0 : Nat) (a1 : Int32) (a2 : Int32) (a3 : Int32) (a4 : Int32) (σ : SG) : Option (Bool × SG) :=
  match F_Op_signed (a3) σ with
  | none => none
  | some q6 =>
  if a2 = (36 : Int32) then
  match F_Vf_mayLeave (a0) (a1) (((a1 + (2 : Int32)) + q6.1)) q6.2 with
  | none => none
  | some q12 =>
  if q12.1 = true then
  match F_Vf_reach (a0) (((a1 + (2 : Int32)) + q6.1)) ((0 : Int32)) q12.2 with
  | none => none
  | some q14 =>
  if q14.1 = true then
  F_Vf_reachNext_41 (true) q14.2
  else F_Vf_reachNext_40 q14.2
  else F_Vf_reachNext_40 q12.2
  else match F_Op_jumps (a2) q6.2 with
  | none => none
  | some q8 =>
  if q8.1 = true then
  match F_Vf_goOn (a0) (a1) (((a1 + (2 : Int32)) + q6.1)) (a4) q8.2 with
  | none => none
  | some q10 =>
  if q10.1 = true then
  F_Vf_reachNext_63 (a0) (a1) (a2) (a4) q10.2
  else some (false, q10.2)
  else F_Vf_reachNext_63 (a0) (a1) (a2) (a4) q8.2
set_option maxHeartbeats 4000000 in
theorem w_Vf_reachNext {b d : Nat} {pre tl : List PE} {B : Nat} {Q : Option Value → List PE → Prop} {res : Bool × SG} (hB : B = b + pre.length) (hd : 3 ≤ d)  {σ : SG} (a0 : Nat) (a1 : Int32) (a2 : Int32) (a3 : Int32) (a4 : Int32) (ha0 : isC SHc (a0) 6 = true) (hF : F_Vf_reachNext a0 a1 a2 a3 a4 σ = some res) (hQ : Q (some (.int (bz res.1))) (HH pre tl SHc B res.2)) : Cl b d 191 [.ref (B + (a0)), .int (a1), .int (a2), .int (a3), .int (a4)] (HH pre tl SHc B σ) Q := by
  obtain ⟨e0, rfl⟩ : ∃ e, d = e + 1 := ⟨d - 1, by omega⟩
  unfold Cl
  unfold F_Vf_reachNext at hF
  refine r_iload_n f_Vf_reachNext_0 rfl ?_
  refine r_iconst f_Vf_reachNext_1 (v := 2) (by decide) ?_
  refine r_iadd f_Vf_reachNext_2 ?_
  refine r_iload_n f_Vf_reachNext_3 rfl ?_
  cases hq6 : F_Op_signed (a3) σ with
  | none => simp only [hq6] at hF; cases hF
  | some q6 =>
    simp only [hq6] at hF
    refine t_S1i f_Vf_reachNext_4 (by decide) (Nat.le_of_ble_eq_true rfl) (Nat.le_of_ble_eq_true rfl) (w_Op_signed hB  (a3)  hq6 ⟨_, rfl, ?_⟩)
    refine r_iadd f_Vf_reachNext_7 ?_
    refine r_istore f_Vf_reachNext_8 ?_
    refine r_iload_n f_Vf_reachNext_10 (lk_put_ne rfl (by decide) (Or.inl rfl)) ?_
    refine r_bipush f_Vf_reachNext_11 (v := 36) (by decide) ?_
    refine r_icmp_ne f_Vf_reachNext_13 (fun c7 => ?_) (fun c7 => ?_)
    · rw [if_neg c7] at hF
      refine r_iload_n f_Vf_reachNext_42 (lk_put_ne rfl (by decide) (Or.inl rfl)) ?_
      cases hq8 : F_Op_jumps (a2) q6.2 with
      | none => simp only [hq8] at hF; cases hF
      | some q8 =>
        simp only [hq8] at hF
        refine t_S1i f_Vf_reachNext_43 (by decide) (Nat.le_of_ble_eq_true rfl) (Nat.le_of_ble_eq_true rfl) (w_Op_jumps hB  (a2)  hq8 ⟨_, rfl, ?_⟩)
        refine r_if_eq f_Vf_reachNext_46 (fun c9 => ?_) (fun c9 => ?_)
        · rw [if_neg (bz_nt c9)] at hF
          exact w_Vf_reachNext_63 hB hd  hQ _ (q8.2) (a0) (a1) (a2) (a4) ha0 (lk_put_ne rfl (by decide) (Or.inl rfl)) (lk_put_ne rfl (by decide) (Or.inl rfl)) (lk_put_ne rfl (by decide) (Or.inl rfl)) (lk_put_ne rfl (by decide) (Or.inl rfl)) hF
        · rw [if_pos (bz_t c9)] at hF
          refine r_aload_n f_Vf_reachNext_49 (lk_put_ne rfl (by decide) (Or.inl rfl)) ?_
          refine r_iload_n f_Vf_reachNext_50 (lk_put_ne rfl (by decide) (Or.inl rfl)) ?_
          refine r_iload f_Vf_reachNext_51 lk_put ?_
          refine r_iload f_Vf_reachNext_53 (lk_put_ne rfl (by decide) (Or.inl rfl)) ?_
          cases hq10 : F_Vf_goOn (a0) (a1) (((a1 + (2 : Int32)) + q6.1)) (a4) q8.2 with
          | none => simp only [hq10] at hF; cases hF
          | some q10 =>
            simp only [hq10] at hF
            refine t_V3i hB ha0 rfl rfl f_Vf_reachNext_55 (by decide) (Nat.le_of_ble_eq_true rfl) (Nat.le_of_ble_eq_true rfl) (w_Vf_goOn hB (by omega) (a0) (a1) (((a1 + (2 : Int32)) + q6.1)) (a4) ha0 hq10 ⟨_, rfl, ?_⟩)
            refine r_if_ne f_Vf_reachNext_58 (fun c11 => ?_) (fun c11 => ?_)
            · rw [if_pos (bz_t c11)] at hF
              exact w_Vf_reachNext_63 hB hd  hQ _ (q10.2) (a0) (a1) (a2) (a4) ha0 (lk_put_ne rfl (by decide) (Or.inl rfl)) (lk_put_ne rfl (by decide) (Or.inl rfl)) (lk_put_ne rfl (by decide) (Or.inl rfl)) (lk_put_ne rfl (by decide) (Or.inl rfl)) hF
            · rw [if_neg (bz_nt (Decidable.not_not.mp c11))] at hF
              refine r_iconst f_Vf_reachNext_61 (v := 0) (by decide) ?_
              cases hF
              exact r_zreturn f_Vf_reachNext_62 (bz_or (false)) hQ
    · rw [if_pos (Decidable.not_not.mp c7)] at hF
      refine r_aload_n f_Vf_reachNext_16 (lk_put_ne rfl (by decide) (Or.inl rfl)) ?_
      refine r_iload_n f_Vf_reachNext_17 (lk_put_ne rfl (by decide) (Or.inl rfl)) ?_
      refine r_iload f_Vf_reachNext_18 lk_put ?_
      cases hq12 : F_Vf_mayLeave (a0) (a1) (((a1 + (2 : Int32)) + q6.1)) q6.2 with
      | none => simp only [hq12] at hF; cases hF
      | some q12 =>
        simp only [hq12] at hF
        refine t_V2i hB ha0 rfl rfl f_Vf_reachNext_20 (by decide) (Nat.le_of_ble_eq_true rfl) (Nat.le_of_ble_eq_true rfl) (w_Vf_mayLeave hB (by omega) (a0) (a1) (((a1 + (2 : Int32)) + q6.1)) ha0 hq12 ⟨_, rfl, ?_⟩)
        refine r_if_eq f_Vf_reachNext_23 (fun c13 => ?_) (fun c13 => ?_)
        · rw [if_neg (bz_nt c13)] at hF
          exact w_Vf_reachNext_40 hB hd  hQ _ (q12.2) hF
        · rw [if_pos (bz_t c13)] at hF
          refine r_aload_n f_Vf_reachNext_26 (lk_put_ne rfl (by decide) (Or.inl rfl)) ?_
          refine r_iload f_Vf_reachNext_27 lk_put ?_
          refine r_iconst f_Vf_reachNext_29 (v := 0) (by decide) ?_
          cases hq14 : F_Vf_reach (a0) (((a1 + (2 : Int32)) + q6.1)) ((0 : Int32)) q12.2 with
          | none => simp only [hq14] at hF; cases hF
          | some q14 =>
            simp only [hq14] at hF
            refine t_V2i hB ha0 rfl rfl f_Vf_reachNext_30 (by decide) (Nat.le_of_ble_eq_true rfl) (Nat.le_of_ble_eq_true rfl) (w_Vf_reach hB (by omega) (a0) (((a1 + (2 : Int32)) + q6.1)) ((0 : Int32)) ha0 hq14 ⟨_, rfl, ?_⟩)
            refine r_if_eq f_Vf_reachNext_33 (fun c15 => ?_) (fun c15 => ?_)
            · rw [if_neg (bz_nt c15)] at hF
              exact w_Vf_reachNext_40 hB hd  hQ _ (q14.2) hF
            · rw [if_pos (bz_t c15)] at hF
              refine r_iconst f_Vf_reachNext_36 (v := 1) (by decide) ?_
              refine r_goto f_Vf_reachNext_37 ?_
              exact w_Vf_reachNext_41 hB hd  hQ _ (q14.2) (true) hF
theorem f_Vf_follow_0 : fetch 181 0 = some (.aload_n 0, 1, 0, 0, 0) := rfl
theorem f_Vf_follow_1 : fetch 181 1 = some (.getfield 19, 3, 6, 1, 146) := rfl
theorem f_Vf_follow_4 : fetch 181 4 = some (.iload_n 1, 1, 0, 0, 0) := rfl
theorem f_Vf_follow_5 : fetch 181 5 = some (.invokevirtual 107, 3, 19, 1, 193) := rfl
theorem f_Vf_follow_8 : fetch 181 8 = some (.istore_n 2, 1, 0, 0, 0) := rfl
theorem f_Vf_follow_9 : fetch 181 9 = some (.aload_n 0, 1, 0, 0, 0) := rfl
theorem f_Vf_follow_10 : fetch 181 10 = some (.getfield 19, 3, 6, 1, 146) := rfl
theorem f_Vf_follow_13 : fetch 181 13 = some (.iload_n 1, 1, 0, 0, 0) := rfl
theorem f_Vf_follow_14 : fetch 181 14 = some (.iconst 1, 1, 0, 0, 0) := rfl
theorem f_Vf_follow_15 : fetch 181 15 = some (.iadd, 1, 0, 0, 0) := rfl
theorem f_Vf_follow_16 : fetch 181 16 = some (.invokevirtual 107, 3, 19, 1, 193) := rfl
theorem f_Vf_follow_19 : fetch 181 19 = some (.istore_n 3, 1, 0, 0, 0) := rfl
theorem f_Vf_follow_20 : fetch 181 20 = some (.aload_n 0, 1, 0, 0, 0) := rfl
theorem f_Vf_follow_21 : fetch 181 21 = some (.getfield 19, 3, 6, 1, 146) := rfl
theorem f_Vf_follow_24 : fetch 181 24 = some (.iload_n 1, 1, 0, 0, 0) := rfl
theorem f_Vf_follow_25 : fetch 181 25 = some (.invokevirtual 110, 3, 20, 1, 194) := rfl
theorem f_Vf_follow_28 : fetch 181 28 = some (.istore 4, 2, 0, 0, 0) := rfl
theorem f_Vf_follow_30 : fetch 181 30 = some (.iload_n 2, 1, 0, 0, 0) := rfl
theorem f_Vf_follow_31 : fetch 181 31 = some (.bipush 15, 2, 0, 0, 0) := rfl
theorem f_Vf_follow_33 : fetch 181 33 = some (.if_icmp .gt 16, 3, 49, 0, 0) := rfl
theorem f_Vf_follow_36 : fetch 181 36 = some (.aload_n 0, 1, 0, 0, 0) := rfl
theorem f_Vf_follow_37 : fetch 181 37 = some (.iload_n 2, 1, 0, 0, 0) := rfl
theorem f_Vf_follow_38 : fetch 181 38 = some (.iload_n 3, 1, 0, 0, 0) := rfl
theorem f_Vf_follow_39 : fetch 181 39 = some (.iload 4, 2, 0, 0, 0) := rfl
theorem f_Vf_follow_41 : fetch 181 41 = some (.invokevirtual 113, 3, 182, 3, 195) := rfl
theorem f_Vf_follow_44 : fetch 181 44 = some (.istore 5, 2, 0, 0, 0) := rfl
theorem f_Vf_follow_46 : fetch 181 46 = some (.goto 49, 3, 95, 0, 0) := rfl
theorem f_Vf_follow_49 : fetch 181 49 = some (.iload_n 2, 1, 0, 0, 0) := rfl
theorem f_Vf_follow_50 : fetch 181 50 = some (.bipush 25, 2, 0, 0, 0) := rfl
theorem f_Vf_follow_52 : fetch 181 52 = some (.if_icmp .gt 16, 3, 68, 0, 0) := rfl
theorem f_Vf_follow_55 : fetch 181 55 = some (.aload_n 0, 1, 0, 0, 0) := rfl
theorem f_Vf_follow_56 : fetch 181 56 = some (.iload_n 2, 1, 0, 0, 0) := rfl
theorem f_Vf_follow_57 : fetch 181 57 = some (.iload_n 3, 1, 0, 0, 0) := rfl
theorem f_Vf_follow_58 : fetch 181 58 = some (.iload 4, 2, 0, 0, 0) := rfl
theorem f_Vf_follow_60 : fetch 181 60 = some (.invokevirtual 117, 3, 185, 3, 196) := rfl
theorem f_Vf_follow_63 : fetch 181 63 = some (.istore 5, 2, 0, 0, 0) := rfl
theorem f_Vf_follow_65 : fetch 181 65 = some (.goto 30, 3, 95, 0, 0) := rfl
theorem f_Vf_follow_68 : fetch 181 68 = some (.iload_n 2, 1, 0, 0, 0) := rfl
theorem f_Vf_follow_69 : fetch 181 69 = some (.bipush 32, 2, 0, 0, 0) := rfl
theorem f_Vf_follow_71 : fetch 181 71 = some (.if_icmp .gt 14, 3, 85, 0, 0) := rfl
theorem f_Vf_follow_74 : fetch 181 74 = some (.iload_n 2, 1, 0, 0, 0) := rfl
theorem f_Vf_follow_75 : fetch 181 75 = some (.iload 4, 2, 0, 0, 0) := rfl
theorem f_Vf_follow_77 : fetch 181 77 = some (.invokestatic 120, 3, 186, 2, 197) := rfl
theorem f_Vf_follow_80 : fetch 181 80 = some (.istore 5, 2, 0, 0, 0) := rfl
theorem f_Vf_follow_82 : fetch 181 82 = some (.goto 13, 3, 95, 0, 0) := rfl
theorem f_Vf_follow_85 : fetch 181 85 = some (.aload_n 0, 1, 0, 0, 0) := rfl
theorem f_Vf_follow_86 : fetch 181 86 = some (.iload_n 2, 1, 0, 0, 0) := rfl
theorem f_Vf_follow_87 : fetch 181 87 = some (.iload_n 3, 1, 0, 0, 0) := rfl
theorem f_Vf_follow_88 : fetch 181 88 = some (.iload 4, 2, 0, 0, 0) := rfl
theorem f_Vf_follow_90 : fetch 181 90 = some (.invokevirtual 124, 3, 187, 3, 198) := rfl
theorem f_Vf_follow_93 : fetch 181 93 = some (.istore 5, 2, 0, 0, 0) := rfl
theorem f_Vf_follow_95 : fetch 181 95 = some (.iload 5, 2, 0, 0, 0) := rfl
theorem f_Vf_follow_97 : fetch 181 97 = some (.iconst (-1), 1, 0, 0, 0) := rfl
theorem f_Vf_follow_98 : fetch 181 98 = some (.if_icmp .eq 36, 3, 134, 0, 0) := rfl
theorem f_Vf_follow_101 : fetch 181 101 = some (.aload_n 0, 1, 0, 0, 0) := rfl
theorem f_Vf_follow_102 : fetch 181 102 = some (.iload_n 2, 1, 0, 0, 0) := rfl
theorem f_Vf_follow_103 : fetch 181 103 = some (.iload_n 1, 1, 0, 0, 0) := rfl
theorem f_Vf_follow_104 : fetch 181 104 = some (.invokevirtual 127, 3, 189, 2, 199) := rfl
theorem f_Vf_follow_107 : fetch 181 107 = some (.ifCond .eq 27, 3, 134, 0, 0) := rfl
theorem f_Vf_follow_110 : fetch 181 110 = some (.aload_n 0, 1, 0, 0, 0) := rfl
theorem f_Vf_follow_111 : fetch 181 111 = some (.iload_n 1, 1, 0, 0, 0) := rfl
theorem f_Vf_follow_112 : fetch 181 112 = some (.invokevirtual 130, 3, 190, 1, 200) := rfl
theorem f_Vf_follow_115 : fetch 181 115 = some (.ifCond .eq 19, 3, 134, 0, 0) := rfl
theorem f_Vf_follow_118 : fetch 181 118 = some (.aload_n 0, 1, 0, 0, 0) := rfl
theorem f_Vf_follow_119 : fetch 181 119 = some (.iload_n 1, 1, 0, 0, 0) := rfl
theorem f_Vf_follow_120 : fetch 181 120 = some (.iload_n 2, 1, 0, 0, 0) := rfl
theorem f_Vf_follow_121 : fetch 181 121 = some (.iload_n 3, 1, 0, 0, 0) := rfl
theorem f_Vf_follow_122 : fetch 181 122 = some (.iload 5, 2, 0, 0, 0) := rfl
theorem f_Vf_follow_124 : fetch 181 124 = some (.invokevirtual 133, 3, 191, 4, 201) := rfl
theorem f_Vf_follow_127 : fetch 181 127 = some (.ifCond .eq 7, 3, 134, 0, 0) := rfl
theorem f_Vf_follow_130 : fetch 181 130 = some (.iconst 1, 1, 0, 0, 0) := rfl
theorem f_Vf_follow_131 : fetch 181 131 = some (.goto 4, 3, 135, 0, 0) := rfl
theorem f_Vf_follow_134 : fetch 181 134 = some (.iconst 0, 1, 0, 0, 0) := rfl
theorem f_Vf_follow_135 : fetch 181 135 = some (.ireturn, 1, 2, 0, 0) := rfl
def F_Vf_follow_135  (y0 : Bool) (σ : SG) : Option (Bool × SG) :=
  some (y0, σ)
set_option maxHeartbeats 4000000 in
theorem w_Vf_follow_135 {b d : Nat} {sc : SC} {pre tl : List PE} {B : Nat} {Q : Option Value → List PE → Prop} {res : Bool × SG} (hB : B = b + pre.length) (hd : 4 ≤ d)   (hQ : Q (some (.int (bz res.1))) (HH pre tl SHc B res.2)) (lv : LV) (σ : SG) (y0 : Bool)  (hF : F_Vf_follow_135  y0 σ = some res) : Rn b sc d 181 135 lv [.int (bz (y0))] (HH pre tl SHc B σ) Q := by
  obtain ⟨e0, rfl⟩ : ∃ e, d = e + 1 := ⟨d - 1, by omega⟩
  unfold F_Vf_follow_135 at hF
  cases hF
  exact r_zreturn f_Vf_follow_135 (bz_or (y0)) hQ
def F_Vf_follow_134   (σ : SG) : Option (Bool × SG) :=
  F_Vf_follow_135 (false) σ
set_option maxHeartbeats 4000000 in
theorem w_Vf_follow_134 {b d : Nat} {sc : SC} {pre tl : List PE} {B : Nat} {Q : Option Value → List PE → Prop} {res : Bool × SG} (hB : B = b + pre.length) (hd : 4 ≤ d)   (hQ : Q (some (.int (bz res.1))) (HH pre tl SHc B res.2)) (lv : LV) (σ : SG)   (hF : F_Vf_follow_134   σ = some res) : Rn b sc d 181 134 lv [] (HH pre tl SHc B σ) Q := by
  obtain ⟨e0, rfl⟩ : ∃ e, d = e + 1 := ⟨d - 1, by omega⟩
  unfold F_Vf_follow_134 at hF
  refine r_iconst f_Vf_follow_134 (v := 0) (by decide) ?_
  exact w_Vf_follow_135 hB hd  hQ _ (σ) (false) hF
def F_Vf_follow_95  (x0 : Nat) (x1 : Int32) (x2 : Int32) (x3 : Int32) (x5 : Int32) (σ : SG) : Option (Bool × SG) :=
  if x5 = ((-1) : Int32) then
  F_Vf_follow_134 σ
  else match F_Vf_liesWhereItMay (x0) (x2) (x1) σ with
  | none => none
  | some q2 =>
  if q2.1 = true then
  match F_Vf_reachHandlers (x0) (x1) q2.2 with
  | none => none
  | some q4 =>
  if q4.1 = true then
  match F_Vf_reachNext (x0) (x1) (x2) (x3) (x5) q4.2 with
  | none => none
  | some q6 =>
  if q6.1 = true then
  F_Vf_follow_135 (true) q6.2
  else F_Vf_follow_134 q6.2
  else F_Vf_follow_134 q4.2
  else F_Vf_follow_134 q2.2
set_option maxHeartbeats 4000000 in
theorem w_Vf_follow_95 {b d : Nat} {sc : SC} {pre tl : List PE} {B : Nat} {Q : Option Value → List PE → Prop} {res : Bool × SG} (hB : B = b + pre.length) (hd : 4 ≤ d)   (hQ : Q (some (.int (bz res.1))) (HH pre tl SHc B res.2)) (lv : LV) (σ : SG) (x0 : Nat) (x1 : Int32) (x2 : Int32) (x3 : Int32) (x5 : Int32) (hx0 : isC SHc (x0) 6 = true) (l0 : lv.lookup 0 = some (.ref (B + (x0)))) (l1 : lv.lookup 1 = some (.int (x1))) (l2 : lv.lookup 2 = some (.int (x2))) (l3 : lv.lookup 3 = some (.int (x3))) (l5 : lv.lookup 5 = some (.int (x5))) (hF : F_Vf_follow_95  x0 x1 x2 x3 x5 σ = some res) : Rn b sc d 181 95 lv [] (HH pre tl SHc B σ) Q := by
  obtain ⟨e0, rfl⟩ : ∃ e, d = e + 1 := ⟨d - 1, by omega⟩
  unfold F_Vf_follow_95 at hF
  refine r_iload f_Vf_follow_95 l5 ?_
  refine r_iconst f_Vf_follow_97 (v := (-1)) (by decide) ?_
  refine r_icmp_eq f_Vf_follow_98 (fun c1 => ?_) (fun c1 => ?_)
  · rw [if_pos c1] at hF
    exact w_Vf_follow_134 hB hd  hQ _ (σ) hF
  · rw [if_neg c1] at hF
    refine r_aload_n f_Vf_follow_101 l0 ?_
    refine r_iload_n f_Vf_follow_102 l2 ?_
    refine r_iload_n f_Vf_follow_103 l1 ?_
    cases hq2 : F_Vf_liesWhereItMay (x0) (x2) (x1) σ with
    | none => simp only [hq2] at hF; cases hF
    | some q2 =>
      simp only [hq2] at hF
      refine t_V2i hB hx0 rfl rfl f_Vf_follow_104 (by decide) (Nat.le_of_ble_eq_true rfl) (Nat.le_of_ble_eq_true rfl) (w_Vf_liesWhereItMay hB (by omega) (x0) (x2) (x1) hx0 hq2 ⟨_, rfl, ?_⟩)
      refine r_if_eq f_Vf_follow_107 (fun c3 => ?_) (fun c3 => ?_)
      · rw [if_neg (bz_nt c3)] at hF
        exact w_Vf_follow_134 hB hd  hQ _ (q2.2) hF
      · rw [if_pos (bz_t c3)] at hF
        refine r_aload_n f_Vf_follow_110 l0 ?_
        refine r_iload_n f_Vf_follow_111 l1 ?_
        cases hq4 : F_Vf_reachHandlers (x0) (x1) q2.2 with
        | none => simp only [hq4] at hF; cases hF
        | some q4 =>
          simp only [hq4] at hF
          refine t_V1i hB hx0 rfl rfl f_Vf_follow_112 (by decide) (Nat.le_of_ble_eq_true rfl) (Nat.le_of_ble_eq_true rfl) (w_Vf_reachHandlers hB (by omega) (x0) (x1) hx0 hq4 ⟨_, rfl, ?_⟩)
          refine r_if_eq f_Vf_follow_115 (fun c5 => ?_) (fun c5 => ?_)
          · rw [if_neg (bz_nt c5)] at hF
            exact w_Vf_follow_134 hB hd  hQ _ (q4.2) hF
          · rw [if_pos (bz_t c5)] at hF
            refine r_aload_n f_Vf_follow_118 l0 ?_
            refine r_iload_n f_Vf_follow_119 l1 ?_
            refine r_iload_n f_Vf_follow_120 l2 ?_
            refine r_iload_n f_Vf_follow_121 l3 ?_
            refine r_iload f_Vf_follow_122 l5 ?_
            cases hq6 : F_Vf_reachNext (x0) (x1) (x2) (x3) (x5) q4.2 with
            | none => simp only [hq6] at hF; cases hF
            | some q6 =>
              simp only [hq6] at hF
              refine t_V4i hB hx0 rfl rfl f_Vf_follow_124 (by decide) (Nat.le_of_ble_eq_true rfl) (Nat.le_of_ble_eq_true rfl) (w_Vf_reachNext hB (by omega) (x0) (x1) (x2) (x3) (x5) hx0 hq6 ⟨_, rfl, ?_⟩)
              refine r_if_eq f_Vf_follow_127 (fun c7 => ?_) (fun c7 => ?_)
              · rw [if_neg (bz_nt c7)] at hF
                exact w_Vf_follow_134 hB hd  hQ _ (q6.2) hF
              · rw [if_pos (bz_t c7)] at hF
                refine r_iconst f_Vf_follow_130 (v := 1) (by decide) ?_
                refine r_goto f_Vf_follow_131 ?_
                exact w_Vf_follow_135 hB hd  hQ _ (q6.2) (true) hF
def F_Vf_follow (a0 : Nat) (a1 : Int32) (σ : SG) : Option (Bool × SG) :=
  if isC SHc ((σ.2.2.1 (a0) 1)) 2 = true then
  match F_Me_codeAt ((σ.2.2.1 (a0) 1)) (a1) σ with
  | none => none
  | some q9 =>
  if isC SHc ((q9.2.2.2.1 (a0) 1)) 2 = true then
  match F_Me_codeAt ((q9.2.2.2.1 (a0) 1)) ((a1 + (1 : Int32))) q9.2 with
  | none => none
  | some q11 =>
  if isC SHc ((q11.2.2.2.1 (a0) 1)) 2 = true then
  match F_Me_rowAt ((q11.2.2.2.1 (a0) 1)) (a1) q11.2 with
  | none => none
  | some q13 =>
  if (15 : Int32) < q9.1 then
  if (25 : Int32) < q9.1 then
  if (32 : Int32) < q9.1 then
  match F_Vf_rowBehindFlow (a0) (q9.1) (q11.1) (q13.1) q13.2 with
  | none => none
  | some q17 =>
  F_Vf_follow_95 (a0) (a1) (q9.1) (q11.1) (q17.1) q17.2
  else match F_Vf_rowBehindValue (q9.1) (q13.1) q13.2 with
  | none => none
  | some q18 =>
  F_Vf_follow_95 (a0) (a1) (q9.1) (q11.1) (q18.1) q18.2
  else match F_Vf_rowBehindThing (a0) (q9.1) (q11.1) (q13.1) q13.2 with
  | none => none
  | some q19 =>
  F_Vf_follow_95 (a0) (a1) (q9.1) (q11.1) (q19.1) q19.2
  else match F_Vf_rowBehindSimple (a0) (q9.1) (q11.1) (q13.1) q13.2 with
  | none => none
  | some q20 =>
  F_Vf_follow_95 (a0) (a1) (q9.1) (q11.1) (q20.1) q20.2
  else none
  else none
  else none
set_option maxHeartbeats 4000000 in
theorem w_Vf_follow {b d : Nat} {pre tl : List PE} {B : Nat} {Q : Option Value → List PE → Prop} {res : Bool × SG} (hB : B = b + pre.length) (hd : 4 ≤ d)  {σ : SG} (a0 : Nat) (a1 : Int32) (ha0 : isC SHc (a0) 6 = true) (hF : F_Vf_follow a0 a1 σ = some res) (hQ : Q (some (.int (bz res.1))) (HH pre tl SHc B res.2)) : Cl b d 181 [.ref (B + (a0)), .int (a1)] (HH pre tl SHc B σ) Q := by
  obtain ⟨e0, rfl⟩ : ∃ e, d = e + 1 := ⟨d - 1, by omega⟩
  unfold Cl
  unfold F_Vf_follow at hF
  refine r_aload_n f_Vf_follow_0 rfl ?_
  by_cases c8 : isC SHc ((σ.2.2.1 (a0) 1)) 2 = true
  case neg => rw [if_neg c8] at hF; cases hF
  rw [if_pos c8] at hF
  refine t_getm hB ha0 f_Vf_follow_1 rfl ?_
  refine r_iload_n f_Vf_follow_4 rfl ?_
  cases hq9 : F_Me_codeAt ((σ.2.2.1 (a0) 1)) (a1) σ with
  | none => simp only [hq9] at hF; cases hF
  | some q9 =>
    simp only [hq9] at hF
    refine t_V1i hB c8 rfl rfl f_Vf_follow_5 (by decide) (Nat.le_of_ble_eq_true rfl) (Nat.le_of_ble_eq_true rfl) (w_Me_codeAt hB  ((σ.2.2.1 (a0) 1)) (a1) c8 hq9 ⟨_, rfl, ?_⟩)
    refine r_istore_n f_Vf_follow_8 ?_
    refine r_aload_n f_Vf_follow_9 (lk_put_ne rfl (by decide) (Or.inl rfl)) ?_
    by_cases c10 : isC SHc ((q9.2.2.2.1 (a0) 1)) 2 = true
    case neg => rw [if_neg c10] at hF; cases hF
    rw [if_pos c10] at hF
    refine t_getm hB ha0 f_Vf_follow_10 rfl ?_
    refine r_iload_n f_Vf_follow_13 (lk_put_ne rfl (by decide) (Or.inl rfl)) ?_
    refine r_iconst f_Vf_follow_14 (v := 1) (by decide) ?_
    refine r_iadd f_Vf_follow_15 ?_
    cases hq11 : F_Me_codeAt ((q9.2.2.2.1 (a0) 1)) ((a1 + (1 : Int32))) q9.2 with
    | none => simp only [hq11] at hF; cases hF
    | some q11 =>
      simp only [hq11] at hF
      refine t_V1i hB c10 rfl rfl f_Vf_follow_16 (by decide) (Nat.le_of_ble_eq_true rfl) (Nat.le_of_ble_eq_true rfl) (w_Me_codeAt hB  ((q9.2.2.2.1 (a0) 1)) ((a1 + (1 : Int32))) c10 hq11 ⟨_, rfl, ?_⟩)
      refine r_istore_n f_Vf_follow_19 ?_
      refine r_aload_n f_Vf_follow_20 (lk_put_ne (lk_put_ne rfl (by decide) (Or.inl rfl)) (by decide) (Or.inl rfl)) ?_
      by_cases c12 : isC SHc ((q11.2.2.2.1 (a0) 1)) 2 = true
      case neg => rw [if_neg c12] at hF; cases hF
      rw [if_pos c12] at hF
      refine t_getm hB ha0 f_Vf_follow_21 rfl ?_
      refine r_iload_n f_Vf_follow_24 (lk_put_ne (lk_put_ne rfl (by decide) (Or.inl rfl)) (by decide) (Or.inl rfl)) ?_
      cases hq13 : F_Me_rowAt ((q11.2.2.2.1 (a0) 1)) (a1) q11.2 with
      | none => simp only [hq13] at hF; cases hF
      | some q13 =>
        simp only [hq13] at hF
        refine t_V1i hB c12 rfl rfl f_Vf_follow_25 (by decide) (Nat.le_of_ble_eq_true rfl) (Nat.le_of_ble_eq_true rfl) (w_Me_rowAt hB  ((q11.2.2.2.1 (a0) 1)) (a1) c12 hq13 ⟨_, rfl, ?_⟩)
        refine r_istore f_Vf_follow_28 ?_
        refine r_iload_n f_Vf_follow_30 (lk_put_ne (lk_put_ne lk_put (by decide) (Or.inl rfl)) (by decide) (Or.inl rfl)) ?_
        refine r_bipush f_Vf_follow_31 (v := 15) (by decide) ?_
        refine r_icmp_gt f_Vf_follow_33 (fun c14 => ?_) (fun c14 => ?_)
        · rw [if_pos c14] at hF
          refine r_iload_n f_Vf_follow_49 (lk_put_ne (lk_put_ne lk_put (by decide) (Or.inl rfl)) (by decide) (Or.inl rfl)) ?_
          refine r_bipush f_Vf_follow_50 (v := 25) (by decide) ?_
          refine r_icmp_gt f_Vf_follow_52 (fun c15 => ?_) (fun c15 => ?_)
          · rw [if_pos c15] at hF
            refine r_iload_n f_Vf_follow_68 (lk_put_ne (lk_put_ne lk_put (by decide) (Or.inl rfl)) (by decide) (Or.inl rfl)) ?_
            refine r_bipush f_Vf_follow_69 (v := 32) (by decide) ?_
            refine r_icmp_gt f_Vf_follow_71 (fun c16 => ?_) (fun c16 => ?_)
            · rw [if_pos c16] at hF
              refine r_aload_n f_Vf_follow_85 (lk_put_ne (lk_put_ne (lk_put_ne rfl (by decide) (Or.inl rfl)) (by decide) (Or.inl rfl)) (by decide) (Or.inl rfl)) ?_
              refine r_iload_n f_Vf_follow_86 (lk_put_ne (lk_put_ne lk_put (by decide) (Or.inl rfl)) (by decide) (Or.inl rfl)) ?_
              refine r_iload_n f_Vf_follow_87 (lk_put_ne lk_put (by decide) (Or.inl rfl)) ?_
              refine r_iload f_Vf_follow_88 lk_put ?_
              cases hq17 : F_Vf_rowBehindFlow (a0) (q9.1) (q11.1) (q13.1) q13.2 with
              | none => simp only [hq17] at hF; cases hF
              | some q17 =>
                simp only [hq17] at hF
                refine t_V3i hB ha0 rfl rfl f_Vf_follow_90 (by decide) (Nat.le_of_ble_eq_true rfl) (Nat.le_of_ble_eq_true rfl) (w_Vf_rowBehindFlow hB (by omega) (a0) (q9.1) (q11.1) (q13.1) ha0 hq17 ⟨_, rfl, ?_⟩)
                refine r_istore f_Vf_follow_93 ?_
                exact w_Vf_follow_95 hB hd  hQ _ (q17.2) (a0) (a1) (q9.1) (q11.1) (q17.1) ha0 (lk_put_ne (lk_put_ne (lk_put_ne (lk_put_ne rfl (by decide) (Or.inl rfl)) (by decide) (Or.inl rfl)) (by decide) (Or.inl rfl)) (by decide) (Or.inl rfl)) (lk_put_ne (lk_put_ne (lk_put_ne (lk_put_ne rfl (by decide) (Or.inl rfl)) (by decide) (Or.inl rfl)) (by decide) (Or.inl rfl)) (by decide) (Or.inl rfl)) (lk_put_ne (lk_put_ne (lk_put_ne lk_put (by decide) (Or.inl rfl)) (by decide) (Or.inl rfl)) (by decide) (Or.inl rfl)) (lk_put_ne (lk_put_ne lk_put (by decide) (Or.inl rfl)) (by decide) (Or.inl rfl)) lk_put hF
            · rw [if_neg c16] at hF
              refine r_iload_n f_Vf_follow_74 (lk_put_ne (lk_put_ne lk_put (by decide) (Or.inl rfl)) (by decide) (Or.inl rfl)) ?_
              refine r_iload f_Vf_follow_75 lk_put ?_
              cases hq18 : F_Vf_rowBehindValue (q9.1) (q13.1) q13.2 with
              | none => simp only [hq18] at hF; cases hF
              | some q18 =>
                simp only [hq18] at hF
                refine t_S2i f_Vf_follow_77 (by decide) (Nat.le_of_ble_eq_true rfl) (Nat.le_of_ble_eq_true rfl) (w_Vf_rowBehindValue hB (by omega) (q9.1) (q13.1)  hq18 ⟨_, rfl, ?_⟩)
                refine r_istore f_Vf_follow_80 ?_
                refine r_goto f_Vf_follow_82 ?_
                exact w_Vf_follow_95 hB hd  hQ _ (q18.2) (a0) (a1) (q9.1) (q11.1) (q18.1) ha0 (lk_put_ne (lk_put_ne (lk_put_ne (lk_put_ne rfl (by decide) (Or.inl rfl)) (by decide) (Or.inl rfl)) (by decide) (Or.inl rfl)) (by decide) (Or.inl rfl)) (lk_put_ne (lk_put_ne (lk_put_ne (lk_put_ne rfl (by decide) (Or.inl rfl)) (by decide) (Or.inl rfl)) (by decide) (Or.inl rfl)) (by decide) (Or.inl rfl)) (lk_put_ne (lk_put_ne (lk_put_ne lk_put (by decide) (Or.inl rfl)) (by decide) (Or.inl rfl)) (by decide) (Or.inl rfl)) (lk_put_ne (lk_put_ne lk_put (by decide) (Or.inl rfl)) (by decide) (Or.inl rfl)) lk_put hF
          · rw [if_neg c15] at hF
            refine r_aload_n f_Vf_follow_55 (lk_put_ne (lk_put_ne (lk_put_ne rfl (by decide) (Or.inl rfl)) (by decide) (Or.inl rfl)) (by decide) (Or.inl rfl)) ?_
            refine r_iload_n f_Vf_follow_56 (lk_put_ne (lk_put_ne lk_put (by decide) (Or.inl rfl)) (by decide) (Or.inl rfl)) ?_
            refine r_iload_n f_Vf_follow_57 (lk_put_ne lk_put (by decide) (Or.inl rfl)) ?_
            refine r_iload f_Vf_follow_58 lk_put ?_
            cases hq19 : F_Vf_rowBehindThing (a0) (q9.1) (q11.1) (q13.1) q13.2 with
            | none => simp only [hq19] at hF; cases hF
            | some q19 =>
              simp only [hq19] at hF
              refine t_V3i hB ha0 rfl rfl f_Vf_follow_60 (by decide) (Nat.le_of_ble_eq_true rfl) (Nat.le_of_ble_eq_true rfl) (w_Vf_rowBehindThing hB (by omega) (a0) (q9.1) (q11.1) (q13.1) ha0 hq19 ⟨_, rfl, ?_⟩)
              refine r_istore f_Vf_follow_63 ?_
              refine r_goto f_Vf_follow_65 ?_
              exact w_Vf_follow_95 hB hd  hQ _ (q19.2) (a0) (a1) (q9.1) (q11.1) (q19.1) ha0 (lk_put_ne (lk_put_ne (lk_put_ne (lk_put_ne rfl (by decide) (Or.inl rfl)) (by decide) (Or.inl rfl)) (by decide) (Or.inl rfl)) (by decide) (Or.inl rfl)) (lk_put_ne (lk_put_ne (lk_put_ne (lk_put_ne rfl (by decide) (Or.inl rfl)) (by decide) (Or.inl rfl)) (by decide) (Or.inl rfl)) (by decide) (Or.inl rfl)) (lk_put_ne (lk_put_ne (lk_put_ne lk_put (by decide) (Or.inl rfl)) (by decide) (Or.inl rfl)) (by decide) (Or.inl rfl)) (lk_put_ne (lk_put_ne lk_put (by decide) (Or.inl rfl)) (by decide) (Or.inl rfl)) lk_put hF
        · rw [if_neg c14] at hF
          refine r_aload_n f_Vf_follow_36 (lk_put_ne (lk_put_ne (lk_put_ne rfl (by decide) (Or.inl rfl)) (by decide) (Or.inl rfl)) (by decide) (Or.inl rfl)) ?_
          refine r_iload_n f_Vf_follow_37 (lk_put_ne (lk_put_ne lk_put (by decide) (Or.inl rfl)) (by decide) (Or.inl rfl)) ?_
          refine r_iload_n f_Vf_follow_38 (lk_put_ne lk_put (by decide) (Or.inl rfl)) ?_
          refine r_iload f_Vf_follow_39 lk_put ?_
          cases hq20 : F_Vf_rowBehindSimple (a0) (q9.1) (q11.1) (q13.1) q13.2 with
          | none => simp only [hq20] at hF; cases hF
          | some q20 =>
            simp only [hq20] at hF
            refine t_V3i hB ha0 rfl rfl f_Vf_follow_41 (by decide) (Nat.le_of_ble_eq_true rfl) (Nat.le_of_ble_eq_true rfl) (w_Vf_rowBehindSimple hB (by omega) (a0) (q9.1) (q11.1) (q13.1) ha0 hq20 ⟨_, rfl, ?_⟩)
            refine r_istore f_Vf_follow_44 ?_
            refine r_goto f_Vf_follow_46 ?_
            exact w_Vf_follow_95 hB hd  hQ _ (q20.2) (a0) (a1) (q9.1) (q11.1) (q20.1) ha0 (lk_put_ne (lk_put_ne (lk_put_ne (lk_put_ne rfl (by decide) (Or.inl rfl)) (by decide) (Or.inl rfl)) (by decide) (Or.inl rfl)) (by decide) (Or.inl rfl)) (lk_put_ne (lk_put_ne (lk_put_ne (lk_put_ne rfl (by decide) (Or.inl rfl)) (by decide) (Or.inl rfl)) (by decide) (Or.inl rfl)) (by decide) (Or.inl rfl)) (lk_put_ne (lk_put_ne (lk_put_ne lk_put (by decide) (Or.inl rfl)) (by decide) (Or.inl rfl)) (by decide) (Or.inl rfl)) (lk_put_ne (lk_put_ne lk_put (by decide) (Or.inl rfl)) (by decide) (Or.inl rfl)) lk_put hF
theorem f_Vf_verify_0 : fetch 175 0 = some (.aload_n 0, 1, 0, 0, 0) := rfl
theorem f_Vf_verify_1 : fetch 175 1 = some (.aload_n 1, 1, 0, 0, 0) := rfl
theorem f_Vf_verify_2 : fetch 175 2 = some (.putfield 7, 3, 6, 0, 144) := rfl
theorem f_Vf_verify_5 : fetch 175 5 = some (.aload_n 0, 1, 0, 0, 0) := rfl
theorem f_Vf_verify_6 : fetch 175 6 = some (.aload_n 2, 1, 0, 0, 0) := rfl
theorem f_Vf_verify_7 : fetch 175 7 = some (.putfield 19, 3, 6, 1, 146) := rfl
theorem f_Vf_verify_10 : fetch 175 10 = some (.aload_n 0, 1, 0, 0, 0) := rfl
theorem f_Vf_verify_11 : fetch 175 11 = some (.getfield 19, 3, 6, 1, 146) := rfl
theorem f_Vf_verify_14 : fetch 175 14 = some (.iconst 0, 1, 0, 0, 0) := rfl
theorem f_Vf_verify_15 : fetch 175 15 = some (.putfield 33, 3, 2, 11, 149) := rfl
theorem f_Vf_verify_18 : fetch 175 18 = some (.aload_n 0, 1, 0, 0, 0) := rfl
theorem f_Vf_verify_19 : fetch 175 19 = some (.iconst 0, 1, 0, 0, 0) := rfl
theorem f_Vf_verify_20 : fetch 175 20 = some (.putfield 37, 3, 6, 4, 150) := rfl
theorem f_Vf_verify_23 : fetch 175 23 = some (.aload_n 0, 1, 0, 0, 0) := rfl
theorem f_Vf_verify_24 : fetch 175 24 = some (.invokevirtual 40, 3, 176, 0, 184) := rfl
theorem f_Vf_verify_27 : fetch 175 27 = some (.ifCond .eq 23, 3, 50, 0, 0) := rfl
theorem f_Vf_verify_30 : fetch 175 30 = some (.aload_n 0, 1, 0, 0, 0) := rfl
theorem f_Vf_verify_31 : fetch 175 31 = some (.invokevirtual 44, 3, 177, 0, 185) := rfl
theorem f_Vf_verify_34 : fetch 175 34 = some (.ifCond .eq 16, 3, 50, 0, 0) := rfl
theorem f_Vf_verify_37 : fetch 175 37 = some (.aload_n 0, 1, 0, 0, 0) := rfl
theorem f_Vf_verify_38 : fetch 175 38 = some (.iconst 0, 1, 0, 0, 0) := rfl
theorem f_Vf_verify_39 : fetch 175 39 = some (.iconst 0, 1, 0, 0, 0) := rfl
theorem f_Vf_verify_40 : fetch 175 40 = some (.invokevirtual 49, 3, 180, 2, 186) := rfl
theorem f_Vf_verify_43 : fetch 175 43 = some (.ifCond .eq 7, 3, 50, 0, 0) := rfl
theorem f_Vf_verify_46 : fetch 175 46 = some (.iconst 1, 1, 0, 0, 0) := rfl
theorem f_Vf_verify_47 : fetch 175 47 = some (.goto 4, 3, 51, 0, 0) := rfl
theorem f_Vf_verify_50 : fetch 175 50 = some (.iconst 0, 1, 0, 0, 0) := rfl
theorem f_Vf_verify_51 : fetch 175 51 = some (.istore_n 3, 1, 0, 0, 0) := rfl
theorem f_Vf_verify_52 : fetch 175 52 = some (.iconst 0, 1, 0, 0, 0) := rfl
theorem f_Vf_verify_53 : fetch 175 53 = some (.istore 4, 2, 0, 0, 0) := rfl
theorem f_Vf_verify_55 : fetch 175 55 = some (.iload_n 3, 1, 0, 0, 0) := rfl
theorem f_Vf_verify_56 : fetch 175 56 = some (.ifCond .eq 37, 3, 93, 0, 0) := rfl
theorem f_Vf_verify_59 : fetch 175 59 = some (.iload 4, 2, 0, 0, 0) := rfl
theorem f_Vf_verify_61 : fetch 175 61 = some (.aload_n 0, 1, 0, 0, 0) := rfl
theorem f_Vf_verify_62 : fetch 175 62 = some (.getfield 37, 3, 6, 4, 150) := rfl
theorem f_Vf_verify_65 : fetch 175 65 = some (.if_icmp .ge 28, 3, 93, 0, 0) := rfl
theorem f_Vf_verify_68 : fetch 175 68 = some (.iload 4, 2, 0, 0, 0) := rfl
theorem f_Vf_verify_70 : fetch 175 70 = some (.bipush 100, 2, 0, 0, 0) := rfl
theorem f_Vf_verify_72 : fetch 175 72 = some (.if_icmp .ge 21, 3, 93, 0, 0) := rfl
theorem f_Vf_verify_75 : fetch 175 75 = some (.aload_n 0, 1, 0, 0, 0) := rfl
theorem f_Vf_verify_76 : fetch 175 76 = some (.aload_n 0, 1, 0, 0, 0) := rfl
theorem f_Vf_verify_77 : fetch 175 77 = some (.getfield 29, 3, 6, 3, 148) := rfl
theorem f_Vf_verify_80 : fetch 175 80 = some (.iload 4, 2, 0, 0, 0) := rfl
theorem f_Vf_verify_82 : fetch 175 82 = some (.iaload, 1, 0, 0, 0) := rfl
theorem f_Vf_verify_83 : fetch 175 83 = some (.invokevirtual 53, 3, 181, 1, 187) := rfl
theorem f_Vf_verify_86 : fetch 175 86 = some (.istore_n 3, 1, 0, 0, 0) := rfl
theorem f_Vf_verify_87 : fetch 175 87 = some (.iinc 4 1, 3, 0, 0, 0) := rfl
theorem f_Vf_verify_90 : fetch 175 90 = some (.goto (-35), 3, 55, 0, 0) := rfl
theorem f_Vf_verify_93 : fetch 175 93 = some (.aload_n 0, 1, 0, 0, 0) := rfl
theorem f_Vf_verify_94 : fetch 175 94 = some (.getfield 19, 3, 6, 1, 146) := rfl
theorem f_Vf_verify_97 : fetch 175 97 = some (.iload_n 3, 1, 0, 0, 0) := rfl
theorem f_Vf_verify_98 : fetch 175 98 = some (.putfield 57, 3, 2, 9, 151) := rfl
theorem f_Vf_verify_101 : fetch 175 101 = some (.return_, 1, 0, 0, 0) := rfl
def F_Vf_verify_93  (x0 : Nat) (x3 : Bool) (σ : SG) : Option (SG) :=
  if isC SHc ((σ.2.2.1 (x0) 1)) 2 = true then
  stl (setI σ ((σ.2.2.1 (x0) 1)) 9 (bz (x3))) fun s2 =>
  some s2
  else none
set_option maxHeartbeats 4000000 in
theorem w_Vf_verify_93 {b d : Nat} {sc : SC} {pre tl : List PE} {B : Nat} {Q : Option Value → List PE → Prop} {res : SG} (hB : B = b + pre.length) (hd : 5 ≤ d)   (hQ : Q none (HH pre tl SHc B res)) (lv : LV) (σ : SG) (x0 : Nat) (x3 : Bool) (hx0 : isC SHc (x0) 6 = true) (l0 : lv.lookup 0 = some (.ref (B + (x0)))) (l3 : lv.lookup 3 = some (.int (bz (x3)))) (hF : F_Vf_verify_93  x0 x3 σ = some res) : Rn b sc d 175 93 lv [] (HH pre tl SHc B σ) Q := by
  obtain ⟨e0, rfl⟩ : ∃ e, d = e + 1 := ⟨d - 1, by omega⟩
  unfold F_Vf_verify_93 at hF
  refine r_aload_n f_Vf_verify_93 l0 ?_
  by_cases c1 : isC SHc ((σ.2.2.1 (x0) 1)) 2 = true
  case neg => rw [if_neg c1] at hF; cases hF
  rw [if_pos c1] at hF
  refine t_getm hB hx0 f_Vf_verify_94 rfl ?_
  refine r_iload_n f_Vf_verify_97 l3 ?_
  refine t_putz (v := x3) hB c1 f_Vf_verify_98 rfl rfl ?_
  generalize hs2 : setI σ ((σ.2.2.1 (x0) 1)) 9 (bz (x3)) = s2 at hF ⊢
  rw [stl_eq] at hF
  cases hF
  exact r_return f_Vf_verify_101 hQ
def F_Vf_verify_55  : Nat → Nat → Bool → Int32 → SG → Option (SG)
  | 0, _, _, _, _ => none
  | n + 1, x0, x3, x4, σ =>
  if x3 = true then
  if (σ.1 (x0) 4) ≤ x4 then
  F_Vf_verify_93 (x0) (x3) σ
  else if (100 : Int32) ≤ x4 then
  F_Vf_verify_93 (x0) (x3) σ
  else if x4 < 0 ∨ 100 ≤ (x4).toNatClampNeg then none else
  match F_Vf_follow (x0) ((σ.2.2.2.1 ((cref SHc (x0) 3)) ((x4).toNatClampNeg))) σ with
  | none => none
  | some q7 =>
  F_Vf_verify_55  n (x0) (q7.1) ((x4 + 1)) q7.2
  else F_Vf_verify_93 (x0) (x3) σ
set_option maxHeartbeats 4000000 in
theorem w_Vf_verify_55 {b d : Nat} {sc : SC} {pre tl : List PE} {B : Nat} {Q : Option Value → List PE → Prop} {res : SG} (hB : B = b + pre.length) (hd : 5 ≤ d)   (hQ : Q none (HH pre tl SHc B res)) : ∀ (n : Nat) (lv : LV) (σ : SG) (x0 : Nat) (x3 : Bool) (x4 : Int32), isC SHc (x0) 6 = true → lv.lookup 0 = some (.ref (B + (x0))) → lv.lookup 3 = some (.int (bz (x3))) → lv.lookup 4 = some (.int (x4)) → F_Vf_verify_55  n x0 x3 x4 σ = some res → Rn b sc d 175 55 lv [] (HH pre tl SHc B σ) Q := by
  obtain ⟨e0, rfl⟩ : ∃ e, d = e + 1 := ⟨d - 1, by omega⟩
  intro n
  induction n with
  | zero => intro lv σ x0 x3 x4 hx0 l0 l3 l4 hF; cases hF
  | succ n ih =>
    intro lv σ x0 x3 x4 hx0 l0 l3 l4 hF
    unfold F_Vf_verify_55 at hF
    refine r_iload_n f_Vf_verify_55 l3 ?_
    refine r_if_eq f_Vf_verify_56 (fun c3 => ?_) (fun c3 => ?_)
    · rw [if_neg (bz_nt c3)] at hF
      exact w_Vf_verify_93 hB hd  hQ _ (σ) (x0) (x3) hx0 l0 l3 hF
    · rw [if_pos (bz_t c3)] at hF
      refine r_iload f_Vf_verify_59 l4 ?_
      refine r_aload_n f_Vf_verify_61 l0 ?_
      refine t_geti hB hx0 f_Vf_verify_62 rfl ?_
      refine r_icmp_ge f_Vf_verify_65 (fun c4 => ?_) (fun c4 => ?_)
      · rw [if_pos c4] at hF
        exact w_Vf_verify_93 hB hd  hQ _ (σ) (x0) (x3) hx0 l0 l3 hF
      · rw [if_neg c4] at hF
        refine r_iload f_Vf_verify_68 l4 ?_
        refine r_bipush f_Vf_verify_70 (v := 100) (by decide) ?_
        refine r_icmp_ge f_Vf_verify_72 (fun c5 => ?_) (fun c5 => ?_)
        · rw [if_pos c5] at hF
          exact w_Vf_verify_93 hB hd  hQ _ (σ) (x0) (x3) hx0 l0 l3 hF
        · rw [if_neg c5] at hF
          refine r_aload_n f_Vf_verify_75 l0 ?_
          refine r_aload_n f_Vf_verify_76 l0 ?_
          refine t_getc hB hx0 f_Vf_verify_77 rfl ?_
          refine r_iload f_Vf_verify_80 l4 ?_
          by_cases c6 : x4 < 0 ∨ 100 ≤ (x4).toNatClampNeg
          · rw [if_pos c6] at hF; cases hF
          rw [if_neg c6] at hF
          refine t_iald hB (cc_6_3 hx0) f_Vf_verify_82 c6 ?_
          cases hq7 : F_Vf_follow (x0) ((σ.2.2.2.1 ((cref SHc (x0) 3)) ((x4).toNatClampNeg))) σ with
          | none => simp only [hq7] at hF; cases hF
          | some q7 =>
            simp only [hq7] at hF
            refine t_V1i hB hx0 rfl rfl f_Vf_verify_83 (by decide) (Nat.le_of_ble_eq_true rfl) (Nat.le_of_ble_eq_true rfl) (w_Vf_follow hB (by omega) (x0) ((σ.2.2.2.1 ((cref SHc (x0) 3)) ((x4).toNatClampNeg))) hx0 hq7 ⟨_, rfl, ?_⟩)
            refine r_istore_n f_Vf_verify_86 ?_
            refine r_iinc f_Vf_verify_87 (lk_put_ne l4 (by decide) (Or.inl rfl)) (w := x4 + 1) rfl ?_
            refine r_goto f_Vf_verify_90 ?_
            exact ih _ (q7.2) (x0) (q7.1) ((x4 + 1)) hx0 (lk_put_ne (lk_put_ne l0 (by decide) (Or.inl rfl)) (by decide) (Or.inl rfl)) (lk_put_ne lk_put (by decide) (Or.inl rfl)) lk_put hF
def F_Vf_verify_51  (x0 : Nat) (y0 : Bool) (σ : SG) : Option (SG) :=
  F_Vf_verify_55  5000 (x0) (y0) ((0 : Int32)) σ
set_option maxHeartbeats 4000000 in
theorem w_Vf_verify_51 {b d : Nat} {sc : SC} {pre tl : List PE} {B : Nat} {Q : Option Value → List PE → Prop} {res : SG} (hB : B = b + pre.length) (hd : 5 ≤ d)   (hQ : Q none (HH pre tl SHc B res)) (lv : LV) (σ : SG) (x0 : Nat) (y0 : Bool) (hx0 : isC SHc (x0) 6 = true) (l0 : lv.lookup 0 = some (.ref (B + (x0)))) (hF : F_Vf_verify_51  x0 y0 σ = some res) : Rn b sc d 175 51 lv [.int (bz (y0))] (HH pre tl SHc B σ) Q := by
  obtain ⟨e0, rfl⟩ : ∃ e, d = e + 1 := ⟨d - 1, by omega⟩
  unfold F_Vf_verify_51 at hF
  refine r_istore_n f_Vf_verify_51 ?_
  refine r_iconst f_Vf_verify_52 (v := 0) (by decide) ?_
  refine r_istore f_Vf_verify_53 ?_
  exact w_Vf_verify_55 hB hd  hQ 5000 _ (σ) (x0) (y0) ((0 : Int32)) hx0 (lk_put_ne (lk_put_ne l0 (by decide) (Or.inl rfl)) (by decide) (Or.inl rfl)) (lk_put_ne lk_put (by decide) (Or.inl rfl)) lk_put hF
def F_Vf_verify_50  (x0 : Nat) (σ : SG) : Option (SG) :=
  F_Vf_verify_51 (x0) (false) σ
set_option maxHeartbeats 4000000 in
theorem w_Vf_verify_50 {b d : Nat} {sc : SC} {pre tl : List PE} {B : Nat} {Q : Option Value → List PE → Prop} {res : SG} (hB : B = b + pre.length) (hd : 5 ≤ d)   (hQ : Q none (HH pre tl SHc B res)) (lv : LV) (σ : SG) (x0 : Nat) (hx0 : isC SHc (x0) 6 = true) (l0 : lv.lookup 0 = some (.ref (B + (x0)))) (hF : F_Vf_verify_50  x0 σ = some res) : Rn b sc d 175 50 lv [] (HH pre tl SHc B σ) Q := by
  obtain ⟨e0, rfl⟩ : ∃ e, d = e + 1 := ⟨d - 1, by omega⟩
  unfold F_Vf_verify_50 at hF
  refine r_iconst f_Vf_verify_50 (v := 0) (by decide) ?_
  exact w_Vf_verify_51 hB hd  hQ _ (σ) (x0) (false) hx0 l0 hF
def F_Vf_verify (a0 : Nat) (a1 : Nat) (a2 : Nat) (σ : SG) : Option (SG) :=
  stl (setP σ (a0) 0 (a1)) fun s8 =>
  stl (setP s8 (a0) 1 (a2)) fun s9 =>
  if isC SHc ((s9.2.2.1 (a0) 1)) 2 = true then
  stl (setI s9 ((s9.2.2.1 (a0) 1)) 11 ((0 : Int32))) fun s11 =>
  stl (setI s11 (a0) 4 ((0 : Int32))) fun s12 =>
  match F_Vf_findBeginnings (a0) s12 with
  | none => none
  | some q13 =>
  if q13.1 = true then
  match F_Vf_areRegionsWellMade (a0) q13.2 with
  | none => none
  | some q15 =>
  if q15.1 = true then
  match F_Vf_reach (a0) ((0 : Int32)) ((0 : Int32)) q15.2 with
  | none => none
  | some q17 =>
  if q17.1 = true then
  F_Vf_verify_51 (a0) (true) q17.2
  else F_Vf_verify_50 (a0) q17.2
  else F_Vf_verify_50 (a0) q15.2
  else F_Vf_verify_50 (a0) q13.2
  else none
set_option maxHeartbeats 4000000 in
theorem w_Vf_verify {b d : Nat} {pre tl : List PE} {B : Nat} {Q : Option Value → List PE → Prop} {res : SG} (hB : B = b + pre.length) (hd : 5 ≤ d)  {σ : SG} (a0 : Nat) (a1 : Nat) (a2 : Nat) (ha0 : isC SHc (a0) 6 = true) (ha1 : isC SHc (a1) 1 = true) (ha2 : isC SHc (a2) 2 = true) (hF : F_Vf_verify a0 a1 a2 σ = some res) (hQ : Q none (HH pre tl SHc B res)) : Cl b d 175 [.ref (B + (a0)), .ref (B + (a1)), .ref (B + (a2))] (HH pre tl SHc B σ) Q := by
  obtain ⟨e0, rfl⟩ : ∃ e, d = e + 1 := ⟨d - 1, by omega⟩
  unfold Cl
  unfold F_Vf_verify at hF
  refine r_aload_n f_Vf_verify_0 rfl ?_
  refine r_aload_n f_Vf_verify_1 rfl ?_
  refine t_putm hB ha0 f_Vf_verify_2 rfl rfl ?_
  generalize hs8 : setP σ (a0) 0 (a1) = s8 at hF ⊢
  rw [stl_eq] at hF
  refine r_aload_n f_Vf_verify_5 rfl ?_
  refine r_aload_n f_Vf_verify_6 rfl ?_
  refine t_putm hB ha0 f_Vf_verify_7 rfl rfl ?_
  generalize hs9 : setP s8 (a0) 1 (a2) = s9 at hF ⊢
  rw [stl_eq] at hF
  refine r_aload_n f_Vf_verify_10 rfl ?_
  by_cases c10 : isC SHc ((s9.2.2.1 (a0) 1)) 2 = true
  case neg => rw [if_neg c10] at hF; cases hF
  rw [if_pos c10] at hF
  refine t_getm hB ha0 f_Vf_verify_11 rfl ?_
  refine r_iconst f_Vf_verify_14 (v := 0) (by decide) ?_
  refine t_puti hB c10 f_Vf_verify_15 rfl rfl ?_
  generalize hs11 : setI s9 ((s9.2.2.1 (a0) 1)) 11 ((0 : Int32)) = s11 at hF ⊢
  rw [stl_eq] at hF
  refine r_aload_n f_Vf_verify_18 rfl ?_
  refine r_iconst f_Vf_verify_19 (v := 0) (by decide) ?_
  refine t_puti hB ha0 f_Vf_verify_20 rfl rfl ?_
  generalize hs12 : setI s11 (a0) 4 ((0 : Int32)) = s12 at hF ⊢
  rw [stl_eq] at hF
  refine r_aload_n f_Vf_verify_23 rfl ?_
  cases hq13 : F_Vf_findBeginnings (a0) s12 with
  | none => simp only [hq13] at hF; cases hF
  | some q13 =>
    simp only [hq13] at hF
    refine t_V0i hB ha0 rfl rfl f_Vf_verify_24 (by decide) (Nat.le_of_ble_eq_true rfl) (Nat.le_of_ble_eq_true rfl) (w_Vf_findBeginnings hB (by omega) (a0) ha0 hq13 ⟨_, rfl, ?_⟩)
    refine r_if_eq f_Vf_verify_27 (fun c14 => ?_) (fun c14 => ?_)
    · rw [if_neg (bz_nt c14)] at hF
      exact w_Vf_verify_50 hB hd  hQ _ (q13.2) (a0) ha0 rfl hF
    · rw [if_pos (bz_t c14)] at hF
      refine r_aload_n f_Vf_verify_30 rfl ?_
      cases hq15 : F_Vf_areRegionsWellMade (a0) q13.2 with
      | none => simp only [hq15] at hF; cases hF
      | some q15 =>
        simp only [hq15] at hF
        refine t_V0i hB ha0 rfl rfl f_Vf_verify_31 (by decide) (Nat.le_of_ble_eq_true rfl) (Nat.le_of_ble_eq_true rfl) (w_Vf_areRegionsWellMade hB (by omega) (a0) ha0 hq15 ⟨_, rfl, ?_⟩)
        refine r_if_eq f_Vf_verify_34 (fun c16 => ?_) (fun c16 => ?_)
        · rw [if_neg (bz_nt c16)] at hF
          exact w_Vf_verify_50 hB hd  hQ _ (q15.2) (a0) ha0 rfl hF
        · rw [if_pos (bz_t c16)] at hF
          refine r_aload_n f_Vf_verify_37 rfl ?_
          refine r_iconst f_Vf_verify_38 (v := 0) (by decide) ?_
          refine r_iconst f_Vf_verify_39 (v := 0) (by decide) ?_
          cases hq17 : F_Vf_reach (a0) ((0 : Int32)) ((0 : Int32)) q15.2 with
          | none => simp only [hq17] at hF; cases hF
          | some q17 =>
            simp only [hq17] at hF
            refine t_V2i hB ha0 rfl rfl f_Vf_verify_40 (by decide) (Nat.le_of_ble_eq_true rfl) (Nat.le_of_ble_eq_true rfl) (w_Vf_reach hB (by omega) (a0) ((0 : Int32)) ((0 : Int32)) ha0 hq17 ⟨_, rfl, ?_⟩)
            refine r_if_eq f_Vf_verify_43 (fun c18 => ?_) (fun c18 => ?_)
            · rw [if_neg (bz_nt c18)] at hF
              exact w_Vf_verify_50 hB hd  hQ _ (q17.2) (a0) ha0 rfl hF
            · rw [if_pos (bz_t c18)] at hF
              refine r_iconst f_Vf_verify_46 (v := 1) (by decide) ?_
              refine r_goto f_Vf_verify_47 ?_
              exact w_Vf_verify_51 hB hd  hQ _ (q17.2) (a0) (true) ha0 rfl hF
