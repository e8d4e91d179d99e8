theorem f_Ru_end_0 : fetch 148 0 = some (.aload_n 0, 1, 0, 0, 0) := rfl
theorem f_Ru_end_1 : fetch 148 1 = some (.iload_n 1, 1, 0, 0, 0) := rfl
theorem f_Ru_end_2 : fetch 148 2 = some (.putfield 41, 3, 5, 9, 105) := rfl
theorem f_Ru_end_5 : fetch 148 5 = some (.aload_n 0, 1, 0, 0, 0) := rfl
theorem f_Ru_end_6 : fetch 148 6 = some (.iload_n 2, 1, 0, 0, 0) := rfl
theorem f_Ru_end_7 : fetch 148 7 = some (.putfield 45, 3, 5, 10, 106) := rfl
theorem f_Ru_end_10 : fetch 148 10 = some (.return_, 1, 0, 0, 0) := rfl
def F_Ru_end (a0 : Nat) (a1 : Int32) (a2 : Int32) (σ : SG) : Option (SG) :=
  stl (setI σ (a0) 9 (a1)) fun s1 =>
  stl (setI s1 (a0) 10 (a2)) fun s2 =>
  some s2
set_option maxHeartbeats 4000000 in
theorem w_Ru_end {b d : Nat} {pre tl : List PE} {B : Nat} {Q : Option Value → List PE → Prop} {res : SG} (hB : B = b + pre.length)  {σ : SG} (a0 : Nat) (a1 : Int32) (a2 : Int32) (ha0 : isC SHc (a0) 5 = true) (hF : F_Ru_end a0 a1 a2 σ = some res) (hQ : Q none (HH pre tl SHc B res)) : Cl b d 148 [.ref (B + (a0)), .int (a1), .int (a2)] (HH pre tl SHc B σ) Q := by
  unfold Cl
  unfold F_Ru_end at hF
  refine r_aload_n f_Ru_end_0 rfl ?_
  refine r_iload_n f_Ru_end_1 rfl ?_
  refine t_puti hB ha0 f_Ru_end_2 rfl rfl ?_
  generalize hs1 : setI σ (a0) 9 (a1) = s1 at hF ⊢
  rw [stl_eq] at hF
  refine r_aload_n f_Ru_end_5 rfl ?_
  refine r_iload_n f_Ru_end_6 rfl ?_
  refine t_puti hB ha0 f_Ru_end_7 rfl rfl ?_
  generalize hs2 : setI s1 (a0) 10 (a2) = s2 at hF ⊢
  rw [stl_eq] at hF
  cases hF
  exact r_return f_Ru_end_10 hQ
theorem f_Ru_giveBack_0 : fetch 146 0 = some (.aload_n 1, 1, 0, 0, 0) := rfl
theorem f_Ru_giveBack_1 : fetch 146 1 = some (.getfield 80, 3, 0, 1, 110) := rfl
theorem f_Ru_giveBack_4 : fetch 146 4 = some (.getfield 223, 3, 2, 0, 118) := rfl
theorem f_Ru_giveBack_7 : fetch 146 7 = some (.istore_n 2, 1, 0, 0, 0) := rfl
theorem f_Ru_giveBack_8 : fetch 146 8 = some (.iload_n 2, 1, 0, 0, 0) := rfl
theorem f_Ru_giveBack_9 : fetch 146 9 = some (.ifCond .ne 7, 3, 16, 0, 0) := rfl
theorem f_Ru_giveBack_12 : fetch 146 12 = some (.lconst 0, 1, 0, 0, 0) := rfl
theorem f_Ru_giveBack_13 : fetch 146 13 = some (.goto 7, 3, 20, 0, 0) := rfl
theorem f_Ru_giveBack_16 : fetch 146 16 = some (.aload_n 1, 1, 0, 0, 0) := rfl
theorem f_Ru_giveBack_17 : fetch 146 17 = some (.invokevirtual 140, 3, 5, 0, 130) := rfl
theorem f_Ru_giveBack_20 : fetch 146 20 = some (.lstore_n 3, 1, 0, 0, 0) := rfl
theorem f_Ru_giveBack_21 : fetch 146 21 = some (.aload_n 0, 1, 0, 0, 0) := rfl
theorem f_Ru_giveBack_22 : fetch 146 22 = some (.dup, 1, 0, 0, 0) := rfl
theorem f_Ru_giveBack_23 : fetch 146 23 = some (.getfield 48, 3, 5, 11, 107) := rfl
theorem f_Ru_giveBack_26 : fetch 146 26 = some (.iconst 1, 1, 0, 0, 0) := rfl
theorem f_Ru_giveBack_27 : fetch 146 27 = some (.isub, 1, 0, 0, 0) := rfl
theorem f_Ru_giveBack_28 : fetch 146 28 = some (.putfield 48, 3, 5, 11, 107) := rfl
theorem f_Ru_giveBack_31 : fetch 146 31 = some (.aload_n 0, 1, 0, 0, 0) := rfl
theorem f_Ru_giveBack_32 : fetch 146 32 = some (.getfield 48, 3, 5, 11, 107) := rfl
theorem f_Ru_giveBack_35 : fetch 146 35 = some (.ifCond .gt 15, 3, 50, 0, 0) := rfl
theorem f_Ru_giveBack_38 : fetch 146 38 = some (.aload_n 0, 1, 0, 0, 0) := rfl
theorem f_Ru_giveBack_39 : fetch 146 39 = some (.iconst 2, 1, 0, 0, 0) := rfl
theorem f_Ru_giveBack_40 : fetch 146 40 = some (.iload_n 2, 1, 0, 0, 0) := rfl
theorem f_Ru_giveBack_41 : fetch 146 41 = some (.lload_n 3, 1, 0, 0, 0) := rfl
theorem f_Ru_giveBack_42 : fetch 146 42 = some (.invokestatic 226, 3, 147, 2, 153) := rfl
theorem f_Ru_giveBack_45 : fetch 146 45 = some (.invokevirtual 230, 3, 148, 2, 154) := rfl
theorem f_Ru_giveBack_48 : fetch 146 48 = some (.iconst 0, 1, 0, 0, 0) := rfl
theorem f_Ru_giveBack_49 : fetch 146 49 = some (.ireturn, 1, 2, 0, 0) := rfl
theorem f_Ru_giveBack_50 : fetch 146 50 = some (.aload_n 0, 1, 0, 0, 0) := rfl
theorem f_Ru_giveBack_51 : fetch 146 51 = some (.invokevirtual 62, 3, 122, 0, 116) := rfl
theorem f_Ru_giveBack_54 : fetch 146 54 = some (.astore 5, 2, 0, 0, 0) := rfl
theorem f_Ru_giveBack_56 : fetch 146 56 = some (.iload_n 2, 1, 0, 0, 0) := rfl
theorem f_Ru_giveBack_57 : fetch 146 57 = some (.ifCond .eq 9, 3, 66, 0, 0) := rfl
theorem f_Ru_giveBack_60 : fetch 146 60 = some (.aload 5, 2, 0, 0, 0) := rfl
theorem f_Ru_giveBack_62 : fetch 146 62 = some (.lload_n 3, 1, 0, 0, 0) := rfl
theorem f_Ru_giveBack_63 : fetch 146 63 = some (.invokevirtual 132, 3, 4, 1, 128) := rfl
theorem f_Ru_giveBack_66 : fetch 146 66 = some (.aload 5, 2, 0, 0, 0) := rfl
theorem f_Ru_giveBack_68 : fetch 146 68 = some (.dup, 1, 0, 0, 0) := rfl
theorem f_Ru_giveBack_69 : fetch 146 69 = some (.getfield 83, 3, 0, 3, 111) := rfl
theorem f_Ru_giveBack_72 : fetch 146 72 = some (.bipush 33, 2, 0, 0, 0) := rfl
theorem f_Ru_giveBack_74 : fetch 146 74 = some (.invokestatic 113, 3, 102, 1, 126) := rfl
theorem f_Ru_giveBack_77 : fetch 146 77 = some (.iadd, 1, 0, 0, 0) := rfl
theorem f_Ru_giveBack_78 : fetch 146 78 = some (.putfield 83, 3, 0, 3, 111) := rfl
theorem f_Ru_giveBack_81 : fetch 146 81 = some (.iconst 0, 1, 0, 0, 0) := rfl
theorem f_Ru_giveBack_82 : fetch 146 82 = some (.ireturn, 1, 2, 0, 0) := rfl
def F_Ru_giveBack_66  (x5 : Option Nat) (σ : SG) : Option (Bool × SG) :=
  match x5 with
  | none => none
  | some k1 => if isC SHc k1 0 = true then
  match F_Op_width ((33 : Int32)) σ with
  | none => none
  | some q3 =>
  stl (setI q3.2 (k1) 3 (((σ.1 (k1) 3) + q3.1))) fun s4 =>
  some (false, s4)
  else none
set_option maxHeartbeats 4000000 in
theorem w_Ru_giveBack_66 {b d : Nat} {sc : SC} {pre tl : List PE} {B : Nat} {Q : Option Value → List PE → Prop} {res : Bool × SG} (hB : B = b + pre.length) (hd : 2 ≤ d)   (hQ : Q (some (.int (bz res.1))) (HH pre tl SHc B res.2)) (lv : LV) (σ : SG) (x5 : Option Nat) (l5 : lv.lookup 5 = some (ov B (x5))) (hF : F_Ru_giveBack_66  x5 σ = some res) : Rn b sc d 146 66 lv [] (HH pre tl SHc B σ) Q := by
  obtain ⟨e0, rfl⟩ : ∃ e, d = e + 1 := ⟨d - 1, by omega⟩
  unfold F_Ru_giveBack_66 at hF
  refine r_aload_O f_Ru_giveBack_66 l5 ?_
  refine r_dup f_Ru_giveBack_68 (catO _ _) ?_
  cases c2 : (x5 : Option Nat) with
  | none => simp only [c2] at hF; cases hF
  | some k1 =>
    simp only [c2] at *
    by_cases c2k : isC SHc k1 0 = true
    · rw [if_pos c2k] at hF
      try simp only [ov]
      refine t_geti hB c2k f_Ru_giveBack_69 rfl ?_
      refine r_bipush f_Ru_giveBack_72 (v := 33) (by decide) ?_
      cases hq3 : F_Op_width ((33 : Int32)) σ with
      | none => simp only [hq3] at hF; cases hF
      | some q3 =>
        simp only [hq3] at hF
        refine t_S1i f_Ru_giveBack_74 (by decide) (Nat.le_of_ble_eq_true rfl) (Nat.le_of_ble_eq_true rfl) (w_Op_width hB  ((33 : Int32))  hq3 ⟨_, rfl, ?_⟩)
        refine r_iadd f_Ru_giveBack_77 ?_
        refine t_puti hB c2k f_Ru_giveBack_78 rfl rfl ?_
        generalize hs4 : setI q3.2 (k1) 3 (((σ.1 (k1) 3) + q3.1)) = s4 at hF ⊢
        rw [stl_eq] at hF
        refine r_iconst f_Ru_giveBack_81 (v := 0) (by decide) ?_
        cases hF
        exact r_zreturn f_Ru_giveBack_82 (bz_or (false)) hQ
    · rw [if_neg c2k] at hF; cases hF
def F_Ru_giveBack_20  (x0 : Nat) (x2 : Int32) (y0 : Int64) (σ : SG) : Option (Bool × SG) :=
  stl (setI σ (x0) 11 (((σ.1 (x0) 11) - (1 : Int32)))) fun s5 =>
  if 0 < (s5.1 (x0) 11) then
  match F_Ru_latest (x0) s5 with
  | none => none
  | some q7 =>
  if x2 = 0 then
  F_Ru_giveBack_66 (q7.1) q7.2
  else match q7.1 with
  | none => none
  | some k9 => if isC SHc k9 0 = true then
  match F_Fr_push (k9) (y0) q7.2 with
  | none => none
  | some q11 =>
  F_Ru_giveBack_66 (some (k9)) q11
  else none
  else match F_Ru_numberOf (x2) (y0) s5 with
  | none => none
  | some q12 =>
  match F_Ru_end (x0) ((2 : Int32)) (q12.1) q12.2 with
  | none => none
  | some q13 =>
  some (false, q13)
set_option maxHeartbeats 4000000 in
theorem w_Ru_giveBack_20 {b d : Nat} {sc : SC} {pre tl : List PE} {B : Nat} {Q : Option Value → List PE → Prop} {res : Bool × SG} (hB : B = b + pre.length) (hd : 2 ≤ d)   (hQ : Q (some (.int (bz res.1))) (HH pre tl SHc B res.2)) (lv : LV) (σ : SG) (x0 : Nat) (x2 : Int32) (y0 : Int64) (hx0 : isC SHc (x0) 5 = true) (l0 : lv.lookup 0 = some (.ref (B + (x0)))) (l2 : lv.lookup 2 = some (.int (x2))) (hF : F_Ru_giveBack_20  x0 x2 y0 σ = some res) : Rn b sc d 146 20 lv [.long (y0)] (HH pre tl SHc B σ) Q := by
  obtain ⟨e0, rfl⟩ : ∃ e, d = e + 1 := ⟨d - 1, by omega⟩
  unfold F_Ru_giveBack_20 at hF
  refine r_lstore_n f_Ru_giveBack_20 ?_
  refine r_aload_n f_Ru_giveBack_21 (lk_put2_ne l0 (by decide) (by decide) (Or.inl rfl)) ?_
  refine r_dup f_Ru_giveBack_22 rfl ?_
  refine t_geti hB hx0 f_Ru_giveBack_23 rfl ?_
  refine r_iconst f_Ru_giveBack_26 (v := 1) (by decide) ?_
  refine r_isub f_Ru_giveBack_27 ?_
  refine t_puti hB hx0 f_Ru_giveBack_28 rfl rfl ?_
  generalize hs5 : setI σ (x0) 11 (((σ.1 (x0) 11) - (1 : Int32))) = s5 at hF ⊢
  rw [stl_eq] at hF
  refine r_aload_n f_Ru_giveBack_31 (lk_put2_ne l0 (by decide) (by decide) (Or.inl rfl)) ?_
  refine t_geti hB hx0 f_Ru_giveBack_32 rfl ?_
  refine r_if_gt f_Ru_giveBack_35 (fun c6 => ?_) (fun c6 => ?_)
  · rw [if_pos c6] at hF
    refine r_aload_n f_Ru_giveBack_50 (lk_put2_ne l0 (by decide) (by decide) (Or.inl rfl)) ?_
    cases hq7 : F_Ru_latest (x0) s5 with
    | none => simp only [hq7] at hF; cases hF
    | some q7 =>
      simp only [hq7] at hF
      refine t_V0o hB hx0 rfl rfl f_Ru_giveBack_51 (by decide) (Nat.le_of_ble_eq_true rfl) (Nat.le_of_ble_eq_true rfl) (w_Ru_latest hB  (x0) hx0 hq7 ⟨_, rfl, ?_⟩)
      refine r_astore_O f_Ru_giveBack_54 ?_
      refine r_iload_n f_Ru_giveBack_56 (lk_put_ne (lk_put2_ne l2 (by decide) (by decide) (Or.inl rfl)) (by decide) (Or.inl rfl)) ?_
      refine r_if_eq f_Ru_giveBack_57 (fun c8 => ?_) (fun c8 => ?_)
      · rw [if_pos c8] at hF
        exact w_Ru_giveBack_66 hB hd  hQ _ (q7.2) (q7.1) lk_put hF
      · rw [if_neg c8] at hF
        refine r_aload_O f_Ru_giveBack_60 lk_put ?_
        refine r_lload_n f_Ru_giveBack_62 (lk_put_ne lk_put2 (by decide) (Or.inr (by decide))) ?_
        cases c10 : (q7.1 : Option Nat) with
        | none => simp only [c10] at hF; cases hF
        | some k9 =>
          simp only [c10] at *
          by_cases c10k : isC SHc k9 0 = true
          · rw [if_pos c10k] at hF
            try simp only [ov]
            cases hq11 : F_Fr_push (k9) (y0) q7.2 with
            | none => simp only [hq11] at hF; cases hF
            | some q11 =>
              simp only [hq11] at hF
              refine t_V1v hB c10k rfl rfl f_Ru_giveBack_63 (by decide) (Nat.le_of_ble_eq_true rfl) (Nat.le_of_ble_eq_true rfl) (w_Fr_push hB  (k9) (y0) c10k hq11 ⟨rfl, ?_⟩)
              exact w_Ru_giveBack_66 hB hd  hQ _ (q11) (some (k9)) lk_put hF
          · rw [if_neg c10k] at hF; cases hF
  · rw [if_neg c6] at hF
    refine r_aload_n f_Ru_giveBack_38 (lk_put2_ne l0 (by decide) (by decide) (Or.inl rfl)) ?_
    refine r_iconst f_Ru_giveBack_39 (v := 2) (by decide) ?_
    refine r_iload_n f_Ru_giveBack_40 (lk_put2_ne l2 (by decide) (by decide) (Or.inl rfl)) ?_
    refine r_lload_n f_Ru_giveBack_41 lk_put2 ?_
    cases hq12 : F_Ru_numberOf (x2) (y0) s5 with
    | none => simp only [hq12] at hF; cases hF
    | some q12 =>
      simp only [hq12] at hF
      refine t_S2i f_Ru_giveBack_42 (by decide) (Nat.le_of_ble_eq_true rfl) (Nat.le_of_ble_eq_true rfl) (w_Ru_numberOf hB (by omega) (x2) (y0)  hq12 ⟨_, rfl, ?_⟩)
      cases hq13 : F_Ru_end (x0) ((2 : Int32)) (q12.1) q12.2 with
      | none => simp only [hq13] at hF; cases hF
      | some q13 =>
        simp only [hq13] at hF
        refine t_V2v hB hx0 rfl rfl f_Ru_giveBack_45 (by decide) (Nat.le_of_ble_eq_true rfl) (Nat.le_of_ble_eq_true rfl) (w_Ru_end hB  (x0) ((2 : Int32)) (q12.1) hx0 hq13 ⟨rfl, ?_⟩)
        refine r_iconst f_Ru_giveBack_48 (v := 0) (by decide) ?_
        cases hF
        exact r_zreturn f_Ru_giveBack_49 (bz_or (false)) hQ
def F_Ru_giveBack (a0 : Nat) (a1 : Nat) (σ : SG) : Option (Bool × SG) :=
  if isC SHc ((σ.2.2.1 (a1) 1)) 2 = true then
  if (σ.1 ((σ.2.2.1 (a1) 1)) 0) = 0 then
  F_Ru_giveBack_20 (a0) ((σ.1 ((σ.2.2.1 (a1) 1)) 0)) ((0 : Int64)) σ
  else match F_Fr_pop (a1) σ with
  | none => none
  | some q16 =>
  F_Ru_giveBack_20 (a0) ((σ.1 ((σ.2.2.1 (a1) 1)) 0)) (q16.1) q16.2
  else none
set_option maxHeartbeats 4000000 in
theorem w_Ru_giveBack {b d : Nat} {pre tl : List PE} {B : Nat} {Q : Option Value → List PE → Prop} {res : Bool × SG} (hB : B = b + pre.length) (hd : 2 ≤ d)  {σ : SG} (a0 : Nat) (a1 : Nat) (ha0 : isC SHc (a0) 5 = true) (ha1 : isC SHc (a1) 0 = true) (hF : F_Ru_giveBack a0 a1 σ = some res) (hQ : Q (some (.int (bz res.1))) (HH pre tl SHc B res.2)) : Cl b d 146 [.ref (B + (a0)), .ref (B + (a1))] (HH pre tl SHc B σ) Q := by
  obtain ⟨e0, rfl⟩ : ∃ e, d = e + 1 := ⟨d - 1, by omega⟩
  unfold Cl
  unfold F_Ru_giveBack at hF
  refine r_aload_n f_Ru_giveBack_0 rfl ?_
  by_cases c14 : isC SHc ((σ.2.2.1 (a1) 1)) 2 = true
  case neg => rw [if_neg c14] at hF; cases hF
  rw [if_pos c14] at hF
  refine t_getm hB ha1 f_Ru_giveBack_1 rfl ?_
  refine t_geti hB c14 f_Ru_giveBack_4 rfl ?_
  refine r_istore_n f_Ru_giveBack_7 ?_
  refine r_iload_n f_Ru_giveBack_8 lk_put ?_
  refine r_if_ne f_Ru_giveBack_9 (fun c15 => ?_) (fun c15 => ?_)
  · rw [if_neg c15] at hF
    refine r_aload_n f_Ru_giveBack_16 (lk_put_ne rfl (by decide) (Or.inl rfl)) ?_
    cases hq16 : F_Fr_pop (a1) σ with
    | none => simp only [hq16] at hF; cases hF
    | some q16 =>
      simp only [hq16] at hF
      refine t_V0l hB ha1 rfl rfl f_Ru_giveBack_17 (by decide) (Nat.le_of_ble_eq_true rfl) (Nat.le_of_ble_eq_true rfl) (w_Fr_pop hB  (a1) ha1 hq16 ⟨_, rfl, ?_⟩)
      exact w_Ru_giveBack_20 hB hd  hQ _ (q16.2) (a0) ((σ.1 ((σ.2.2.1 (a1) 1)) 0)) (q16.1) ha0 (lk_put_ne rfl (by decide) (Or.inl rfl)) lk_put hF
  · rw [if_pos (Decidable.not_not.mp c15)] at hF
    refine r_lconst f_Ru_giveBack_12 (v := 0) (by decide) ?_
    refine r_goto f_Ru_giveBack_13 ?_
    exact w_Ru_giveBack_20 hB hd  hQ _ (σ) (a0) ((σ.1 ((σ.2.2.1 (a1) 1)) 0)) ((0 : Int64)) ha0 (lk_put_ne rfl (by decide) (Or.inl rfl)) lk_put hF
theorem f_Ru_enter_0 : fetch 150 0 = some (.aload_n 1, 1, 0, 0, 0) := rfl
theorem f_Ru_enter_1 : fetch 150 1 = some (.iconst 0, 1, 0, 0, 0) := rfl
theorem f_Ru_enter_2 : fetch 150 2 = some (.putfield 150, 3, 0, 4, 113) := rfl
theorem f_Ru_enter_5 : fetch 150 5 = some (.aload_n 1, 1, 0, 0, 0) := rfl
theorem f_Ru_enter_6 : fetch 150 6 = some (.aload_n 1, 1, 0, 0, 0) := rfl
theorem f_Ru_enter_7 : fetch 150 7 = some (.getfield 80, 3, 0, 1, 110) := rfl
theorem f_Ru_enter_10 : fetch 150 10 = some (.getfield 239, 3, 2, 7, 120) := rfl
theorem f_Ru_enter_13 : fetch 150 13 = some (.iload_n 2, 1, 0, 0, 0) := rfl
theorem f_Ru_enter_14 : fetch 150 14 = some (.aaload, 1, 0, 0, 0) := rfl
theorem f_Ru_enter_15 : fetch 150 15 = some (.getfield 274, 3, 4, 1, 122) := rfl
theorem f_Ru_enter_18 : fetch 150 18 = some (.putfield 83, 3, 0, 3, 111) := rfl
theorem f_Ru_enter_21 : fetch 150 21 = some (.aload_n 1, 1, 0, 0, 0) := rfl
theorem f_Ru_enter_22 : fetch 150 22 = some (.getfield 280, 3, 0, 2, 123) := rfl
theorem f_Ru_enter_25 : fetch 150 25 = some (.istore_n 3, 1, 0, 0, 0) := rfl
theorem f_Ru_enter_26 : fetch 150 26 = some (.iload_n 3, 1, 0, 0, 0) := rfl
theorem f_Ru_enter_27 : fetch 150 27 = some (.ifCond .lt 23, 3, 50, 0, 0) := rfl
theorem f_Ru_enter_30 : fetch 150 30 = some (.iload_n 3, 1, 0, 0, 0) := rfl
theorem f_Ru_enter_31 : fetch 150 31 = some (.bipush 6, 2, 0, 0, 0) := rfl
theorem f_Ru_enter_33 : fetch 150 33 = some (.if_icmp .ge 17, 3, 50, 0, 0) := rfl
theorem f_Ru_enter_36 : fetch 150 36 = some (.aload_n 0, 1, 0, 0, 0) := rfl
theorem f_Ru_enter_37 : fetch 150 37 = some (.getfield 38, 3, 5, 4, 104) := rfl
theorem f_Ru_enter_40 : fetch 150 40 = some (.iload_n 3, 1, 0, 0, 0) := rfl
theorem f_Ru_enter_41 : fetch 150 41 = some (.iconst 3, 1, 0, 0, 0) := rfl
theorem f_Ru_enter_42 : fetch 150 42 = some (.imul, 1, 0, 0, 0) := rfl
theorem f_Ru_enter_43 : fetch 150 43 = some (.iload_n 2, 1, 0, 0, 0) := rfl
theorem f_Ru_enter_44 : fetch 150 44 = some (.iadd, 1, 0, 0, 0) := rfl
theorem f_Ru_enter_45 : fetch 150 45 = some (.dup2, 1, 0, 0, 0) := rfl
theorem f_Ru_enter_46 : fetch 150 46 = some (.iaload, 1, 0, 0, 0) := rfl
theorem f_Ru_enter_47 : fetch 150 47 = some (.iconst 1, 1, 0, 0, 0) := rfl
theorem f_Ru_enter_48 : fetch 150 48 = some (.iadd, 1, 0, 0, 0) := rfl
theorem f_Ru_enter_49 : fetch 150 49 = some (.iastore, 1, 0, 0, 0) := rfl
theorem f_Ru_enter_50 : fetch 150 50 = some (.return_, 1, 0, 0, 0) := rfl
def F_Ru_enter_50   (σ : SG) : Option (SG) :=
  some σ
set_option maxHeartbeats 4000000 in
theorem w_Ru_enter_50 {b d : Nat} {sc : SC} {pre tl : List PE} {B : Nat} {Q : Option Value → List PE → Prop} {res : SG} (hB : B = b + pre.length)   (hQ : Q none (HH pre tl SHc B res)) (lv : LV) (σ : SG)   (hF : F_Ru_enter_50   σ = some res) : Rn b sc d 150 50 lv [] (HH pre tl SHc B σ) Q := by
  unfold F_Ru_enter_50 at hF
  cases hF
  exact r_return f_Ru_enter_50 hQ
def F_Ru_enter (a0 : Nat) (a1 : Nat) (a2 : Int32) (σ : SG) : Option (SG) :=
  stl (setI σ (a1) 4 ((0 : Int32))) fun s1 =>
  if isC SHc ((s1.2.2.1 (a1) 1)) 2 = true then
  if a2 < 0 ∨ 3 ≤ (a2).toNatClampNeg then none else
  stl (setI s1 (a1) 3 ((s1.1 ((relem SHc ((cref SHc ((s1.2.2.1 (a1) 1)) 7)) ((a2).toNatClampNeg))) 1))) fun s4 =>
  if (s4.1 (a1) 2) < 0 then
  F_Ru_enter_50 s4
  else if (6 : Int32) ≤ (s4.1 (a1) 2) then
  F_Ru_enter_50 s4
  else if (((s4.1 (a1) 2) * (3 : Int32)) + a2) < 0 ∨ 18 ≤ ((((s4.1 (a1) 2) * (3 : Int32)) + a2)).toNatClampNeg then none else
  if (((s4.1 (a1) 2) * (3 : Int32)) + a2) < 0 ∨ 18 ≤ ((((s4.1 (a1) 2) * (3 : Int32)) + a2)).toNatClampNeg then none else
  stl (setA s4 ((cref SHc (a0) 4)) (((((s4.1 (a1) 2) * (3 : Int32)) + a2)).toNatClampNeg) (((s4.2.2.2.1 ((cref SHc (a0) 4)) (((((s4.1 (a1) 2) * (3 : Int32)) + a2)).toNatClampNeg)) + (1 : Int32)))) fun s9 =>
  F_Ru_enter_50 s9
  else none
set_option maxHeartbeats 4000000 in
theorem w_Ru_enter {b d : Nat} {pre tl : List PE} {B : Nat} {Q : Option Value → List PE → Prop} {res : SG} (hB : B = b + pre.length)  {σ : SG} (a0 : Nat) (a1 : Nat) (a2 : Int32) (ha0 : isC SHc (a0) 5 = true) (ha1 : isC SHc (a1) 0 = true) (hF : F_Ru_enter a0 a1 a2 σ = some res) (hQ : Q none (HH pre tl SHc B res)) : Cl b d 150 [.ref (B + (a0)), .ref (B + (a1)), .int (a2)] (HH pre tl SHc B σ) Q := by
  unfold Cl
  unfold F_Ru_enter at hF
  refine r_aload_n f_Ru_enter_0 rfl ?_
  refine r_iconst f_Ru_enter_1 (v := 0) (by decide) ?_
  refine t_puti hB ha1 f_Ru_enter_2 rfl rfl ?_
  generalize hs1 : setI σ (a1) 4 ((0 : Int32)) = s1 at hF ⊢
  rw [stl_eq] at hF
  refine r_aload_n f_Ru_enter_5 rfl ?_
  refine r_aload_n f_Ru_enter_6 rfl ?_
  by_cases c2 : isC SHc ((s1.2.2.1 (a1) 1)) 2 = true
  case neg => rw [if_neg c2] at hF; cases hF
  rw [if_pos c2] at hF
  refine t_getm hB ha1 f_Ru_enter_7 rfl ?_
  refine t_getc hB c2 f_Ru_enter_10 rfl ?_
  refine r_iload_n f_Ru_enter_13 rfl ?_
  by_cases c3 : a2 < 0 ∨ 3 ≤ (a2).toNatClampNeg
  · rw [if_pos c3] at hF; cases hF
  rw [if_neg c3] at hF
  refine t_aald hB (cc_2_7 c2) (by decide) f_Ru_enter_14 c3 ?_
  refine t_geti hB (re_4 (cc_2_7 c2) (nlt c3)) f_Ru_enter_15 rfl ?_
  refine t_puti hB ha1 f_Ru_enter_18 rfl rfl ?_
  generalize hs4 : setI s1 (a1) 3 ((s1.1 ((relem SHc ((cref SHc ((s1.2.2.1 (a1) 1)) 7)) ((a2).toNatClampNeg))) 1)) = s4 at hF ⊢
  rw [stl_eq] at hF
  refine r_aload_n f_Ru_enter_21 rfl ?_
  refine t_geti hB ha1 f_Ru_enter_22 rfl ?_
  refine r_istore_n f_Ru_enter_25 ?_
  refine r_iload_n f_Ru_enter_26 lk_put ?_
  refine r_if_lt f_Ru_enter_27 (fun c5 => ?_) (fun c5 => ?_)
  · rw [if_pos c5] at hF
    exact w_Ru_enter_50 hB   hQ _ (s4) hF
  · rw [if_neg c5] at hF
    refine r_iload_n f_Ru_enter_30 lk_put ?_
    refine r_bipush f_Ru_enter_31 (v := 6) (by decide) ?_
    refine r_icmp_ge f_Ru_enter_33 (fun c6 => ?_) (fun c6 => ?_)
    · rw [if_pos c6] at hF
      exact w_Ru_enter_50 hB   hQ _ (s4) hF
    · rw [if_neg c6] at hF
      refine r_aload_n f_Ru_enter_36 (lk_put_ne rfl (by decide) (Or.inl rfl)) ?_
      refine t_getc hB ha0 f_Ru_enter_37 rfl ?_
      refine r_iload_n f_Ru_enter_40 lk_put ?_
      refine r_iconst f_Ru_enter_41 (v := 3) (by decide) ?_
      refine r_imul f_Ru_enter_42 ?_
      refine r_iload_n f_Ru_enter_43 (lk_put_ne rfl (by decide) (Or.inl rfl)) ?_
      refine r_iadd f_Ru_enter_44 ?_
      refine r_dup2 f_Ru_enter_45 ⟨rfl, rfl⟩ ?_
      by_cases c7 : (((s4.1 (a1) 2) * (3 : Int32)) + a2) < 0 ∨ 18 ≤ ((((s4.1 (a1) 2) * (3 : Int32)) + a2)).toNatClampNeg
      · rw [if_pos c7] at hF; cases hF
      rw [if_neg c7] at hF
      refine t_iald hB (cc_5_4 ha0) f_Ru_enter_46 c7 ?_
      refine r_iconst f_Ru_enter_47 (v := 1) (by decide) ?_
      refine r_iadd f_Ru_enter_48 ?_
      by_cases c8 : (((s4.1 (a1) 2) * (3 : Int32)) + a2) < 0 ∨ 18 ≤ ((((s4.1 (a1) 2) * (3 : Int32)) + a2)).toNatClampNeg
      · rw [if_pos c8] at hF; cases hF
      rw [if_neg c8] at hF
      refine t_iast hB (cc_5_4 ha0) f_Ru_enter_49 c8 ?_
      generalize hs9 : setA s4 ((cref SHc (a0) 4)) (((((s4.1 (a1) 2) * (3 : Int32)) + a2)).toNatClampNeg) (((s4.2.2.2.1 ((cref SHc (a0) 4)) (((((s4.1 (a1) 2) * (3 : Int32)) + a2)).toNatClampNeg)) + (1 : Int32))) = s9 at hF ⊢
      rw [stl_eq] at hF
      exact w_Ru_enter_50 hB   hQ _ (s9) hF
theorem f_Ru_leave_0 : fetch 149 0 = some (.aload_n 1, 1, 0, 0, 0) := rfl
theorem f_Ru_leave_1 : fetch 149 1 = some (.iconst 0, 1, 0, 0, 0) := rfl
theorem f_Ru_leave_2 : fetch 149 2 = some (.putfield 150, 3, 0, 4, 113) := rfl
theorem f_Ru_leave_5 : fetch 149 5 = some (.iload 4, 2, 0, 0, 0) := rfl
theorem f_Ru_leave_7 : fetch 149 7 = some (.istore 5, 2, 0, 0, 0) := rfl
theorem f_Ru_leave_9 : fetch 149 9 = some (.iload 5, 2, 0, 0, 0) := rfl
theorem f_Ru_leave_11 : fetch 149 11 = some (.aload_n 1, 1, 0, 0, 0) := rfl
theorem f_Ru_leave_12 : fetch 149 12 = some (.getfield 80, 3, 0, 1, 110) := rfl
theorem f_Ru_leave_15 : fetch 149 15 = some (.getfield 236, 3, 2, 3, 119) := rfl
theorem f_Ru_leave_18 : fetch 149 18 = some (.if_icmp .ge 65, 3, 83, 0, 0) := rfl
theorem f_Ru_leave_21 : fetch 149 21 = some (.aload_n 1, 1, 0, 0, 0) := rfl
theorem f_Ru_leave_22 : fetch 149 22 = some (.getfield 80, 3, 0, 1, 110) := rfl
theorem f_Ru_leave_25 : fetch 149 25 = some (.getfield 239, 3, 2, 7, 120) := rfl
theorem f_Ru_leave_28 : fetch 149 28 = some (.iload 5, 2, 0, 0, 0) := rfl
theorem f_Ru_leave_30 : fetch 149 30 = some (.aaload, 1, 0, 0, 0) := rfl
theorem f_Ru_leave_31 : fetch 149 31 = some (.astore 6, 2, 0, 0, 0) := rfl
theorem f_Ru_leave_33 : fetch 149 33 = some (.aload 6, 2, 0, 0, 0) := rfl
theorem f_Ru_leave_35 : fetch 149 35 = some (.getfield 243, 3, 4, 3, 121) := rfl
theorem f_Ru_leave_38 : fetch 149 38 = some (.ifCond .eq 39, 3, 77, 0, 0) := rfl
theorem f_Ru_leave_41 : fetch 149 41 = some (.aload 6, 2, 0, 0, 0) := rfl
theorem f_Ru_leave_43 : fetch 149 43 = some (.iload_n 3, 1, 0, 0, 0) := rfl
theorem f_Ru_leave_44 : fetch 149 44 = some (.invokevirtual 248, 3, 116, 1, 155) := rfl
theorem f_Ru_leave_47 : fetch 149 47 = some (.ifCond .eq 30, 3, 77, 0, 0) := rfl
theorem f_Ru_leave_50 : fetch 149 50 = some (.aload 6, 2, 0, 0, 0) := rfl
theorem f_Ru_leave_52 : fetch 149 52 = some (.iload_n 2, 1, 0, 0, 0) := rfl
theorem f_Ru_leave_53 : fetch 149 53 = some (.invokevirtual 248, 3, 116, 1, 155) := rfl
theorem f_Ru_leave_56 : fetch 149 56 = some (.ifCond .ne 21, 3, 77, 0, 0) := rfl
theorem f_Ru_leave_59 : fetch 149 59 = some (.aload_n 0, 1, 0, 0, 0) := rfl
theorem f_Ru_leave_60 : fetch 149 60 = some (.aload_n 1, 1, 0, 0, 0) := rfl
theorem f_Ru_leave_61 : fetch 149 61 = some (.iload 5, 2, 0, 0, 0) := rfl
theorem f_Ru_leave_63 : fetch 149 63 = some (.invokevirtual 251, 3, 150, 2, 156) := rfl
theorem f_Ru_leave_66 : fetch 149 66 = some (.aload_n 1, 1, 0, 0, 0) := rfl
theorem f_Ru_leave_67 : fetch 149 67 = some (.iload 5, 2, 0, 0, 0) := rfl
theorem f_Ru_leave_69 : fetch 149 69 = some (.iconst 2, 1, 0, 0, 0) := rfl
theorem f_Ru_leave_70 : fetch 149 70 = some (.iload_n 2, 1, 0, 0, 0) := rfl
theorem f_Ru_leave_71 : fetch 149 71 = some (.iload_n 3, 1, 0, 0, 0) := rfl
theorem f_Ru_leave_72 : fetch 149 72 = some (.invokevirtual 255, 3, 9, 4, 157) := rfl
theorem f_Ru_leave_75 : fetch 149 75 = some (.iconst 0, 1, 0, 0, 0) := rfl
theorem f_Ru_leave_76 : fetch 149 76 = some (.ireturn, 1, 2, 0, 0) := rfl
theorem f_Ru_leave_77 : fetch 149 77 = some (.iinc 5 1, 3, 0, 0, 0) := rfl
theorem f_Ru_leave_80 : fetch 149 80 = some (.goto (-71), 3, 9, 0, 0) := rfl
theorem f_Ru_leave_83 : fetch 149 83 = some (.aload_n 1, 1, 0, 0, 0) := rfl
theorem f_Ru_leave_84 : fetch 149 84 = some (.iload_n 2, 1, 0, 0, 0) := rfl
theorem f_Ru_leave_85 : fetch 149 85 = some (.putfield 83, 3, 0, 3, 111) := rfl
theorem f_Ru_leave_88 : fetch 149 88 = some (.iconst 0, 1, 0, 0, 0) := rfl
theorem f_Ru_leave_89 : fetch 149 89 = some (.ireturn, 1, 2, 0, 0) := rfl
def F_Ru_leave_77 (rec9 : Nat → Nat → Int32 → Int32 → Int32 → SG → Option (Bool × SG)) (x0 : Nat) (x1 : Nat) (x2 : Int32) (x3 : Int32) (x5 : Int32) (σ : SG) : Option (Bool × SG) :=
  rec9 (x0) (x1) (x2) (x3) ((x5 + 1)) σ
set_option maxHeartbeats 4000000 in
theorem w_Ru_leave_77 {b d : Nat} {sc : SC} {pre tl : List PE} {B : Nat} {Q : Option Value → List PE → Prop} {res : Bool × SG} (hB : B = b + pre.length) (hd : 1 ≤ d) {rec9 : Nat → Nat → Int32 → Int32 → Int32 → SG → Option (Bool × SG)} (hr9 : ∀ (lv : LV) (σ : SG) (x0 : Nat) (x1 : Nat) (x2 : Int32) (x3 : Int32) (x5 : Int32), isC SHc (x0) 5 = true → isC SHc (x1) 0 = true → lv.lookup 0 = some (.ref (B + (x0))) → lv.lookup 1 = some (.ref (B + (x1))) → lv.lookup 2 = some (.int (x2)) → lv.lookup 3 = some (.int (x3)) → lv.lookup 5 = some (.int (x5)) →  rec9 x0 x1 x2 x3 x5 σ = some res → Rn b sc d 149 9 lv [] (HH pre tl SHc B σ) Q) (hQ : Q (some (.int (bz res.1))) (HH pre tl SHc B res.2)) (lv : LV) (σ : SG) (x0 : Nat) (x1 : Nat) (x2 : Int32) (x3 : Int32) (x5 : Int32) (hx0 : isC SHc (x0) 5 = true) (hx1 : isC SHc (x1) 0 = true) (l0 : lv.lookup 0 = some (.ref (B + (x0)))) (l1 : lv.lookup 1 = some (.ref (B + (x1)))) (l2 : lv.lookup 2 = some (.int (x2))) (l3 : lv.lookup 3 = some (.int (x3))) (l5 : lv.lookup 5 = some (.int (x5))) (hF : F_Ru_leave_77 rec9 x0 x1 x2 x3 x5 σ = some res) : Rn b sc d 149 77 lv [] (HH pre tl SHc B σ) Q := by
  obtain ⟨e0, rfl⟩ : ∃ e, d = e + 1 := ⟨d - 1, by omega⟩
  unfold F_Ru_leave_77 at hF
  refine r_iinc f_Ru_leave_77 l5 (w := x5 + 1) rfl ?_
  refine r_goto f_Ru_leave_80 ?_
  exact hr9 _ (σ) (x0) (x1) (x2) (x3) ((x5 + 1)) hx0 hx1 (lk_put_ne l0 (by decide) (Or.inl rfl)) (lk_put_ne l1 (by decide) (Or.inl rfl)) (lk_put_ne l2 (by decide) (Or.inl rfl)) (lk_put_ne l3 (by decide) (Or.inl rfl)) lk_put hF
def F_Ru_leave_9  : Nat → Nat → Nat → Int32 → Int32 → Int32 → SG → Option (Bool × SG)
  | 0, _, _, _, _, _, _ => none
  | n + 1, x0, x1, x2, x3, x5, σ =>
  if isC SHc ((σ.2.2.1 (x1) 1)) 2 = true then
  if (σ.1 ((σ.2.2.1 (x1) 1)) 3) ≤ x5 then
  stl (setI σ (x1) 3 (x2)) fun s3 =>
  some (false, s3)
  else if isC SHc ((σ.2.2.1 (x1) 1)) 2 = true then
  if x5 < 0 ∨ 3 ≤ (x5).toNatClampNeg then none else
  if (zb (σ.1 ((relem SHc ((cref SHc ((σ.2.2.1 (x1) 1)) 7)) ((x5).toNatClampNeg))) 3)) = true then
  match F_Rg_keeps ((relem SHc ((cref SHc ((σ.2.2.1 (x1) 1)) 7)) ((x5).toNatClampNeg))) (x3) σ with
  | none => none
  | some q7 =>
  if q7.1 = true then
  match F_Rg_keeps ((relem SHc ((cref SHc ((σ.2.2.1 (x1) 1)) 7)) ((x5).toNatClampNeg))) (x2) q7.2 with
  | none => none
  | some q9 =>
  if q9.1 = true then
  F_Ru_leave_77 (F_Ru_leave_9  n) (x0) (x1) (x2) (x3) (x5) q9.2
  else match F_Ru_enter (x0) (x1) (x5) q9.2 with
  | none => none
  | some q11 =>
  match F_Fr_keepPending (x1) (x5) ((2 : Int32)) (x2) (x3) q11 with
  | none => none
  | some q12 =>
  some (false, q12)
  else F_Ru_leave_77 (F_Ru_leave_9  n) (x0) (x1) (x2) (x3) (x5) q7.2
  else F_Ru_leave_77 (F_Ru_leave_9  n) (x0) (x1) (x2) (x3) (x5) σ
  else none
  else none
set_option maxHeartbeats 4000000 in
theorem w_Ru_leave_9 {b d : Nat} {sc : SC} {pre tl : List PE} {B : Nat} {Q : Option Value → List PE → Prop} {res : Bool × SG} (hB : B = b + pre.length) (hd : 1 ≤ d)   (hQ : Q (some (.int (bz res.1))) (HH pre tl SHc B res.2)) : ∀ (n : Nat) (lv : LV) (σ : SG) (x0 : Nat) (x1 : Nat) (x2 : Int32) (x3 : Int32) (x5 : Int32), isC SHc (x0) 5 = true → isC SHc (x1) 0 = true → lv.lookup 0 = some (.ref (B + (x0))) → lv.lookup 1 = some (.ref (B + (x1))) → lv.lookup 2 = some (.int (x2)) → lv.lookup 3 = some (.int (x3)) → lv.lookup 5 = some (.int (x5)) → F_Ru_leave_9  n x0 x1 x2 x3 x5 σ = some res → Rn b sc d 149 9 lv [] (HH pre tl SHc B σ) Q := by
  obtain ⟨e0, rfl⟩ : ∃ e, d = e + 1 := ⟨d - 1, by omega⟩
  intro n
  induction n with
  | zero => intro lv σ x0 x1 x2 x3 x5 hx0 hx1 l0 l1 l2 l3 l5 hF; cases hF
  | succ n ih =>
    intro lv σ x0 x1 x2 x3 x5 hx0 hx1 l0 l1 l2 l3 l5 hF
    unfold F_Ru_leave_9 at hF
    refine r_iload f_Ru_leave_9 l5 ?_
    refine r_aload_n f_Ru_leave_11 l1 ?_
    by_cases c1 : isC SHc ((σ.2.2.1 (x1) 1)) 2 = true
    case neg => rw [if_neg c1] at hF; cases hF
    rw [if_pos c1] at hF
    refine t_getm hB hx1 f_Ru_leave_12 rfl ?_
    refine t_geti hB c1 f_Ru_leave_15 rfl ?_
    refine r_icmp_ge f_Ru_leave_18 (fun c2 => ?_) (fun c2 => ?_)
    · rw [if_pos c2] at hF
      refine r_aload_n f_Ru_leave_83 l1 ?_
      refine r_iload_n f_Ru_leave_84 l2 ?_
      refine t_puti hB hx1 f_Ru_leave_85 rfl rfl ?_
      generalize hs3 : setI σ (x1) 3 (x2) = s3 at hF ⊢
      rw [stl_eq] at hF
      refine r_iconst f_Ru_leave_88 (v := 0) (by decide) ?_
      cases hF
      exact r_zreturn f_Ru_leave_89 (bz_or (false)) hQ
    · rw [if_neg c2] at hF
      refine r_aload_n f_Ru_leave_21 l1 ?_
      by_cases c4 : isC SHc ((σ.2.2.1 (x1) 1)) 2 = true
      case neg => rw [if_neg c4] at hF; cases hF
      rw [if_pos c4] at hF
      refine t_getm hB hx1 f_Ru_leave_22 rfl ?_
      refine t_getc hB c4 f_Ru_leave_25 rfl ?_
      refine r_iload f_Ru_leave_28 l5 ?_
      by_cases c5 : x5 < 0 ∨ 3 ≤ (x5).toNatClampNeg
      · rw [if_pos c5] at hF; cases hF
      rw [if_neg c5] at hF
      refine t_aald hB (cc_2_7 c4) (by decide) f_Ru_leave_30 c5 ?_
      refine r_astore f_Ru_leave_31 ?_
      refine r_aload f_Ru_leave_33 lk_put ?_
      refine t_getz hB (re_4 (cc_2_7 c4) (nlt c5)) f_Ru_leave_35 rfl ?_
      refine r_if_eq f_Ru_leave_38 (fun c6 => ?_) (fun c6 => ?_)
      · rw [if_neg (bz_nt c6)] at hF
        exact w_Ru_leave_77 hB hd (ih) hQ _ (σ) (x0) (x1) (x2) (x3) (x5) hx0 hx1 (lk_put_ne l0 (by decide) (Or.inl rfl)) (lk_put_ne l1 (by decide) (Or.inl rfl)) (lk_put_ne l2 (by decide) (Or.inl rfl)) (lk_put_ne l3 (by decide) (Or.inl rfl)) (lk_put_ne l5 (by decide) (Or.inl rfl)) hF
      · rw [if_pos (bz_t c6)] at hF
        refine r_aload f_Ru_leave_41 lk_put ?_
        refine r_iload_n f_Ru_leave_43 (lk_put_ne l3 (by decide) (Or.inl rfl)) ?_
        cases hq7 : F_Rg_keeps ((relem SHc ((cref SHc ((σ.2.2.1 (x1) 1)) 7)) ((x5).toNatClampNeg))) (x3) σ with
        | none => simp only [hq7] at hF; cases hF
        | some q7 =>
          simp only [hq7] at hF
          refine t_V1i hB (re_4 (cc_2_7 c4) (nlt c5)) rfl rfl f_Ru_leave_44 (by decide) (Nat.le_of_ble_eq_true rfl) (Nat.le_of_ble_eq_true rfl) (w_Rg_keeps hB  ((relem SHc ((cref SHc ((σ.2.2.1 (x1) 1)) 7)) ((x5).toNatClampNeg))) (x3) (re_4 (cc_2_7 c4) (nlt c5)) hq7 ⟨_, rfl, ?_⟩)
          refine r_if_eq f_Ru_leave_47 (fun c8 => ?_) (fun c8 => ?_)
          · rw [if_neg (bz_nt c8)] at hF
            exact w_Ru_leave_77 hB hd (ih) hQ _ (q7.2) (x0) (x1) (x2) (x3) (x5) hx0 hx1 (lk_put_ne l0 (by decide) (Or.inl rfl)) (lk_put_ne l1 (by decide) (Or.inl rfl)) (lk_put_ne l2 (by decide) (Or.inl rfl)) (lk_put_ne l3 (by decide) (Or.inl rfl)) (lk_put_ne l5 (by decide) (Or.inl rfl)) hF
          · rw [if_pos (bz_t c8)] at hF
            refine r_aload f_Ru_leave_50 lk_put ?_
            refine r_iload_n f_Ru_leave_52 (lk_put_ne l2 (by decide) (Or.inl rfl)) ?_
            cases hq9 : F_Rg_keeps ((relem SHc ((cref SHc ((σ.2.2.1 (x1) 1)) 7)) ((x5).toNatClampNeg))) (x2) q7.2 with
            | none => simp only [hq9] at hF; cases hF
            | some q9 =>
              simp only [hq9] at hF
              refine t_V1i hB (re_4 (cc_2_7 c4) (nlt c5)) rfl rfl f_Ru_leave_53 (by decide) (Nat.le_of_ble_eq_true rfl) (Nat.le_of_ble_eq_true rfl) (w_Rg_keeps hB  ((relem SHc ((cref SHc ((σ.2.2.1 (x1) 1)) 7)) ((x5).toNatClampNeg))) (x2) (re_4 (cc_2_7 c4) (nlt c5)) hq9 ⟨_, rfl, ?_⟩)
              refine r_if_ne f_Ru_leave_56 (fun c10 => ?_) (fun c10 => ?_)
              · rw [if_pos (bz_t c10)] at hF
                exact w_Ru_leave_77 hB hd (ih) hQ _ (q9.2) (x0) (x1) (x2) (x3) (x5) hx0 hx1 (lk_put_ne l0 (by decide) (Or.inl rfl)) (lk_put_ne l1 (by decide) (Or.inl rfl)) (lk_put_ne l2 (by decide) (Or.inl rfl)) (lk_put_ne l3 (by decide) (Or.inl rfl)) (lk_put_ne l5 (by decide) (Or.inl rfl)) hF
              · rw [if_neg (bz_nt (Decidable.not_not.mp c10))] at hF
                refine r_aload_n f_Ru_leave_59 (lk_put_ne l0 (by decide) (Or.inl rfl)) ?_
                refine r_aload_n f_Ru_leave_60 (lk_put_ne l1 (by decide) (Or.inl rfl)) ?_
                refine r_iload f_Ru_leave_61 (lk_put_ne l5 (by decide) (Or.inl rfl)) ?_
                cases hq11 : F_Ru_enter (x0) (x1) (x5) q9.2 with
                | none => simp only [hq11] at hF; cases hF
                | some q11 =>
                  simp only [hq11] at hF
                  refine t_V2v hB hx0 rfl rfl f_Ru_leave_63 (by decide) (Nat.le_of_ble_eq_true rfl) (Nat.le_of_ble_eq_true rfl) (w_Ru_enter hB  (x0) (x1) (x5) hx0 hx1 hq11 ⟨rfl, ?_⟩)
                  refine r_aload_n f_Ru_leave_66 (lk_put_ne l1 (by decide) (Or.inl rfl)) ?_
                  refine r_iload f_Ru_leave_67 (lk_put_ne l5 (by decide) (Or.inl rfl)) ?_
                  refine r_iconst f_Ru_leave_69 (v := 2) (by decide) ?_
                  refine r_iload_n f_Ru_leave_70 (lk_put_ne l2 (by decide) (Or.inl rfl)) ?_
                  refine r_iload_n f_Ru_leave_71 (lk_put_ne l3 (by decide) (Or.inl rfl)) ?_
                  cases hq12 : F_Fr_keepPending (x1) (x5) ((2 : Int32)) (x2) (x3) q11 with
                  | none => simp only [hq12] at hF; cases hF
                  | some q12 =>
                    simp only [hq12] at hF
                    refine t_V4v hB hx1 rfl rfl f_Ru_leave_72 (by decide) (Nat.le_of_ble_eq_true rfl) (Nat.le_of_ble_eq_true rfl) (w_Fr_keepPending hB  (x1) (x5) ((2 : Int32)) (x2) (x3) hx1 hq12 ⟨rfl, ?_⟩)
                    refine r_iconst f_Ru_leave_75 (v := 0) (by decide) ?_
                    cases hF
                    exact r_zreturn f_Ru_leave_76 (bz_or (false)) hQ
def F_Ru_leave (a0 : Nat) (a1 : Nat) (a2 : Int32) (a3 : Int32) (a4 : Int32) (σ : SG) : Option (Bool × SG) :=
  stl (setI σ (a1) 4 ((0 : Int32))) fun s13 =>
  F_Ru_leave_9  5000 (a0) (a1) (a2) (a3) (a4) s13
set_option maxHeartbeats 4000000 in
theorem w_Ru_leave {b d : Nat} {pre tl : List PE} {B : Nat} {Q : Option Value → List PE → Prop} {res : Bool × SG} (hB : B = b + pre.length) (hd : 1 ≤ d)  {σ : SG} (a0 : Nat) (a1 : Nat) (a2 : Int32) (a3 : Int32) (a4 : Int32) (ha0 : isC SHc (a0) 5 = true) (ha1 : isC SHc (a1) 0 = true) (hF : F_Ru_leave a0 a1 a2 a3 a4 σ = some res) (hQ : Q (some (.int (bz res.1))) (HH pre tl SHc B res.2)) : Cl b d 149 [.ref (B + (a0)), .ref (B + (a1)), .int (a2), .int (a3), .int (a4)] (HH pre tl SHc B σ) Q := by
  obtain ⟨e0, rfl⟩ : ∃ e, d = e + 1 := ⟨d - 1, by omega⟩
  unfold Cl
  unfold F_Ru_leave at hF
  refine r_aload_n f_Ru_leave_0 rfl ?_
  refine r_iconst f_Ru_leave_1 (v := 0) (by decide) ?_
  refine t_puti hB ha1 f_Ru_leave_2 rfl rfl ?_
  generalize hs13 : setI σ (a1) 4 ((0 : Int32)) = s13 at hF ⊢
  rw [stl_eq] at hF
  refine r_iload f_Ru_leave_5 rfl ?_
  refine r_istore f_Ru_leave_7 ?_
  exact w_Ru_leave_9 hB hd  hQ 5000 _ (s13) (a0) (a1) (a2) (a3) (a4) ha0 ha1 (lk_put_ne rfl (by decide) (Or.inl rfl)) (lk_put_ne rfl (by decide) (Or.inl rfl)) (lk_put_ne rfl (by decide) (Or.inl rfl)) (lk_put_ne rfl (by decide) (Or.inl rfl)) lk_put hF
theorem f_Ru_finish_0 : fetch 151 0 = some (.aload_n 1, 1, 0, 0, 0) := rfl
theorem f_Ru_finish_1 : fetch 151 1 = some (.getfield 80, 3, 0, 1, 110) := rfl
theorem f_Ru_finish_4 : fetch 151 4 = some (.aload_n 1, 1, 0, 0, 0) := rfl
theorem f_Ru_finish_5 : fetch 151 5 = some (.getfield 83, 3, 0, 3, 111) := rfl
theorem f_Ru_finish_8 : fetch 151 8 = some (.invokevirtual 259, 3, 25, 1, 158) := rfl
theorem f_Ru_finish_11 : fetch 151 11 = some (.istore_n 2, 1, 0, 0, 0) := rfl
theorem f_Ru_finish_12 : fetch 151 12 = some (.iload_n 2, 1, 0, 0, 0) := rfl
theorem f_Ru_finish_13 : fetch 151 13 = some (.ifCond .ge 7, 3, 20, 0, 0) := rfl
theorem f_Ru_finish_16 : fetch 151 16 = some (.iconst 0, 1, 0, 0, 0) := rfl
theorem f_Ru_finish_17 : fetch 151 17 = some (.goto 9, 3, 26, 0, 0) := rfl
theorem f_Ru_finish_20 : fetch 151 20 = some (.aload_n 1, 1, 0, 0, 0) := rfl
theorem f_Ru_finish_21 : fetch 151 21 = some (.getfield 262, 3, 0, 7, 124) := rfl
theorem f_Ru_finish_24 : fetch 151 24 = some (.iload_n 2, 1, 0, 0, 0) := rfl
theorem f_Ru_finish_25 : fetch 151 25 = some (.iaload, 1, 0, 0, 0) := rfl
theorem f_Ru_finish_26 : fetch 151 26 = some (.istore_n 3, 1, 0, 0, 0) := rfl
theorem f_Ru_finish_27 : fetch 151 27 = some (.iload_n 3, 1, 0, 0, 0) := rfl
theorem f_Ru_finish_28 : fetch 151 28 = some (.ifCond .ne 5, 3, 33, 0, 0) := rfl
theorem f_Ru_finish_31 : fetch 151 31 = some (.iconst 0, 1, 0, 0, 0) := rfl
theorem f_Ru_finish_32 : fetch 151 32 = some (.ireturn, 1, 2, 0, 0) := rfl
theorem f_Ru_finish_33 : fetch 151 33 = some (.aload_n 1, 1, 0, 0, 0) := rfl
theorem f_Ru_finish_34 : fetch 151 34 = some (.getfield 262, 3, 0, 7, 124) := rfl
theorem f_Ru_finish_37 : fetch 151 37 = some (.iload_n 2, 1, 0, 0, 0) := rfl
theorem f_Ru_finish_38 : fetch 151 38 = some (.iconst 0, 1, 0, 0, 0) := rfl
theorem f_Ru_finish_39 : fetch 151 39 = some (.iastore, 1, 0, 0, 0) := rfl
theorem f_Ru_finish_40 : fetch 151 40 = some (.iload_n 3, 1, 0, 0, 0) := rfl
theorem f_Ru_finish_41 : fetch 151 41 = some (.iconst 1, 1, 0, 0, 0) := rfl
theorem f_Ru_finish_42 : fetch 151 42 = some (.if_icmp .ne 23, 3, 65, 0, 0) := rfl
theorem f_Ru_finish_45 : fetch 151 45 = some (.aload_n 0, 1, 0, 0, 0) := rfl
theorem f_Ru_finish_46 : fetch 151 46 = some (.aload_n 1, 1, 0, 0, 0) := rfl
theorem f_Ru_finish_47 : fetch 151 47 = some (.getfield 265, 3, 0, 8, 125) := rfl
theorem f_Ru_finish_50 : fetch 151 50 = some (.iload_n 2, 1, 0, 0, 0) := rfl
theorem f_Ru_finish_51 : fetch 151 51 = some (.iaload, 1, 0, 0, 0) := rfl
theorem f_Ru_finish_52 : fetch 151 52 = some (.aload_n 1, 1, 0, 0, 0) := rfl
theorem f_Ru_finish_53 : fetch 151 53 = some (.getfield 268, 3, 0, 9, 126) := rfl
theorem f_Ru_finish_56 : fetch 151 56 = some (.iload_n 2, 1, 0, 0, 0) := rfl
theorem f_Ru_finish_57 : fetch 151 57 = some (.iaload, 1, 0, 0, 0) := rfl
theorem f_Ru_finish_58 : fetch 151 58 = some (.iload_n 2, 1, 0, 0, 0) := rfl
theorem f_Ru_finish_59 : fetch 151 59 = some (.iconst 1, 1, 0, 0, 0) := rfl
theorem f_Ru_finish_60 : fetch 151 60 = some (.iadd, 1, 0, 0, 0) := rfl
theorem f_Ru_finish_61 : fetch 151 61 = some (.invokevirtual 116, 3, 129, 3, 138) := rfl
theorem f_Ru_finish_64 : fetch 151 64 = some (.ireturn, 1, 2, 0, 0) := rfl
theorem f_Ru_finish_65 : fetch 151 65 = some (.aload_n 0, 1, 0, 0, 0) := rfl
theorem f_Ru_finish_66 : fetch 151 66 = some (.aload_n 1, 1, 0, 0, 0) := rfl
theorem f_Ru_finish_67 : fetch 151 67 = some (.aload_n 1, 1, 0, 0, 0) := rfl
theorem f_Ru_finish_68 : fetch 151 68 = some (.getfield 265, 3, 0, 8, 125) := rfl
theorem f_Ru_finish_71 : fetch 151 71 = some (.iload_n 2, 1, 0, 0, 0) := rfl
theorem f_Ru_finish_72 : fetch 151 72 = some (.iaload, 1, 0, 0, 0) := rfl
theorem f_Ru_finish_73 : fetch 151 73 = some (.aload_n 1, 1, 0, 0, 0) := rfl
theorem f_Ru_finish_74 : fetch 151 74 = some (.getfield 268, 3, 0, 9, 126) := rfl
theorem f_Ru_finish_77 : fetch 151 77 = some (.iload_n 2, 1, 0, 0, 0) := rfl
theorem f_Ru_finish_78 : fetch 151 78 = some (.iaload, 1, 0, 0, 0) := rfl
theorem f_Ru_finish_79 : fetch 151 79 = some (.iload_n 2, 1, 0, 0, 0) := rfl
theorem f_Ru_finish_80 : fetch 151 80 = some (.iconst 1, 1, 0, 0, 0) := rfl
theorem f_Ru_finish_81 : fetch 151 81 = some (.iadd, 1, 0, 0, 0) := rfl
theorem f_Ru_finish_82 : fetch 151 82 = some (.invokevirtual 213, 3, 149, 4, 151) := rfl
theorem f_Ru_finish_85 : fetch 151 85 = some (.ireturn, 1, 2, 0, 0) := rfl
def F_Ru_finish_26  (x0 : Nat) (x1 : Nat) (x2 : Int32) (y0 : Int32) (σ : SG) : Option (Bool × SG) :=
  if y0 = 0 then
  some (false, σ)
  else if x2 < 0 ∨ 3 ≤ (x2).toNatClampNeg then none else
  stl (setA σ ((cref SHc (x1) 7)) ((x2).toNatClampNeg) ((0 : Int32))) fun s3 =>
  if y0 = (1 : Int32) then
  if x2 < 0 ∨ 3 ≤ (x2).toNatClampNeg then none else
  if x2 < 0 ∨ 3 ≤ (x2).toNatClampNeg then none else
  match F_Ru_raiseFrom (x0) ((s3.2.2.2.1 ((cref SHc (x1) 8)) ((x2).toNatClampNeg))) ((s3.2.2.2.1 ((cref SHc (x1) 9)) ((x2).toNatClampNeg))) ((x2 + (1 : Int32))) s3 with
  | none => none
  | some q10 =>
  some (q10.1, q10.2)
  else if x2 < 0 ∨ 3 ≤ (x2).toNatClampNeg then none else
  if x2 < 0 ∨ 3 ≤ (x2).toNatClampNeg then none else
  match F_Ru_leave (x0) (x1) ((s3.2.2.2.1 ((cref SHc (x1) 8)) ((x2).toNatClampNeg))) ((s3.2.2.2.1 ((cref SHc (x1) 9)) ((x2).toNatClampNeg))) ((x2 + (1 : Int32))) s3 with
  | none => none
  | some q7 =>
  some (q7.1, q7.2)
set_option maxHeartbeats 4000000 in
theorem w_Ru_finish_26 {b d : Nat} {sc : SC} {pre tl : List PE} {B : Nat} {Q : Option Value → List PE → Prop} {res : Bool × SG} (hB : B = b + pre.length) (hd : 2 ≤ d)   (hQ : Q (some (.int (bz res.1))) (HH pre tl SHc B res.2)) (lv : LV) (σ : SG) (x0 : Nat) (x1 : Nat) (x2 : Int32) (y0 : Int32) (hx0 : isC SHc (x0) 5 = true) (hx1 : isC SHc (x1) 0 = true) (l0 : lv.lookup 0 = some (.ref (B + (x0)))) (l1 : lv.lookup 1 = some (.ref (B + (x1)))) (l2 : lv.lookup 2 = some (.int (x2))) (hF : F_Ru_finish_26  x0 x1 x2 y0 σ = some res) : Rn b sc d 151 26 lv [.int (y0)] (HH pre tl SHc B σ) Q := by
  obtain ⟨e0, rfl⟩ : ∃ e, d = e + 1 := ⟨d - 1, by omega⟩
  unfold F_Ru_finish_26 at hF
  refine r_istore_n f_Ru_finish_26 ?_
  refine r_iload_n f_Ru_finish_27 lk_put ?_
  refine r_if_ne f_Ru_finish_28 (fun c1 => ?_) (fun c1 => ?_)
  · rw [if_neg c1] at hF
    refine r_aload_n f_Ru_finish_33 (lk_put_ne l1 (by decide) (Or.inl rfl)) ?_
    refine t_getc hB hx1 f_Ru_finish_34 rfl ?_
    refine r_iload_n f_Ru_finish_37 (lk_put_ne l2 (by decide) (Or.inl rfl)) ?_
    refine r_iconst f_Ru_finish_38 (v := 0) (by decide) ?_
    by_cases c2 : x2 < 0 ∨ 3 ≤ (x2).toNatClampNeg
    · rw [if_pos c2] at hF; cases hF
    rw [if_neg c2] at hF
    refine t_iast hB (cc_0_7 hx1) f_Ru_finish_39 c2 ?_
    generalize hs3 : setA σ ((cref SHc (x1) 7)) ((x2).toNatClampNeg) ((0 : Int32)) = s3 at hF ⊢
    rw [stl_eq] at hF
    refine r_iload_n f_Ru_finish_40 lk_put ?_
    refine r_iconst f_Ru_finish_41 (v := 1) (by decide) ?_
    refine r_icmp_ne f_Ru_finish_42 (fun c4 => ?_) (fun c4 => ?_)
    · rw [if_neg c4] at hF
      refine r_aload_n f_Ru_finish_65 (lk_put_ne l0 (by decide) (Or.inl rfl)) ?_
      refine r_aload_n f_Ru_finish_66 (lk_put_ne l1 (by decide) (Or.inl rfl)) ?_
      refine r_aload_n f_Ru_finish_67 (lk_put_ne l1 (by decide) (Or.inl rfl)) ?_
      refine t_getc hB hx1 f_Ru_finish_68 rfl ?_
      refine r_iload_n f_Ru_finish_71 (lk_put_ne l2 (by decide) (Or.inl rfl)) ?_
      by_cases c5 : x2 < 0 ∨ 3 ≤ (x2).toNatClampNeg
      · rw [if_pos c5] at hF; cases hF
      rw [if_neg c5] at hF
      refine t_iald hB (cc_0_8 hx1) f_Ru_finish_72 c5 ?_
      refine r_aload_n f_Ru_finish_73 (lk_put_ne l1 (by decide) (Or.inl rfl)) ?_
      refine t_getc hB hx1 f_Ru_finish_74 rfl ?_
      refine r_iload_n f_Ru_finish_77 (lk_put_ne l2 (by decide) (Or.inl rfl)) ?_
      by_cases c6 : x2 < 0 ∨ 3 ≤ (x2).toNatClampNeg
      · rw [if_pos c6] at hF; cases hF
      rw [if_neg c6] at hF
      refine t_iald hB (cc_0_9 hx1) f_Ru_finish_78 c6 ?_
      refine r_iload_n f_Ru_finish_79 (lk_put_ne l2 (by decide) (Or.inl rfl)) ?_
      refine r_iconst f_Ru_finish_80 (v := 1) (by decide) ?_
      refine r_iadd f_Ru_finish_81 ?_
      cases hq7 : F_Ru_leave (x0) (x1) ((s3.2.2.2.1 ((cref SHc (x1) 8)) ((x2).toNatClampNeg))) ((s3.2.2.2.1 ((cref SHc (x1) 9)) ((x2).toNatClampNeg))) ((x2 + (1 : Int32))) s3 with
      | none => simp only [hq7] at hF; cases hF
      | some q7 =>
        simp only [hq7] at hF
        refine t_V4i hB hx0 rfl rfl f_Ru_finish_82 (by decide) (Nat.le_of_ble_eq_true rfl) (Nat.le_of_ble_eq_true rfl) (w_Ru_leave hB (by omega) (x0) (x1) ((s3.2.2.2.1 ((cref SHc (x1) 8)) ((x2).toNatClampNeg))) ((s3.2.2.2.1 ((cref SHc (x1) 9)) ((x2).toNatClampNeg))) ((x2 + (1 : Int32))) hx0 hx1 hq7 ⟨_, rfl, ?_⟩)
        cases hF
        exact r_zreturn f_Ru_finish_85 (bz_or (q7.1)) hQ
    · rw [if_pos (Decidable.not_not.mp c4)] at hF
      refine r_aload_n f_Ru_finish_45 (lk_put_ne l0 (by decide) (Or.inl rfl)) ?_
      refine r_aload_n f_Ru_finish_46 (lk_put_ne l1 (by decide) (Or.inl rfl)) ?_
      refine t_getc hB hx1 f_Ru_finish_47 rfl ?_
      refine r_iload_n f_Ru_finish_50 (lk_put_ne l2 (by decide) (Or.inl rfl)) ?_
      by_cases c8 : x2 < 0 ∨ 3 ≤ (x2).toNatClampNeg
      · rw [if_pos c8] at hF; cases hF
      rw [if_neg c8] at hF
      refine t_iald hB (cc_0_8 hx1) f_Ru_finish_51 c8 ?_
      refine r_aload_n f_Ru_finish_52 (lk_put_ne l1 (by decide) (Or.inl rfl)) ?_
      refine t_getc hB hx1 f_Ru_finish_53 rfl ?_
      refine r_iload_n f_Ru_finish_56 (lk_put_ne l2 (by decide) (Or.inl rfl)) ?_
      by_cases c9 : x2 < 0 ∨ 3 ≤ (x2).toNatClampNeg
      · rw [if_pos c9] at hF; cases hF
      rw [if_neg c9] at hF
      refine t_iald hB (cc_0_9 hx1) f_Ru_finish_57 c9 ?_
      refine r_iload_n f_Ru_finish_58 (lk_put_ne l2 (by decide) (Or.inl rfl)) ?_
      refine r_iconst f_Ru_finish_59 (v := 1) (by decide) ?_
      refine r_iadd f_Ru_finish_60 ?_
      cases hq10 : F_Ru_raiseFrom (x0) ((s3.2.2.2.1 ((cref SHc (x1) 8)) ((x2).toNatClampNeg))) ((s3.2.2.2.1 ((cref SHc (x1) 9)) ((x2).toNatClampNeg))) ((x2 + (1 : Int32))) s3 with
      | none => simp only [hq10] at hF; cases hF
      | some q10 =>
        simp only [hq10] at hF
        refine t_V3i hB hx0 rfl rfl f_Ru_finish_61 (by decide) (Nat.le_of_ble_eq_true rfl) (Nat.le_of_ble_eq_true rfl) (w_Ru_raiseFrom hB  (x0) ((s3.2.2.2.1 ((cref SHc (x1) 8)) ((x2).toNatClampNeg))) ((s3.2.2.2.1 ((cref SHc (x1) 9)) ((x2).toNatClampNeg))) ((x2 + (1 : Int32))) hx0 hq10 ⟨_, rfl, ?_⟩)
        cases hF
        exact r_zreturn f_Ru_finish_64 (bz_or (q10.1)) hQ
  · rw [if_pos (Decidable.not_not.mp c1)] at hF
    refine r_iconst f_Ru_finish_31 (v := 0) (by decide) ?_
    cases hF
    exact r_zreturn f_Ru_finish_32 (bz_or (false)) hQ
def F_Ru_finish (a0 : Nat) (a1 : Nat) (σ : SG) : Option (Bool × SG) :=
  if isC SHc ((σ.2.2.1 (a1) 1)) 2 = true then
  match F_Me_finallyAround ((σ.2.2.1 (a1) 1)) ((σ.1 (a1) 3)) σ with
  | none => none
  | some q12 =>
  if 0 ≤ q12.1 then
  if q12.1 < 0 ∨ 3 ≤ (q12.1).toNatClampNeg then none else
  F_Ru_finish_26 (a0) (a1) (q12.1) ((q12.2.2.2.2.1 ((cref SHc (a1) 7)) ((q12.1).toNatClampNeg))) q12.2
  else F_Ru_finish_26 (a0) (a1) (q12.1) ((0 : Int32)) q12.2
  else none
set_option maxHeartbeats 4000000 in
theorem w_Ru_finish {b d : Nat} {pre tl : List PE} {B : Nat} {Q : Option Value → List PE → Prop} {res : Bool × SG} (hB : B = b + pre.length) (hd : 2 ≤ d)  {σ : SG} (a0 : Nat) (a1 : Nat) (ha0 : isC SHc (a0) 5 = true) (ha1 : isC SHc (a1) 0 = true) (hF : F_Ru_finish a0 a1 σ = some res) (hQ : Q (some (.int (bz res.1))) (HH pre tl SHc B res.2)) : Cl b d 151 [.ref (B + (a0)), .ref (B + (a1))] (HH pre tl SHc B σ) Q := by
  obtain ⟨e0, rfl⟩ : ∃ e, d = e + 1 := ⟨d - 1, by omega⟩
  unfold Cl
  unfold F_Ru_finish at hF
  refine r_aload_n f_Ru_finish_0 rfl ?_
  by_cases c11 : isC SHc ((σ.2.2.1 (a1) 1)) 2 = true
  case neg => rw [if_neg c11] at hF; cases hF
  rw [if_pos c11] at hF
  refine t_getm hB ha1 f_Ru_finish_1 rfl ?_
  refine r_aload_n f_Ru_finish_4 rfl ?_
  refine t_geti hB ha1 f_Ru_finish_5 rfl ?_
  cases hq12 : F_Me_finallyAround ((σ.2.2.1 (a1) 1)) ((σ.1 (a1) 3)) σ with
  | none => simp only [hq12] at hF; cases hF
  | some q12 =>
    simp only [hq12] at hF
    refine t_V1i hB c11 rfl rfl f_Ru_finish_8 (by decide) (Nat.le_of_ble_eq_true rfl) (Nat.le_of_ble_eq_true rfl) (w_Me_finallyAround hB (by omega) ((σ.2.2.1 (a1) 1)) ((σ.1 (a1) 3)) c11 hq12 ⟨_, rfl, ?_⟩)
    refine r_istore_n f_Ru_finish_11 ?_
    refine r_iload_n f_Ru_finish_12 lk_put ?_
    refine r_if_ge f_Ru_finish_13 (fun c13 => ?_) (fun c13 => ?_)
    · rw [if_pos c13] at hF
      refine r_aload_n f_Ru_finish_20 (lk_put_ne rfl (by decide) (Or.inl rfl)) ?_
      refine t_getc hB ha1 f_Ru_finish_21 rfl ?_
      refine r_iload_n f_Ru_finish_24 lk_put ?_
      by_cases c14 : q12.1 < 0 ∨ 3 ≤ (q12.1).toNatClampNeg
      · rw [if_pos c14] at hF; cases hF
      rw [if_neg c14] at hF
      refine t_iald hB (cc_0_7 ha1) f_Ru_finish_25 c14 ?_
      exact w_Ru_finish_26 hB hd  hQ _ (q12.2) (a0) (a1) (q12.1) ((q12.2.2.2.2.1 ((cref SHc (a1) 7)) ((q12.1).toNatClampNeg))) ha0 ha1 (lk_put_ne rfl (by decide) (Or.inl rfl)) (lk_put_ne rfl (by decide) (Or.inl rfl)) lk_put hF
    · rw [if_neg c13] at hF
      refine r_iconst f_Ru_finish_16 (v := 0) (by decide) ?_
      refine r_goto f_Ru_finish_17 ?_
      exact w_Ru_finish_26 hB hd  hQ _ (q12.2) (a0) (a1) (q12.1) ((0 : Int32)) ha0 ha1 (lk_put_ne rfl (by decide) (Or.inl rfl)) (lk_put_ne rfl (by decide) (Or.inl rfl)) lk_put hF
theorem f_Ru_doFlow_0 : fetch 144 0 = some (.iload_n 2, 1, 0, 0, 0) := rfl
theorem f_Ru_doFlow_1 : fetch 144 1 = some (.tableswitch 75 33 36 #[31, 38, 44, 53], 31, 76, 0, 0) := rfl
theorem f_Ru_doFlow_32 : fetch 144 32 = some (.aload_n 0, 1, 0, 0, 0) := rfl
theorem f_Ru_doFlow_33 : fetch 144 33 = some (.aload_n 1, 1, 0, 0, 0) := rfl
theorem f_Ru_doFlow_34 : fetch 144 34 = some (.iload_n 3, 1, 0, 0, 0) := rfl
theorem f_Ru_doFlow_35 : fetch 144 35 = some (.invokevirtual 207, 3, 145, 2, 149) := rfl
theorem f_Ru_doFlow_38 : fetch 144 38 = some (.ireturn, 1, 2, 0, 0) := rfl
theorem f_Ru_doFlow_39 : fetch 144 39 = some (.aload_n 0, 1, 0, 0, 0) := rfl
theorem f_Ru_doFlow_40 : fetch 144 40 = some (.aload_n 1, 1, 0, 0, 0) := rfl
theorem f_Ru_doFlow_41 : fetch 144 41 = some (.invokevirtual 210, 3, 146, 1, 150) := rfl
theorem f_Ru_doFlow_44 : fetch 144 44 = some (.ireturn, 1, 2, 0, 0) := rfl
theorem f_Ru_doFlow_45 : fetch 144 45 = some (.aload_n 0, 1, 0, 0, 0) := rfl
theorem f_Ru_doFlow_46 : fetch 144 46 = some (.aload_n 1, 1, 0, 0, 0) := rfl
theorem f_Ru_doFlow_47 : fetch 144 47 = some (.invokevirtual 160, 3, 7, 0, 135) := rfl
theorem f_Ru_doFlow_50 : fetch 144 50 = some (.invokevirtual 167, 3, 128, 1, 137) := rfl
theorem f_Ru_doFlow_53 : fetch 144 53 = some (.ireturn, 1, 2, 0, 0) := rfl
theorem f_Ru_doFlow_54 : fetch 144 54 = some (.aload_n 0, 1, 0, 0, 0) := rfl
theorem f_Ru_doFlow_55 : fetch 144 55 = some (.aload_n 1, 1, 0, 0, 0) := rfl
theorem f_Ru_doFlow_56 : fetch 144 56 = some (.aload_n 1, 1, 0, 0, 0) := rfl
theorem f_Ru_doFlow_57 : fetch 144 57 = some (.getfield 83, 3, 0, 3, 111) := rfl
theorem f_Ru_doFlow_60 : fetch 144 60 = some (.iconst 2, 1, 0, 0, 0) := rfl
theorem f_Ru_doFlow_61 : fetch 144 61 = some (.iadd, 1, 0, 0, 0) := rfl
theorem f_Ru_doFlow_62 : fetch 144 62 = some (.iload_n 3, 1, 0, 0, 0) := rfl
theorem f_Ru_doFlow_63 : fetch 144 63 = some (.invokestatic 129, 3, 103, 1, 127) := rfl
theorem f_Ru_doFlow_66 : fetch 144 66 = some (.iadd, 1, 0, 0, 0) := rfl
theorem f_Ru_doFlow_67 : fetch 144 67 = some (.aload_n 1, 1, 0, 0, 0) := rfl
theorem f_Ru_doFlow_68 : fetch 144 68 = some (.getfield 83, 3, 0, 3, 111) := rfl
theorem f_Ru_doFlow_71 : fetch 144 71 = some (.iconst 0, 1, 0, 0, 0) := rfl
theorem f_Ru_doFlow_72 : fetch 144 72 = some (.invokevirtual 213, 3, 149, 4, 151) := rfl
theorem f_Ru_doFlow_75 : fetch 144 75 = some (.ireturn, 1, 2, 0, 0) := rfl
theorem f_Ru_doFlow_76 : fetch 144 76 = some (.aload_n 0, 1, 0, 0, 0) := rfl
theorem f_Ru_doFlow_77 : fetch 144 77 = some (.aload_n 1, 1, 0, 0, 0) := rfl
theorem f_Ru_doFlow_78 : fetch 144 78 = some (.invokevirtual 217, 3, 151, 1, 152) := rfl
theorem f_Ru_doFlow_81 : fetch 144 81 = some (.ireturn, 1, 2, 0, 0) := rfl
def F_Ru_doFlow (a0 : Nat) (a1 : Nat) (a2 : Int32) (a3 : Int32) (σ : SG) : Option (Bool × SG) :=
  if a2 = 33 then
  match F_Ru_call (a0) (a1) (a3) σ with
  | none => none
  | some q2 =>
  some (q2.1, q2.2)
  else if a2 = 34 then
  match F_Ru_giveBack (a0) (a1) σ with
  | none => none
  | some q4 =>
  some (q4.1, q4.2)
  else if a2 = 35 then
  match F_Fr_popInt (a1) σ with
  | none => none
  | some q6 =>
  match F_Ru_raise (a0) (q6.1) q6.2 with
  | none => none
  | some q7 =>
  some (q7.1, q7.2)
  else if a2 = 36 then
  match F_Op_signed (a3) σ with
  | none => none
  | some q9 =>
  match F_Ru_leave (a0) (a1) ((((σ.1 (a1) 3) + (2 : Int32)) + q9.1)) ((q9.2.1 (a1) 3)) ((0 : Int32)) q9.2 with
  | none => none
  | some q10 =>
  some (q10.1, q10.2)
  else match F_Ru_finish (a0) (a1) σ with
  | none => none
  | some q11 =>
  some (q11.1, q11.2)
set_option maxHeartbeats 4000000 in
theorem w_Ru_doFlow {b d : Nat} {pre tl : List PE} {B : Nat} {Q : Option Value → List PE → Prop} {res : Bool × SG} (hB : B = b + pre.length) (hd : 3 ≤ d)  {σ : SG} (a0 : Nat) (a1 : Nat) (a2 : Int32) (a3 : Int32) (ha0 : isC SHc (a0) 5 = true) (ha1 : isC SHc (a1) 0 = true) (hF : F_Ru_doFlow a0 a1 a2 a3 σ = some res) (hQ : Q (some (.int (bz res.1))) (HH pre tl SHc B res.2)) : Cl b d 144 [.ref (B + (a0)), .ref (B + (a1)), .int (a2), .int (a3)] (HH pre tl SHc B σ) Q := by
  obtain ⟨e0, rfl⟩ : ∃ e, d = e + 1 := ⟨d - 1, by omega⟩
  unfold Cl
  unfold F_Ru_doFlow at hF
  refine r_iload_n f_Ru_doFlow_0 rfl ?_
  by_cases c1 : a2 = 33
  · rw [if_pos c1] at hF
    refine r_tswI (t := 32) (off := 31) 0 f_Ru_doFlow_1 (by rw [c1]; decide) (by rw [c1]; decide) (by rfl) (by decide) ?_
    refine r_aload_n f_Ru_doFlow_32 rfl ?_
    refine r_aload_n f_Ru_doFlow_33 rfl ?_
    refine r_iload_n f_Ru_doFlow_34 rfl ?_
    cases hq2 : F_Ru_call (a0) (a1) (a3) σ with
    | none => simp only [hq2] at hF; cases hF
    | some q2 =>
      simp only [hq2] at hF
      refine t_V2i hB ha0 rfl rfl f_Ru_doFlow_35 (by decide) (Nat.le_of_ble_eq_true rfl) (Nat.le_of_ble_eq_true rfl) (w_Ru_call hB (by omega) (a0) (a1) (a3) ha0 ha1 hq2 ⟨_, rfl, ?_⟩)
      cases hF
      exact r_zreturn f_Ru_doFlow_38 (bz_or (q2.1)) hQ
  rw [if_neg c1] at hF
  by_cases c3 : a2 = 34
  · rw [if_pos c3] at hF
    refine r_tswI (t := 39) (off := 38) 1 f_Ru_doFlow_1 (by rw [c3]; decide) (by rw [c3]; decide) (by rfl) (by decide) ?_
    refine r_aload_n f_Ru_doFlow_39 rfl ?_
    refine r_aload_n f_Ru_doFlow_40 rfl ?_
    cases hq4 : F_Ru_giveBack (a0) (a1) σ with
    | none => simp only [hq4] at hF; cases hF
    | some q4 =>
      simp only [hq4] at hF
      refine t_V1i hB ha0 rfl rfl f_Ru_doFlow_41 (by decide) (Nat.le_of_ble_eq_true rfl) (Nat.le_of_ble_eq_true rfl) (w_Ru_giveBack hB (by omega) (a0) (a1) ha0 ha1 hq4 ⟨_, rfl, ?_⟩)
      cases hF
      exact r_zreturn f_Ru_doFlow_44 (bz_or (q4.1)) hQ
  rw [if_neg c3] at hF
  by_cases c5 : a2 = 35
  · rw [if_pos c5] at hF
    refine r_tswI (t := 45) (off := 44) 2 f_Ru_doFlow_1 (by rw [c5]; decide) (by rw [c5]; decide) (by rfl) (by decide) ?_
    refine r_aload_n f_Ru_doFlow_45 rfl ?_
    refine r_aload_n f_Ru_doFlow_46 rfl ?_
    cases hq6 : F_Fr_popInt (a1) σ with
    | none => simp only [hq6] at hF; cases hF
    | some q6 =>
      simp only [hq6] at hF
      refine t_V0i hB ha1 rfl rfl f_Ru_doFlow_47 (by decide) (Nat.le_of_ble_eq_true rfl) (Nat.le_of_ble_eq_true rfl) (w_Fr_popInt hB (by omega) (a1) ha1 hq6 ⟨_, rfl, ?_⟩)
      cases hq7 : F_Ru_raise (a0) (q6.1) q6.2 with
      | none => simp only [hq7] at hF; cases hF
      | some q7 =>
        simp only [hq7] at hF
        refine t_V1i hB ha0 rfl rfl f_Ru_doFlow_50 (by decide) (Nat.le_of_ble_eq_true rfl) (Nat.le_of_ble_eq_true rfl) (w_Ru_raise hB (by omega) (a0) (q6.1) ha0 hq7 ⟨_, rfl, ?_⟩)
        cases hF
        exact r_zreturn f_Ru_doFlow_53 (bz_or (q7.1)) hQ
  rw [if_neg c5] at hF
  by_cases c8 : a2 = 36
  · rw [if_pos c8] at hF
    refine r_tswI (t := 54) (off := 53) 3 f_Ru_doFlow_1 (by rw [c8]; decide) (by rw [c8]; decide) (by rfl) (by decide) ?_
    refine r_aload_n f_Ru_doFlow_54 rfl ?_
    refine r_aload_n f_Ru_doFlow_55 rfl ?_
    refine r_aload_n f_Ru_doFlow_56 rfl ?_
    refine t_geti hB ha1 f_Ru_doFlow_57 rfl ?_
    refine r_iconst f_Ru_doFlow_60 (v := 2) (by decide) ?_
    refine r_iadd f_Ru_doFlow_61 ?_
    refine r_iload_n f_Ru_doFlow_62 rfl ?_
    cases hq9 : F_Op_signed (a3) σ with
    | none => simp only [hq9] at hF; cases hF
    | some q9 =>
      simp only [hq9] at hF
      refine t_S1i f_Ru_doFlow_63 (by decide) (Nat.le_of_ble_eq_true rfl) (Nat.le_of_ble_eq_true rfl) (w_Op_signed hB  (a3)  hq9 ⟨_, rfl, ?_⟩)
      refine r_iadd f_Ru_doFlow_66 ?_
      refine r_aload_n f_Ru_doFlow_67 rfl ?_
      refine t_geti hB ha1 f_Ru_doFlow_68 rfl ?_
      refine r_iconst f_Ru_doFlow_71 (v := 0) (by decide) ?_
      cases hq10 : F_Ru_leave (a0) (a1) ((((σ.1 (a1) 3) + (2 : Int32)) + q9.1)) ((q9.2.1 (a1) 3)) ((0 : Int32)) q9.2 with
      | none => simp only [hq10] at hF; cases hF
      | some q10 =>
        simp only [hq10] at hF
        refine t_V4i hB ha0 rfl rfl f_Ru_doFlow_72 (by decide) (Nat.le_of_ble_eq_true rfl) (Nat.le_of_ble_eq_true rfl) (w_Ru_leave hB (by omega) (a0) (a1) ((((σ.1 (a1) 3) + (2 : Int32)) + q9.1)) ((q9.2.1 (a1) 3)) ((0 : Int32)) ha0 ha1 hq10 ⟨_, rfl, ?_⟩)
        cases hF
        exact r_zreturn f_Ru_doFlow_75 (bz_or (q10.1)) hQ
  rw [if_neg c8] at hF
  refine r_tswO f_Ru_doFlow_1 (by have zc1 := lv_neT c1 (by decide : (33 : Int32).toInt = 33); have zc3 := lv_neT c3 (by decide : (34 : Int32).toInt = 34); have zc5 := lv_neT c5 (by decide : (35 : Int32).toInt = 35); have zc8 := lv_neT c8 (by decide : (36 : Int32).toInt = 36); omega) ?_
  refine r_aload_n f_Ru_doFlow_76 rfl ?_
  refine r_aload_n f_Ru_doFlow_77 rfl ?_
  cases hq11 : F_Ru_finish (a0) (a1) σ with
  | none => simp only [hq11] at hF; cases hF
  | some q11 =>
    simp only [hq11] at hF
    refine t_V1i hB ha0 rfl rfl f_Ru_doFlow_78 (by decide) (Nat.le_of_ble_eq_true rfl) (Nat.le_of_ble_eq_true rfl) (w_Ru_finish hB (by omega) (a0) (a1) ha0 ha1 hq11 ⟨_, rfl, ?_⟩)
    cases hF
    exact r_zreturn f_Ru_doFlow_81 (bz_or (q11.1)) hQ
theorem f_Ru_handle_0 : fetch 153 0 = some (.iload_n 3, 1, 0, 0, 0) := rfl
theorem f_Ru_handle_1 : fetch 153 1 = some (.istore 4, 2, 0, 0, 0) := rfl
theorem f_Ru_handle_3 : fetch 153 3 = some (.iload 4, 2, 0, 0, 0) := rfl
theorem f_Ru_handle_5 : fetch 153 5 = some (.aload_n 1, 1, 0, 0, 0) := rfl
theorem f_Ru_handle_6 : fetch 153 6 = some (.getfield 80, 3, 0, 1, 110) := rfl
theorem f_Ru_handle_9 : fetch 153 9 = some (.getfield 236, 3, 2, 3, 119) := rfl
theorem f_Ru_handle_12 : fetch 153 12 = some (.if_icmp .ge 81, 3, 93, 0, 0) := rfl
theorem f_Ru_handle_15 : fetch 153 15 = some (.aload_n 1, 1, 0, 0, 0) := rfl
theorem f_Ru_handle_16 : fetch 153 16 = some (.getfield 80, 3, 0, 1, 110) := rfl
theorem f_Ru_handle_19 : fetch 153 19 = some (.getfield 239, 3, 2, 7, 120) := rfl
theorem f_Ru_handle_22 : fetch 153 22 = some (.iload 4, 2, 0, 0, 0) := rfl
theorem f_Ru_handle_24 : fetch 153 24 = some (.aaload, 1, 0, 0, 0) := rfl
theorem f_Ru_handle_25 : fetch 153 25 = some (.astore 5, 2, 0, 0, 0) := rfl
theorem f_Ru_handle_27 : fetch 153 27 = some (.aload 5, 2, 0, 0, 0) := rfl
theorem f_Ru_handle_29 : fetch 153 29 = some (.iload_n 2, 1, 0, 0, 0) := rfl
theorem f_Ru_handle_30 : fetch 153 30 = some (.invokevirtual 248, 3, 116, 1, 155) := rfl
theorem f_Ru_handle_33 : fetch 153 33 = some (.ifCond .eq 54, 3, 87, 0, 0) := rfl
theorem f_Ru_handle_36 : fetch 153 36 = some (.aload_n 1, 1, 0, 0, 0) := rfl
theorem f_Ru_handle_37 : fetch 153 37 = some (.iload_n 2, 1, 0, 0, 0) := rfl
theorem f_Ru_handle_38 : fetch 153 38 = some (.aload 5, 2, 0, 0, 0) := rfl
theorem f_Ru_handle_40 : fetch 153 40 = some (.getfield 274, 3, 4, 1, 122) := rfl
theorem f_Ru_handle_43 : fetch 153 43 = some (.invokevirtual 277, 3, 10, 2, 160) := rfl
theorem f_Ru_handle_46 : fetch 153 46 = some (.aload_n 0, 1, 0, 0, 0) := rfl
theorem f_Ru_handle_47 : fetch 153 47 = some (.aload_n 1, 1, 0, 0, 0) := rfl
theorem f_Ru_handle_48 : fetch 153 48 = some (.iload 4, 2, 0, 0, 0) := rfl
theorem f_Ru_handle_50 : fetch 153 50 = some (.invokevirtual 251, 3, 150, 2, 156) := rfl
theorem f_Ru_handle_53 : fetch 153 53 = some (.aload 5, 2, 0, 0, 0) := rfl
theorem f_Ru_handle_55 : fetch 153 55 = some (.getfield 243, 3, 4, 3, 121) := rfl
theorem f_Ru_handle_58 : fetch 153 58 = some (.ifCond .eq 18, 3, 76, 0, 0) := rfl
theorem f_Ru_handle_61 : fetch 153 61 = some (.aload_n 1, 1, 0, 0, 0) := rfl
theorem f_Ru_handle_62 : fetch 153 62 = some (.iload 4, 2, 0, 0, 0) := rfl
theorem f_Ru_handle_64 : fetch 153 64 = some (.iconst 1, 1, 0, 0, 0) := rfl
theorem f_Ru_handle_65 : fetch 153 65 = some (.aload_n 0, 1, 0, 0, 0) := rfl
theorem f_Ru_handle_66 : fetch 153 66 = some (.getfield 120, 3, 5, 6, 114) := rfl
theorem f_Ru_handle_69 : fetch 153 69 = some (.iload_n 2, 1, 0, 0, 0) := rfl
theorem f_Ru_handle_70 : fetch 153 70 = some (.invokevirtual 255, 3, 9, 4, 157) := rfl
theorem f_Ru_handle_73 : fetch 153 73 = some (.goto 12, 3, 85, 0, 0) := rfl
theorem f_Ru_handle_76 : fetch 153 76 = some (.aload_n 1, 1, 0, 0, 0) := rfl
theorem f_Ru_handle_77 : fetch 153 77 = some (.aload_n 0, 1, 0, 0, 0) := rfl
theorem f_Ru_handle_78 : fetch 153 78 = some (.getfield 120, 3, 5, 6, 114) := rfl
theorem f_Ru_handle_81 : fetch 153 81 = some (.i2l, 1, 0, 0, 0) := rfl
theorem f_Ru_handle_82 : fetch 153 82 = some (.invokevirtual 132, 3, 4, 1, 128) := rfl
theorem f_Ru_handle_85 : fetch 153 85 = some (.iconst 1, 1, 0, 0, 0) := rfl
theorem f_Ru_handle_86 : fetch 153 86 = some (.ireturn, 1, 2, 0, 0) := rfl
theorem f_Ru_handle_87 : fetch 153 87 = some (.iinc 4 1, 3, 0, 0, 0) := rfl
theorem f_Ru_handle_90 : fetch 153 90 = some (.goto (-87), 3, 3, 0, 0) := rfl
theorem f_Ru_handle_93 : fetch 153 93 = some (.iconst 0, 1, 0, 0, 0) := rfl
theorem f_Ru_handle_94 : fetch 153 94 = some (.ireturn, 1, 2, 0, 0) := rfl
def F_Ru_handle_85   (σ : SG) : Option (Bool × SG) :=
  some (true, σ)
set_option maxHeartbeats 4000000 in
theorem w_Ru_handle_85 {b d : Nat} {sc : SC} {pre tl : List PE} {B : Nat} {Q : Option Value → List PE → Prop} {res : Bool × SG} (hB : B = b + pre.length) (hd : 3 ≤ d)   (hQ : Q (some (.int (bz res.1))) (HH pre tl SHc B res.2)) (lv : LV) (σ : SG)   (hF : F_Ru_handle_85   σ = some res) : Rn b sc d 153 85 lv [] (HH pre tl SHc B σ) Q := by
  obtain ⟨e0, rfl⟩ : ∃ e, d = e + 1 := ⟨d - 1, by omega⟩
  unfold F_Ru_handle_85 at hF
  refine r_iconst f_Ru_handle_85 (v := 1) (by decide) ?_
  cases hF
  exact r_zreturn f_Ru_handle_86 (bz_or (true)) hQ
def F_Ru_handle_3  : Nat → Nat → Nat → Int32 → Int32 → SG → Option (Bool × SG)
  | 0, _, _, _, _, _ => none
  | n + 1, x0, x1, x2, x4, σ =>
  if isC SHc ((σ.2.2.1 (x1) 1)) 2 = true then
  if (σ.1 ((σ.2.2.1 (x1) 1)) 3) ≤ x4 then
  some (false, σ)
  else if isC SHc ((σ.2.2.1 (x1) 1)) 2 = true then
  if x4 < 0 ∨ 3 ≤ (x4).toNatClampNeg then none else
  match F_Rg_keeps ((relem SHc ((cref SHc ((σ.2.2.1 (x1) 1)) 7)) ((x4).toNatClampNeg))) (x2) σ with
  | none => none
  | some q5 =>
  if q5.1 = true then
  match F_Fr_forgetPending (x1) (x2) ((q5.2.1 ((relem SHc ((cref SHc ((σ.2.2.1 (x1) 1)) 7)) ((x4).toNatClampNeg))) 1)) q5.2 with
  | none => none
  | some q7 =>
  match F_Ru_enter (x0) (x1) (x4) q7 with
  | none => none
  | some q8 =>
  if (zb (q8.1 ((relem SHc ((cref SHc ((σ.2.2.1 (x1) 1)) 7)) ((x4).toNatClampNeg))) 3)) = true then
  match F_Fr_keepPending (x1) (x4) ((1 : Int32)) ((q8.1 (x0) 6)) (x2) q8 with
  | none => none
  | some q11 =>
  F_Ru_handle_85 q11
  else match F_Fr_push (x1) ((((q8.1 (x0) 6) : Int32).toInt64)) q8 with
  | none => none
  | some q10 =>
  F_Ru_handle_85 q10
  else F_Ru_handle_3  n (x0) (x1) (x2) ((x4 + 1)) q5.2
  else none
  else none
set_option maxHeartbeats 4000000 in
theorem w_Ru_handle_3 {b d : Nat} {sc : SC} {pre tl : List PE} {B : Nat} {Q : Option Value → List PE → Prop} {res : Bool × SG} (hB : B = b + pre.length) (hd : 3 ≤ d)   (hQ : Q (some (.int (bz res.1))) (HH pre tl SHc B res.2)) : ∀ (n : Nat) (lv : LV) (σ : SG) (x0 : Nat) (x1 : Nat) (x2 : Int32) (x4 : Int32), isC SHc (x0) 5 = true → isC SHc (x1) 0 = true → lv.lookup 0 = some (.ref (B + (x0))) → lv.lookup 1 = some (.ref (B + (x1))) → lv.lookup 2 = some (.int (x2)) → lv.lookup 4 = some (.int (x4)) → F_Ru_handle_3  n x0 x1 x2 x4 σ = some res → Rn b sc d 153 3 lv [] (HH pre tl SHc B σ) Q := by
  obtain ⟨e0, rfl⟩ : ∃ e, d = e + 1 := ⟨d - 1, by omega⟩
  intro n
  induction n with
  | zero => intro lv σ x0 x1 x2 x4 hx0 hx1 l0 l1 l2 l4 hF; cases hF
  | succ n ih =>
    intro lv σ x0 x1 x2 x4 hx0 hx1 l0 l1 l2 l4 hF
    unfold F_Ru_handle_3 at hF
    refine r_iload f_Ru_handle_3 l4 ?_
    refine r_aload_n f_Ru_handle_5 l1 ?_
    by_cases c1 : isC SHc ((σ.2.2.1 (x1) 1)) 2 = true
    case neg => rw [if_neg c1] at hF; cases hF
    rw [if_pos c1] at hF
    refine t_getm hB hx1 f_Ru_handle_6 rfl ?_
    refine t_geti hB c1 f_Ru_handle_9 rfl ?_
    refine r_icmp_ge f_Ru_handle_12 (fun c2 => ?_) (fun c2 => ?_)
    · rw [if_pos c2] at hF
      refine r_iconst f_Ru_handle_93 (v := 0) (by decide) ?_
      cases hF
      exact r_zreturn f_Ru_handle_94 (bz_or (false)) hQ
    · rw [if_neg c2] at hF
      refine r_aload_n f_Ru_handle_15 l1 ?_
      by_cases c3 : isC SHc ((σ.2.2.1 (x1) 1)) 2 = true
      case neg => rw [if_neg c3] at hF; cases hF
      rw [if_pos c3] at hF
      refine t_getm hB hx1 f_Ru_handle_16 rfl ?_
      refine t_getc hB c3 f_Ru_handle_19 rfl ?_
      refine r_iload f_Ru_handle_22 l4 ?_
      by_cases c4 : x4 < 0 ∨ 3 ≤ (x4).toNatClampNeg
      · rw [if_pos c4] at hF; cases hF
      rw [if_neg c4] at hF
      refine t_aald hB (cc_2_7 c3) (by decide) f_Ru_handle_24 c4 ?_
      refine r_astore f_Ru_handle_25 ?_
      refine r_aload f_Ru_handle_27 lk_put ?_
      refine r_iload_n f_Ru_handle_29 (lk_put_ne l2 (by decide) (Or.inl rfl)) ?_
      cases hq5 : F_Rg_keeps ((relem SHc ((cref SHc ((σ.2.2.1 (x1) 1)) 7)) ((x4).toNatClampNeg))) (x2) σ with
      | none => simp only [hq5] at hF; cases hF
      | some q5 =>
        simp only [hq5] at hF
        refine t_V1i hB (re_4 (cc_2_7 c3) (nlt c4)) rfl rfl f_Ru_handle_30 (by decide) (Nat.le_of_ble_eq_true rfl) (Nat.le_of_ble_eq_true rfl) (w_Rg_keeps hB  ((relem SHc ((cref SHc ((σ.2.2.1 (x1) 1)) 7)) ((x4).toNatClampNeg))) (x2) (re_4 (cc_2_7 c3) (nlt c4)) hq5 ⟨_, rfl, ?_⟩)
        refine r_if_eq f_Ru_handle_33 (fun c6 => ?_) (fun c6 => ?_)
        · rw [if_neg (bz_nt c6)] at hF
          refine r_iinc f_Ru_handle_87 (lk_put_ne l4 (by decide) (Or.inl rfl)) (w := x4 + 1) rfl ?_
          refine r_goto f_Ru_handle_90 ?_
          exact ih _ (q5.2) (x0) (x1) (x2) ((x4 + 1)) hx0 hx1 (lk_put_ne (lk_put_ne l0 (by decide) (Or.inl rfl)) (by decide) (Or.inl rfl)) (lk_put_ne (lk_put_ne l1 (by decide) (Or.inl rfl)) (by decide) (Or.inl rfl)) (lk_put_ne (lk_put_ne l2 (by decide) (Or.inl rfl)) (by decide) (Or.inl rfl)) lk_put hF
        · rw [if_pos (bz_t c6)] at hF
          refine r_aload_n f_Ru_handle_36 (lk_put_ne l1 (by decide) (Or.inl rfl)) ?_
          refine r_iload_n f_Ru_handle_37 (lk_put_ne l2 (by decide) (Or.inl rfl)) ?_
          refine r_aload f_Ru_handle_38 lk_put ?_
          refine t_geti hB (re_4 (cc_2_7 c3) (nlt c4)) f_Ru_handle_40 rfl ?_
          cases hq7 : F_Fr_forgetPending (x1) (x2) ((q5.2.1 ((relem SHc ((cref SHc ((σ.2.2.1 (x1) 1)) 7)) ((x4).toNatClampNeg))) 1)) q5.2 with
          | none => simp only [hq7] at hF; cases hF
          | some q7 =>
            simp only [hq7] at hF
            refine t_V2v hB hx1 rfl rfl f_Ru_handle_43 (by decide) (Nat.le_of_ble_eq_true rfl) (Nat.le_of_ble_eq_true rfl) (w_Fr_forgetPending hB (by omega) (x1) (x2) ((q5.2.1 ((relem SHc ((cref SHc ((σ.2.2.1 (x1) 1)) 7)) ((x4).toNatClampNeg))) 1)) hx1 hq7 ⟨rfl, ?_⟩)
            refine r_aload_n f_Ru_handle_46 (lk_put_ne l0 (by decide) (Or.inl rfl)) ?_
            refine r_aload_n f_Ru_handle_47 (lk_put_ne l1 (by decide) (Or.inl rfl)) ?_
            refine r_iload f_Ru_handle_48 (lk_put_ne l4 (by decide) (Or.inl rfl)) ?_
            cases hq8 : F_Ru_enter (x0) (x1) (x4) q7 with
            | none => simp only [hq8] at hF; cases hF
            | some q8 =>
              simp only [hq8] at hF
              refine t_V2v hB hx0 rfl rfl f_Ru_handle_50 (by decide) (Nat.le_of_ble_eq_true rfl) (Nat.le_of_ble_eq_true rfl) (w_Ru_enter hB  (x0) (x1) (x4) hx0 hx1 hq8 ⟨rfl, ?_⟩)
              refine r_aload f_Ru_handle_53 lk_put ?_
              refine t_getz hB (re_4 (cc_2_7 c3) (nlt c4)) f_Ru_handle_55 rfl ?_
              refine r_if_eq f_Ru_handle_58 (fun c9 => ?_) (fun c9 => ?_)
              · rw [if_neg (bz_nt c9)] at hF
                refine r_aload_n f_Ru_handle_76 (lk_put_ne l1 (by decide) (Or.inl rfl)) ?_
                refine r_aload_n f_Ru_handle_77 (lk_put_ne l0 (by decide) (Or.inl rfl)) ?_
                refine t_geti hB hx0 f_Ru_handle_78 rfl ?_
                refine r_i2l f_Ru_handle_81 ?_
                cases hq10 : F_Fr_push (x1) ((((q8.1 (x0) 6) : Int32).toInt64)) q8 with
                | none => simp only [hq10] at hF; cases hF
                | some q10 =>
                  simp only [hq10] at hF
                  refine t_V1v hB hx1 rfl rfl f_Ru_handle_82 (by decide) (Nat.le_of_ble_eq_true rfl) (Nat.le_of_ble_eq_true rfl) (w_Fr_push hB  (x1) ((((q8.1 (x0) 6) : Int32).toInt64)) hx1 hq10 ⟨rfl, ?_⟩)
                  exact w_Ru_handle_85 hB hd  hQ _ (q10) hF
              · rw [if_pos (bz_t c9)] at hF
                refine r_aload_n f_Ru_handle_61 (lk_put_ne l1 (by decide) (Or.inl rfl)) ?_
                refine r_iload f_Ru_handle_62 (lk_put_ne l4 (by decide) (Or.inl rfl)) ?_
                refine r_iconst f_Ru_handle_64 (v := 1) (by decide) ?_
                refine r_aload_n f_Ru_handle_65 (lk_put_ne l0 (by decide) (Or.inl rfl)) ?_
                refine t_geti hB hx0 f_Ru_handle_66 rfl ?_
                refine r_iload_n f_Ru_handle_69 (lk_put_ne l2 (by decide) (Or.inl rfl)) ?_
                cases hq11 : F_Fr_keepPending (x1) (x4) ((1 : Int32)) ((q8.1 (x0) 6)) (x2) q8 with
                | none => simp only [hq11] at hF; cases hF
                | some q11 =>
                  simp only [hq11] at hF
                  refine t_V4v hB hx1 rfl rfl f_Ru_handle_70 (by decide) (Nat.le_of_ble_eq_true rfl) (Nat.le_of_ble_eq_true rfl) (w_Fr_keepPending hB  (x1) (x4) ((1 : Int32)) ((q8.1 (x0) 6)) (x2) hx1 hq11 ⟨rfl, ?_⟩)
                  refine r_goto f_Ru_handle_73 ?_
                  exact w_Ru_handle_85 hB hd  hQ _ (q11) hF
def F_Ru_handle (a0 : Nat) (a1 : Nat) (a2 : Int32) (a3 : Int32) (σ : SG) : Option (Bool × SG) :=
  F_Ru_handle_3  5000 (a0) (a1) (a2) (a3) σ
set_option maxHeartbeats 4000000 in
theorem w_Ru_handle {b d : Nat} {pre tl : List PE} {B : Nat} {Q : Option Value → List PE → Prop} {res : Bool × SG} (hB : B = b + pre.length) (hd : 3 ≤ d)  {σ : SG} (a0 : Nat) (a1 : Nat) (a2 : Int32) (a3 : Int32) (ha0 : isC SHc (a0) 5 = true) (ha1 : isC SHc (a1) 0 = true) (hF : F_Ru_handle a0 a1 a2 a3 σ = some res) (hQ : Q (some (.int (bz res.1))) (HH pre tl SHc B res.2)) : Cl b d 153 [.ref (B + (a0)), .ref (B + (a1)), .int (a2), .int (a3)] (HH pre tl SHc B σ) Q := by
  obtain ⟨e0, rfl⟩ : ∃ e, d = e + 1 := ⟨d - 1, by omega⟩
  unfold Cl
  unfold F_Ru_handle at hF
  refine r_iload_n f_Ru_handle_0 rfl ?_
  refine r_istore f_Ru_handle_1 ?_
  exact w_Ru_handle_3 hB hd  hQ 5000 _ (σ) (a0) (a1) (a2) (a3) ha0 ha1 (lk_put_ne rfl (by decide) (Or.inl rfl)) (lk_put_ne rfl (by decide) (Or.inl rfl)) (lk_put_ne rfl (by decide) (Or.inl rfl)) lk_put hF
theorem f_Ru_throwOn_0 : fetch 152 0 = some (.aload_n 0, 1, 0, 0, 0) := rfl
theorem f_Ru_throwOn_1 : fetch 152 1 = some (.aload_n 0, 1, 0, 0, 0) := rfl
theorem f_Ru_throwOn_2 : fetch 152 2 = some (.invokevirtual 62, 3, 122, 0, 116) := rfl
theorem f_Ru_throwOn_5 : fetch 152 5 = some (.aload_n 0, 1, 0, 0, 0) := rfl
theorem f_Ru_throwOn_6 : fetch 152 6 = some (.getfield 123, 3, 5, 7, 115) := rfl
theorem f_Ru_throwOn_9 : fetch 152 9 = some (.aload_n 0, 1, 0, 0, 0) := rfl
theorem f_Ru_throwOn_10 : fetch 152 10 = some (.getfield 126, 3, 5, 8, 116) := rfl
theorem f_Ru_throwOn_13 : fetch 152 13 = some (.invokevirtual 271, 3, 153, 3, 159) := rfl
theorem f_Ru_throwOn_16 : fetch 152 16 = some (.istore_n 1, 1, 0, 0, 0) := rfl
theorem f_Ru_throwOn_17 : fetch 152 17 = some (.iload_n 1, 1, 0, 0, 0) := rfl
theorem f_Ru_throwOn_18 : fetch 152 18 = some (.ifCond .ne 41, 3, 59, 0, 0) := rfl
theorem f_Ru_throwOn_21 : fetch 152 21 = some (.aload_n 0, 1, 0, 0, 0) := rfl
theorem f_Ru_throwOn_22 : fetch 152 22 = some (.getfield 48, 3, 5, 11, 107) := rfl
theorem f_Ru_throwOn_25 : fetch 152 25 = some (.iconst 1, 1, 0, 0, 0) := rfl
theorem f_Ru_throwOn_26 : fetch 152 26 = some (.if_icmp .le 33, 3, 59, 0, 0) := rfl
theorem f_Ru_throwOn_29 : fetch 152 29 = some (.aload_n 0, 1, 0, 0, 0) := rfl
theorem f_Ru_throwOn_30 : fetch 152 30 = some (.dup, 1, 0, 0, 0) := rfl
theorem f_Ru_throwOn_31 : fetch 152 31 = some (.getfield 48, 3, 5, 11, 107) := rfl
theorem f_Ru_throwOn_34 : fetch 152 34 = some (.iconst 1, 1, 0, 0, 0) := rfl
theorem f_Ru_throwOn_35 : fetch 152 35 = some (.isub, 1, 0, 0, 0) := rfl
theorem f_Ru_throwOn_36 : fetch 152 36 = some (.putfield 48, 3, 5, 11, 107) := rfl
theorem f_Ru_throwOn_39 : fetch 152 39 = some (.aload_n 0, 1, 0, 0, 0) := rfl
theorem f_Ru_throwOn_40 : fetch 152 40 = some (.aload_n 0, 1, 0, 0, 0) := rfl
theorem f_Ru_throwOn_41 : fetch 152 41 = some (.invokevirtual 62, 3, 122, 0, 116) := rfl
theorem f_Ru_throwOn_44 : fetch 152 44 = some (.aload_n 0, 1, 0, 0, 0) := rfl
theorem f_Ru_throwOn_45 : fetch 152 45 = some (.invokevirtual 62, 3, 122, 0, 116) := rfl
theorem f_Ru_throwOn_48 : fetch 152 48 = some (.getfield 83, 3, 0, 3, 111) := rfl
theorem f_Ru_throwOn_51 : fetch 152 51 = some (.iconst 0, 1, 0, 0, 0) := rfl
theorem f_Ru_throwOn_52 : fetch 152 52 = some (.invokevirtual 271, 3, 153, 3, 159) := rfl
theorem f_Ru_throwOn_55 : fetch 152 55 = some (.istore_n 1, 1, 0, 0, 0) := rfl
theorem f_Ru_throwOn_56 : fetch 152 56 = some (.goto (-39), 3, 17, 0, 0) := rfl
theorem f_Ru_throwOn_59 : fetch 152 59 = some (.iload_n 1, 1, 0, 0, 0) := rfl
theorem f_Ru_throwOn_60 : fetch 152 60 = some (.ifCond .ne 12, 3, 72, 0, 0) := rfl
theorem f_Ru_throwOn_63 : fetch 152 63 = some (.aload_n 0, 1, 0, 0, 0) := rfl
theorem f_Ru_throwOn_64 : fetch 152 64 = some (.iconst 3, 1, 0, 0, 0) := rfl
theorem f_Ru_throwOn_65 : fetch 152 65 = some (.aload_n 0, 1, 0, 0, 0) := rfl
theorem f_Ru_throwOn_66 : fetch 152 66 = some (.getfield 120, 3, 5, 6, 114) := rfl
theorem f_Ru_throwOn_69 : fetch 152 69 = some (.invokevirtual 230, 3, 148, 2, 154) := rfl
theorem f_Ru_throwOn_72 : fetch 152 72 = some (.return_, 1, 0, 0, 0) := rfl
def F_Ru_throwOn_72   (σ : SG) : Option (SG) :=
  some σ
set_option maxHeartbeats 4000000 in
theorem w_Ru_throwOn_72 {b d : Nat} {sc : SC} {pre tl : List PE} {B : Nat} {Q : Option Value → List PE → Prop} {res : SG} (hB : B = b + pre.length) (hd : 4 ≤ d)   (hQ : Q none (HH pre tl SHc B res)) (lv : LV) (σ : SG)   (hF : F_Ru_throwOn_72   σ = some res) : Rn b sc d 152 72 lv [] (HH pre tl SHc B σ) Q := by
  obtain ⟨e0, rfl⟩ : ∃ e, d = e + 1 := ⟨d - 1, by omega⟩
  unfold F_Ru_throwOn_72 at hF
  cases hF
  exact r_return f_Ru_throwOn_72 hQ
def F_Ru_throwOn_59  (x0 : Nat) (x1 : Bool) (σ : SG) : Option (SG) :=
  if x1 = true then
  F_Ru_throwOn_72 σ
  else match F_Ru_end (x0) ((3 : Int32)) ((σ.1 (x0) 6)) σ with
  | none => none
  | some q2 =>
  F_Ru_throwOn_72 q2
set_option maxHeartbeats 4000000 in
theorem w_Ru_throwOn_59 {b d : Nat} {sc : SC} {pre tl : List PE} {B : Nat} {Q : Option Value → List PE → Prop} {res : SG} (hB : B = b + pre.length) (hd : 4 ≤ d)   (hQ : Q none (HH pre tl SHc B res)) (lv : LV) (σ : SG) (x0 : Nat) (x1 : Bool) (hx0 : isC SHc (x0) 5 = true) (l0 : lv.lookup 0 = some (.ref (B + (x0)))) (l1 : lv.lookup 1 = some (.int (bz (x1)))) (hF : F_Ru_throwOn_59  x0 x1 σ = some res) : Rn b sc d 152 59 lv [] (HH pre tl SHc B σ) Q := by
  obtain ⟨e0, rfl⟩ : ∃ e, d = e + 1 := ⟨d - 1, by omega⟩
  unfold F_Ru_throwOn_59 at hF
  refine r_iload_n f_Ru_throwOn_59 l1 ?_
  refine r_if_ne f_Ru_throwOn_60 (fun c1 => ?_) (fun c1 => ?_)
  · rw [if_pos (bz_t c1)] at hF
    exact w_Ru_throwOn_72 hB hd  hQ _ (σ) hF
  · rw [if_neg (bz_nt (Decidable.not_not.mp c1))] at hF
    refine r_aload_n f_Ru_throwOn_63 l0 ?_
    refine r_iconst f_Ru_throwOn_64 (v := 3) (by decide) ?_
    refine r_aload_n f_Ru_throwOn_65 l0 ?_
    refine t_geti hB hx0 f_Ru_throwOn_66 rfl ?_
    cases hq2 : F_Ru_end (x0) ((3 : Int32)) ((σ.1 (x0) 6)) σ with
    | none => simp only [hq2] at hF; cases hF
    | some q2 =>
      simp only [hq2] at hF
      refine t_V2v hB hx0 rfl rfl f_Ru_throwOn_69 (by decide) (Nat.le_of_ble_eq_true rfl) (Nat.le_of_ble_eq_true rfl) (w_Ru_end hB  (x0) ((3 : Int32)) ((σ.1 (x0) 6)) hx0 hq2 ⟨rfl, ?_⟩)
      exact w_Ru_throwOn_72 hB hd  hQ _ (q2) hF
def F_Ru_throwOn_17  : Nat → Nat → Bool → SG → Option (SG)
  | 0, _, _, _ => none
  | n + 1, x0, x1, σ =>
  if x1 = true then
  F_Ru_throwOn_59 (x0) (x1) σ
  else if (σ.1 (x0) 11) ≤ (1 : Int32) then
  F_Ru_throwOn_59 (x0) (x1) σ
  else stl (setI σ (x0) 11 (((σ.1 (x0) 11) - (1 : Int32)))) fun s5 =>
  match F_Ru_latest (x0) s5 with
  | none => none
  | some q6 =>
  match F_Ru_latest (x0) q6.2 with
  | none => none
  | some q7 =>
  match q7.1 with
  | none => none
  | some k8 => if isC SHc k8 0 = true then
  match q6.1 with
  | none => none
  | some k10 => if isC SHc k10 0 = true then
  match F_Ru_handle (x0) (k10) ((q7.2.1 (k8) 3)) ((0 : Int32)) q7.2 with
  | none => none
  | some q12 =>
  F_Ru_throwOn_17  n (x0) (q12.1) q12.2
  else none
  else none
set_option maxHeartbeats 4000000 in
theorem w_Ru_throwOn_17 {b d : Nat} {sc : SC} {pre tl : List PE} {B : Nat} {Q : Option Value → List PE → Prop} {res : SG} (hB : B = b + pre.length) (hd : 4 ≤ d)   (hQ : Q none (HH pre tl SHc B res)) : ∀ (n : Nat) (lv : LV) (σ : SG) (x0 : Nat) (x1 : Bool), isC SHc (x0) 5 = true → lv.lookup 0 = some (.ref (B + (x0))) → lv.lookup 1 = some (.int (bz (x1))) → F_Ru_throwOn_17  n x0 x1 σ = some res → Rn b sc d 152 17 lv [] (HH pre tl SHc B σ) Q := by
  obtain ⟨e0, rfl⟩ : ∃ e, d = e + 1 := ⟨d - 1, by omega⟩
  intro n
  induction n with
  | zero => intro lv σ x0 x1 hx0 l0 l1 hF; cases hF
  | succ n ih =>
    intro lv σ x0 x1 hx0 l0 l1 hF
    unfold F_Ru_throwOn_17 at hF
    refine r_iload_n f_Ru_throwOn_17 l1 ?_
    refine r_if_ne f_Ru_throwOn_18 (fun c3 => ?_) (fun c3 => ?_)
    · rw [if_pos (bz_t c3)] at hF
      exact w_Ru_throwOn_59 hB hd  hQ _ (σ) (x0) (x1) hx0 l0 l1 hF
    · rw [if_neg (bz_nt (Decidable.not_not.mp c3))] at hF
      refine r_aload_n f_Ru_throwOn_21 l0 ?_
      refine t_geti hB hx0 f_Ru_throwOn_22 rfl ?_
      refine r_iconst f_Ru_throwOn_25 (v := 1) (by decide) ?_
      refine r_icmp_le f_Ru_throwOn_26 (fun c4 => ?_) (fun c4 => ?_)
      · rw [if_pos c4] at hF
        exact w_Ru_throwOn_59 hB hd  hQ _ (σ) (x0) (x1) hx0 l0 l1 hF
      · rw [if_neg c4] at hF
        refine r_aload_n f_Ru_throwOn_29 l0 ?_
        refine r_dup f_Ru_throwOn_30 rfl ?_
        refine t_geti hB hx0 f_Ru_throwOn_31 rfl ?_
        refine r_iconst f_Ru_throwOn_34 (v := 1) (by decide) ?_
        refine r_isub f_Ru_throwOn_35 ?_
        refine t_puti hB hx0 f_Ru_throwOn_36 rfl rfl ?_
        generalize hs5 : setI σ (x0) 11 (((σ.1 (x0) 11) - (1 : Int32))) = s5 at hF ⊢
        rw [stl_eq] at hF
        refine r_aload_n f_Ru_throwOn_39 l0 ?_
        refine r_aload_n f_Ru_throwOn_40 l0 ?_
        cases hq6 : F_Ru_latest (x0) s5 with
        | none => simp only [hq6] at hF; cases hF
        | some q6 =>
          simp only [hq6] at hF
          refine t_V0o hB hx0 rfl rfl f_Ru_throwOn_41 (by decide) (Nat.le_of_ble_eq_true rfl) (Nat.le_of_ble_eq_true rfl) (w_Ru_latest hB  (x0) hx0 hq6 ⟨_, rfl, ?_⟩)
          refine r_aload_n f_Ru_throwOn_44 l0 ?_
          cases hq7 : F_Ru_latest (x0) q6.2 with
          | none => simp only [hq7] at hF; cases hF
          | some q7 =>
            simp only [hq7] at hF
            refine t_V0o hB hx0 rfl rfl f_Ru_throwOn_45 (by decide) (Nat.le_of_ble_eq_true rfl) (by simp only [List.map_cons, List.map_nil, catO, List.sum_cons, List.sum_nil]; exact Nat.le_of_ble_eq_true rfl) (w_Ru_latest hB  (x0) hx0 hq7 ⟨_, rfl, ?_⟩)
            cases c9 : (q7.1 : Option Nat) with
            | none => simp only [c9] at hF; cases hF
            | some k8 =>
              simp only [c9] at *
              by_cases c9k : isC SHc k8 0 = true
              · rw [if_pos c9k] at hF
                try simp only [ov]
                refine t_geti hB c9k f_Ru_throwOn_48 rfl ?_
                refine r_iconst f_Ru_throwOn_51 (v := 0) (by decide) ?_
                cases c11 : (q6.1 : Option Nat) with
                | none => simp only [c11] at hF; cases hF
                | some k10 =>
                  simp only [c11] at *
                  by_cases c11k : isC SHc k10 0 = true
                  · rw [if_pos c11k] at hF
                    try simp only [ov]
                    cases hq12 : F_Ru_handle (x0) (k10) ((q7.2.1 (k8) 3)) ((0 : Int32)) q7.2 with
                    | none => simp only [hq12] at hF; cases hF
                    | some q12 =>
                      simp only [hq12] at hF
                      refine t_V3i hB hx0 rfl rfl f_Ru_throwOn_52 (by decide) (Nat.le_of_ble_eq_true rfl) (Nat.le_of_ble_eq_true rfl) (w_Ru_handle hB (by omega) (x0) (k10) ((q7.2.1 (k8) 3)) ((0 : Int32)) hx0 c11k hq12 ⟨_, rfl, ?_⟩)
                      refine r_istore_n f_Ru_throwOn_55 ?_
                      refine r_goto f_Ru_throwOn_56 ?_
                      exact ih _ (q12.2) (x0) (q12.1) hx0 (lk_put_ne l0 (by decide) (Or.inl rfl)) lk_put hF
                  · rw [if_neg c11k] at hF; cases hF
              · rw [if_neg c9k] at hF; cases hF
def F_Ru_throwOn (a0 : Nat) (σ : SG) : Option (SG) :=
  match F_Ru_latest (a0) σ with
  | none => none
  | some q13 =>
  match q13.1 with
  | none => none
  | some k14 => if isC SHc k14 0 = true then
  match F_Ru_handle (a0) (k14) ((q13.2.1 (a0) 7)) ((q13.2.1 (a0) 8)) q13.2 with
  | none => none
  | some q16 =>
  F_Ru_throwOn_17  5000 (a0) (q16.1) q16.2
  else none
set_option maxHeartbeats 4000000 in
theorem w_Ru_throwOn {b d : Nat} {pre tl : List PE} {B : Nat} {Q : Option Value → List PE → Prop} {res : SG} (hB : B = b + pre.length) (hd : 4 ≤ d)  {σ : SG} (a0 : Nat) (ha0 : isC SHc (a0) 5 = true) (hF : F_Ru_throwOn a0 σ = some res) (hQ : Q none (HH pre tl SHc B res)) : Cl b d 152 [.ref (B + (a0))] (HH pre tl SHc B σ) Q := by
  obtain ⟨e0, rfl⟩ : ∃ e, d = e + 1 := ⟨d - 1, by omega⟩
  unfold Cl
  unfold F_Ru_throwOn at hF
  refine r_aload_n f_Ru_throwOn_0 rfl ?_
  refine r_aload_n f_Ru_throwOn_1 rfl ?_
  cases hq13 : F_Ru_latest (a0) σ with
  | none => simp only [hq13] at hF; cases hF
  | some q13 =>
    simp only [hq13] at hF
    refine t_V0o hB ha0 rfl rfl f_Ru_throwOn_2 (by decide) (Nat.le_of_ble_eq_true rfl) (Nat.le_of_ble_eq_true rfl) (w_Ru_latest hB  (a0) ha0 hq13 ⟨_, rfl, ?_⟩)
    refine r_aload_n f_Ru_throwOn_5 rfl ?_
    refine t_geti hB ha0 f_Ru_throwOn_6 rfl ?_
    refine r_aload_n f_Ru_throwOn_9 rfl ?_
    refine t_geti hB ha0 f_Ru_throwOn_10 rfl ?_
    cases c15 : (q13.1 : Option Nat) with
    | none => simp only [c15] at hF; cases hF
    | some k14 =>
      simp only [c15] at *
      by_cases c15k : isC SHc k14 0 = true
      · rw [if_pos c15k] at hF
        try simp only [ov]
        cases hq16 : F_Ru_handle (a0) (k14) ((q13.2.1 (a0) 7)) ((q13.2.1 (a0) 8)) q13.2 with
        | none => simp only [hq16] at hF; cases hF
        | some q16 =>
          simp only [hq16] at hF
          refine t_V3i hB ha0 rfl rfl f_Ru_throwOn_13 (by decide) (Nat.le_of_ble_eq_true rfl) (Nat.le_of_ble_eq_true rfl) (w_Ru_handle hB (by omega) (a0) (k14) ((q13.2.1 (a0) 7)) ((q13.2.1 (a0) 8)) ha0 c15k hq16 ⟨_, rfl, ?_⟩)
          refine r_istore_n f_Ru_throwOn_16 ?_
          exact w_Ru_throwOn_17 hB hd  hQ 5000 _ (q16.2) (a0) (q16.1) ha0 (lk_put_ne rfl (by decide) (Or.inl rfl)) lk_put hF
      · rw [if_neg c15k] at hF; cases hF
theorem f_Ru_doInstruction_0 : fetch 124 0 = some (.aload_n 0, 1, 0, 0, 0) := rfl
theorem f_Ru_doInstruction_1 : fetch 124 1 = some (.invokevirtual 62, 3, 122, 0, 116) := rfl
theorem f_Ru_doInstruction_4 : fetch 124 4 = some (.astore_n 1, 1, 0, 0, 0) := rfl
theorem f_Ru_doInstruction_5 : fetch 124 5 = some (.aload_n 1, 1, 0, 0, 0) := rfl
theorem f_Ru_doInstruction_6 : fetch 124 6 = some (.getfield 80, 3, 0, 1, 110) := rfl
theorem f_Ru_doInstruction_9 : fetch 124 9 = some (.aload_n 1, 1, 0, 0, 0) := rfl
theorem f_Ru_doInstruction_10 : fetch 124 10 = some (.getfield 83, 3, 0, 3, 111) := rfl
theorem f_Ru_doInstruction_13 : fetch 124 13 = some (.invokevirtual 86, 3, 19, 1, 120) := rfl
theorem f_Ru_doInstruction_16 : fetch 124 16 = some (.istore_n 2, 1, 0, 0, 0) := rfl
theorem f_Ru_doInstruction_17 : fetch 124 17 = some (.aload_n 1, 1, 0, 0, 0) := rfl
theorem f_Ru_doInstruction_18 : fetch 124 18 = some (.getfield 80, 3, 0, 1, 110) := rfl
theorem f_Ru_doInstruction_21 : fetch 124 21 = some (.aload_n 1, 1, 0, 0, 0) := rfl
theorem f_Ru_doInstruction_22 : fetch 124 22 = some (.getfield 83, 3, 0, 3, 111) := rfl
theorem f_Ru_doInstruction_25 : fetch 124 25 = some (.iconst 1, 1, 0, 0, 0) := rfl
theorem f_Ru_doInstruction_26 : fetch 124 26 = some (.iadd, 1, 0, 0, 0) := rfl
theorem f_Ru_doInstruction_27 : fetch 124 27 = some (.invokevirtual 86, 3, 19, 1, 120) := rfl
theorem f_Ru_doInstruction_30 : fetch 124 30 = some (.istore_n 3, 1, 0, 0, 0) := rfl
theorem f_Ru_doInstruction_31 : fetch 124 31 = some (.iload_n 2, 1, 0, 0, 0) := rfl
theorem f_Ru_doInstruction_32 : fetch 124 32 = some (.bipush 15, 2, 0, 0, 0) := rfl
theorem f_Ru_doInstruction_34 : fetch 124 34 = some (.if_icmp .gt 15, 3, 49, 0, 0) := rfl
theorem f_Ru_doInstruction_37 : fetch 124 37 = some (.aload_n 0, 1, 0, 0, 0) := rfl
theorem f_Ru_doInstruction_38 : fetch 124 38 = some (.aload_n 1, 1, 0, 0, 0) := rfl
theorem f_Ru_doInstruction_39 : fetch 124 39 = some (.iload_n 2, 1, 0, 0, 0) := rfl
theorem f_Ru_doInstruction_40 : fetch 124 40 = some (.iload_n 3, 1, 0, 0, 0) := rfl
theorem f_Ru_doInstruction_41 : fetch 124 41 = some (.invokevirtual 92, 3, 125, 3, 121) := rfl
theorem f_Ru_doInstruction_44 : fetch 124 44 = some (.istore 4, 2, 0, 0, 0) := rfl
theorem f_Ru_doInstruction_46 : fetch 124 46 = some (.goto 47, 3, 93, 0, 0) := rfl
theorem f_Ru_doInstruction_49 : fetch 124 49 = some (.iload_n 2, 1, 0, 0, 0) := rfl
theorem f_Ru_doInstruction_50 : fetch 124 50 = some (.bipush 25, 2, 0, 0, 0) := rfl
theorem f_Ru_doInstruction_52 : fetch 124 52 = some (.if_icmp .gt 15, 3, 67, 0, 0) := rfl
theorem f_Ru_doInstruction_55 : fetch 124 55 = some (.aload_n 0, 1, 0, 0, 0) := rfl
theorem f_Ru_doInstruction_56 : fetch 124 56 = some (.aload_n 1, 1, 0, 0, 0) := rfl
theorem f_Ru_doInstruction_57 : fetch 124 57 = some (.iload_n 2, 1, 0, 0, 0) := rfl
theorem f_Ru_doInstruction_58 : fetch 124 58 = some (.iload_n 3, 1, 0, 0, 0) := rfl
theorem f_Ru_doInstruction_59 : fetch 124 59 = some (.invokevirtual 96, 3, 132, 3, 122) := rfl
theorem f_Ru_doInstruction_62 : fetch 124 62 = some (.istore 4, 2, 0, 0, 0) := rfl
theorem f_Ru_doInstruction_64 : fetch 124 64 = some (.goto 29, 3, 93, 0, 0) := rfl
theorem f_Ru_doInstruction_67 : fetch 124 67 = some (.iload_n 2, 1, 0, 0, 0) := rfl
theorem f_Ru_doInstruction_68 : fetch 124 68 = some (.bipush 32, 2, 0, 0, 0) := rfl
theorem f_Ru_doInstruction_70 : fetch 124 70 = some (.if_icmp .gt 14, 3, 84, 0, 0) := rfl
theorem f_Ru_doInstruction_73 : fetch 124 73 = some (.aload_n 0, 1, 0, 0, 0) := rfl
theorem f_Ru_doInstruction_74 : fetch 124 74 = some (.aload_n 1, 1, 0, 0, 0) := rfl
theorem f_Ru_doInstruction_75 : fetch 124 75 = some (.iload_n 2, 1, 0, 0, 0) := rfl
theorem f_Ru_doInstruction_76 : fetch 124 76 = some (.invokevirtual 99, 3, 140, 2, 123) := rfl
theorem f_Ru_doInstruction_79 : fetch 124 79 = some (.istore 4, 2, 0, 0, 0) := rfl
theorem f_Ru_doInstruction_81 : fetch 124 81 = some (.goto 12, 3, 93, 0, 0) := rfl
theorem f_Ru_doInstruction_84 : fetch 124 84 = some (.aload_n 0, 1, 0, 0, 0) := rfl
theorem f_Ru_doInstruction_85 : fetch 124 85 = some (.aload_n 1, 1, 0, 0, 0) := rfl
theorem f_Ru_doInstruction_86 : fetch 124 86 = some (.iload_n 2, 1, 0, 0, 0) := rfl
theorem f_Ru_doInstruction_87 : fetch 124 87 = some (.iload_n 3, 1, 0, 0, 0) := rfl
theorem f_Ru_doInstruction_88 : fetch 124 88 = some (.invokevirtual 103, 3, 144, 3, 124) := rfl
theorem f_Ru_doInstruction_91 : fetch 124 91 = some (.istore 4, 2, 0, 0, 0) := rfl
theorem f_Ru_doInstruction_93 : fetch 124 93 = some (.aload_n 0, 1, 0, 0, 0) := rfl
theorem f_Ru_doInstruction_94 : fetch 124 94 = some (.getfield 106, 3, 5, 5, 112) := rfl
theorem f_Ru_doInstruction_97 : fetch 124 97 = some (.ifCond .eq 15, 3, 112, 0, 0) := rfl
theorem f_Ru_doInstruction_100 : fetch 124 100 = some (.aload_n 0, 1, 0, 0, 0) := rfl
theorem f_Ru_doInstruction_101 : fetch 124 101 = some (.iconst 0, 1, 0, 0, 0) := rfl
theorem f_Ru_doInstruction_102 : fetch 124 102 = some (.putfield 106, 3, 5, 5, 112) := rfl
theorem f_Ru_doInstruction_105 : fetch 124 105 = some (.aload_n 0, 1, 0, 0, 0) := rfl
theorem f_Ru_doInstruction_106 : fetch 124 106 = some (.invokevirtual 110, 3, 152, 0, 125) := rfl
theorem f_Ru_doInstruction_109 : fetch 124 109 = some (.goto 21, 3, 130, 0, 0) := rfl
theorem f_Ru_doInstruction_112 : fetch 124 112 = some (.iload 4, 2, 0, 0, 0) := rfl
theorem f_Ru_doInstruction_114 : fetch 124 114 = some (.ifCond .eq 16, 3, 130, 0, 0) := rfl
theorem f_Ru_doInstruction_117 : fetch 124 117 = some (.aload_n 1, 1, 0, 0, 0) := rfl
theorem f_Ru_doInstruction_118 : fetch 124 118 = some (.dup, 1, 0, 0, 0) := rfl
theorem f_Ru_doInstruction_119 : fetch 124 119 = some (.getfield 83, 3, 0, 3, 111) := rfl
theorem f_Ru_doInstruction_122 : fetch 124 122 = some (.iload_n 2, 1, 0, 0, 0) := rfl
theorem f_Ru_doInstruction_123 : fetch 124 123 = some (.invokestatic 113, 3, 102, 1, 126) := rfl
theorem f_Ru_doInstruction_126 : fetch 124 126 = some (.iadd, 1, 0, 0, 0) := rfl
theorem f_Ru_doInstruction_127 : fetch 124 127 = some (.putfield 83, 3, 0, 3, 111) := rfl
theorem f_Ru_doInstruction_130 : fetch 124 130 = some (.return_, 1, 0, 0, 0) := rfl
def F_Ru_doInstruction_130   (σ : SG) : Option (SG) :=
  some σ
set_option maxHeartbeats 4000000 in
theorem w_Ru_doInstruction_130 {b d : Nat} {sc : SC} {pre tl : List PE} {B : Nat} {Q : Option Value → List PE → Prop} {res : SG} (hB : B = b + pre.length) (hd : 5 ≤ d)   (hQ : Q none (HH pre tl SHc B res)) (lv : LV) (σ : SG)   (hF : F_Ru_doInstruction_130   σ = some res) : Rn b sc d 124 130 lv [] (HH pre tl SHc B σ) Q := by
  obtain ⟨e0, rfl⟩ : ∃ e, d = e + 1 := ⟨d - 1, by omega⟩
  unfold F_Ru_doInstruction_130 at hF
  cases hF
  exact r_return f_Ru_doInstruction_130 hQ
def F_Ru_doInstruction_93  (x0 : Nat) (x1 : Option Nat) (x2 : Int32) (x4 : Bool) (σ : SG) : Option (SG) :=
  if (zb (σ.1 (x0) 5)) = true then
  stl (setI σ (x0) 5 (bz (false))) fun s7 =>
  match F_Ru_throwOn (x0) s7 with
  | none => none
  | some q8 =>
  F_Ru_doInstruction_130 q8
  else if x4 = true then
  match x1 with
  | none => none
  | some k3 => if isC SHc k3 0 = true then
  match F_Op_width (x2) σ with
  | none => none
  | some q5 =>
  stl (setI q5.2 (k3) 3 (((σ.1 (k3) 3) + q5.1))) fun s6 =>
  F_Ru_doInstruction_130 s6
  else none
  else F_Ru_doInstruction_130 σ
set_option maxHeartbeats 4000000 in
theorem w_Ru_doInstruction_93 {b d : Nat} {sc : SC} {pre tl : List PE} {B : Nat} {Q : Option Value → List PE → Prop} {res : SG} (hB : B = b + pre.length) (hd : 5 ≤ d)   (hQ : Q none (HH pre tl SHc B res)) (lv : LV) (σ : SG) (x0 : Nat) (x1 : Option Nat) (x2 : Int32) (x4 : Bool) (hx0 : isC SHc (x0) 5 = true) (l0 : lv.lookup 0 = some (.ref (B + (x0)))) (l1 : lv.lookup 1 = some (ov B (x1))) (l2 : lv.lookup 2 = some (.int (x2))) (l4 : lv.lookup 4 = some (.int (bz (x4)))) (hF : F_Ru_doInstruction_93  x0 x1 x2 x4 σ = some res) : Rn b sc d 124 93 lv [] (HH pre tl SHc B σ) Q := by
  obtain ⟨e0, rfl⟩ : ∃ e, d = e + 1 := ⟨d - 1, by omega⟩
  unfold F_Ru_doInstruction_93 at hF
  refine r_aload_n f_Ru_doInstruction_93 l0 ?_
  refine t_getz hB hx0 f_Ru_doInstruction_94 rfl ?_
  refine r_if_eq f_Ru_doInstruction_97 (fun c1 => ?_) (fun c1 => ?_)
  · rw [if_neg (bz_nt c1)] at hF
    refine r_iload f_Ru_doInstruction_112 l4 ?_
    refine r_if_eq f_Ru_doInstruction_114 (fun c2 => ?_) (fun c2 => ?_)
    · rw [if_neg (bz_nt c2)] at hF
      exact w_Ru_doInstruction_130 hB hd  hQ _ (σ) hF
    · rw [if_pos (bz_t c2)] at hF
      refine r_aload_n_O f_Ru_doInstruction_117 l1 ?_
      refine r_dup f_Ru_doInstruction_118 (catO _ _) ?_
      cases c4 : (x1 : Option Nat) with
      | none => simp only [c4] at hF; cases hF
      | some k3 =>
        simp only [c4] at *
        by_cases c4k : isC SHc k3 0 = true
        · rw [if_pos c4k] at hF
          try simp only [ov]
          refine t_geti hB c4k f_Ru_doInstruction_119 rfl ?_
          refine r_iload_n f_Ru_doInstruction_122 l2 ?_
          cases hq5 : F_Op_width (x2) σ with
          | none => simp only [hq5] at hF; cases hF
          | some q5 =>
            simp only [hq5] at hF
            refine t_S1i f_Ru_doInstruction_123 (by decide) (Nat.le_of_ble_eq_true rfl) (Nat.le_of_ble_eq_true rfl) (w_Op_width hB  (x2)  hq5 ⟨_, rfl, ?_⟩)
            refine r_iadd f_Ru_doInstruction_126 ?_
            refine t_puti hB c4k f_Ru_doInstruction_127 rfl rfl ?_
            generalize hs6 : setI q5.2 (k3) 3 (((σ.1 (k3) 3) + q5.1)) = s6 at hF ⊢
            rw [stl_eq] at hF
            exact w_Ru_doInstruction_130 hB hd  hQ _ (s6) hF
        · rw [if_neg c4k] at hF; cases hF
  · rw [if_pos (bz_t c1)] at hF
    refine r_aload_n f_Ru_doInstruction_100 l0 ?_
    refine r_iconst f_Ru_doInstruction_101 (v := 0) (by decide) ?_
    refine t_putz (v := false) hB hx0 f_Ru_doInstruction_102 rfl rfl ?_
    generalize hs7 : setI σ (x0) 5 (bz (false)) = s7 at hF ⊢
    rw [stl_eq] at hF
    refine r_aload_n f_Ru_doInstruction_105 l0 ?_
    cases hq8 : F_Ru_throwOn (x0) s7 with
    | none => simp only [hq8] at hF; cases hF
    | some q8 =>
      simp only [hq8] at hF
      refine t_V0v hB hx0 rfl rfl f_Ru_doInstruction_106 (by decide) (Nat.le_of_ble_eq_true rfl) (Nat.le_of_ble_eq_true rfl) (w_Ru_throwOn hB (by omega) (x0) hx0 hq8 ⟨rfl, ?_⟩)
      refine r_goto f_Ru_doInstruction_109 ?_
      exact w_Ru_doInstruction_130 hB hd  hQ _ (q8) hF
def F_Ru_doInstruction (a0 : Nat) (σ : SG) : Option (SG) :=
  match F_Ru_latest (a0) σ with
  | none => none
  | some q9 =>
  match q9.1 with
  | none => none
  | some k10 => if isC SHc k10 0 = true then
  if isC SHc ((q9.2.2.2.1 (k10) 1)) 2 = true then
  match F_Me_codeAt ((q9.2.2.2.1 (k10) 1)) ((q9.2.1 (k10) 3)) q9.2 with
  | none => none
  | some q13 =>
  if isC SHc ((q13.2.2.2.1 (k10) 1)) 2 = true then
  match F_Me_codeAt ((q13.2.2.2.1 (k10) 1)) (((q13.2.1 (k10) 3) + (1 : Int32))) q13.2 with
  | none => none
  | some q15 =>
  if (15 : Int32) < q13.1 then
  if (25 : Int32) < q13.1 then
  if (32 : Int32) < q13.1 then
  match F_Ru_doFlow (a0) (k10) (q13.1) (q15.1) q15.2 with
  | none => none
  | some q19 =>
  F_Ru_doInstruction_93 (a0) (some (k10)) (q13.1) (q19.1) q19.2
  else match F_Ru_doValue (a0) (k10) (q13.1) q15.2 with
  | none => none
  | some q20 =>
  F_Ru_doInstruction_93 (a0) (some (k10)) (q13.1) (q20.1) q20.2
  else match F_Ru_doThing (a0) (k10) (q13.1) (q15.1) q15.2 with
  | none => none
  | some q21 =>
  F_Ru_doInstruction_93 (a0) (some (k10)) (q13.1) (q21.1) q21.2
  else match F_Ru_doSimple (a0) (k10) (q13.1) (q15.1) q15.2 with
  | none => none
  | some q22 =>
  F_Ru_doInstruction_93 (a0) (some (k10)) (q13.1) (q22.1) q22.2
  else none
  else none
  else none
set_option maxHeartbeats 4000000 in
theorem w_Ru_doInstruction {b d : Nat} {pre tl : List PE} {B : Nat} {Q : Option Value → List PE → Prop} {res : SG} (hB : B = b + pre.length) (hd : 5 ≤ d)  {σ : SG} (a0 : Nat) (ha0 : isC SHc (a0) 5 = true) (hF : F_Ru_doInstruction a0 σ = some res) (hQ : Q none (HH pre tl SHc B res)) : Cl b d 124 [.ref (B + (a0))] (HH pre tl SHc B σ) Q := by
  obtain ⟨e0, rfl⟩ : ∃ e, d = e + 1 := ⟨d - 1, by omega⟩
  unfold Cl
  unfold F_Ru_doInstruction at hF
  refine r_aload_n f_Ru_doInstruction_0 rfl ?_
  cases hq9 : F_Ru_latest (a0) σ with
  | none => simp only [hq9] at hF; cases hF
  | some q9 =>
    simp only [hq9] at hF
    refine t_V0o hB ha0 rfl rfl f_Ru_doInstruction_1 (by decide) (Nat.le_of_ble_eq_true rfl) (Nat.le_of_ble_eq_true rfl) (w_Ru_latest hB  (a0) ha0 hq9 ⟨_, rfl, ?_⟩)
    refine r_astore_n_O f_Ru_doInstruction_4 ?_
    refine r_aload_n_O f_Ru_doInstruction_5 lk_put ?_
    cases c11 : (q9.1 : Option Nat) with
    | none => simp only [c11] at hF; cases hF
    | some k10 =>
      simp only [c11] at *
      by_cases c11k : isC SHc k10 0 = true
      · rw [if_pos c11k] at hF
        try simp only [ov]
        by_cases c12 : isC SHc ((q9.2.2.2.1 (k10) 1)) 2 = true
        case neg => rw [if_neg c12] at hF; cases hF
        rw [if_pos c12] at hF
        refine t_getm hB c11k f_Ru_doInstruction_6 rfl ?_
        refine r_aload_n f_Ru_doInstruction_9 lk_put ?_
        refine t_geti hB c11k f_Ru_doInstruction_10 rfl ?_
        cases hq13 : F_Me_codeAt ((q9.2.2.2.1 (k10) 1)) ((q9.2.1 (k10) 3)) q9.2 with
        | none => simp only [hq13] at hF; cases hF
        | some q13 =>
          simp only [hq13] at hF
          refine t_V1i hB c12 rfl rfl f_Ru_doInstruction_13 (by decide) (Nat.le_of_ble_eq_true rfl) (Nat.le_of_ble_eq_true rfl) (w_Me_codeAt hB  ((q9.2.2.2.1 (k10) 1)) ((q9.2.1 (k10) 3)) c12 hq13 ⟨_, rfl, ?_⟩)
          refine r_istore_n f_Ru_doInstruction_16 ?_
          refine r_aload_n f_Ru_doInstruction_17 (lk_put_ne lk_put (by decide) (Or.inl rfl)) ?_
          by_cases c14 : isC SHc ((q13.2.2.2.1 (k10) 1)) 2 = true
          case neg => rw [if_neg c14] at hF; cases hF
          rw [if_pos c14] at hF
          refine t_getm hB c11k f_Ru_doInstruction_18 rfl ?_
          refine r_aload_n f_Ru_doInstruction_21 (lk_put_ne lk_put (by decide) (Or.inl rfl)) ?_
          refine t_geti hB c11k f_Ru_doInstruction_22 rfl ?_
          refine r_iconst f_Ru_doInstruction_25 (v := 1) (by decide) ?_
          refine r_iadd f_Ru_doInstruction_26 ?_
          cases hq15 : F_Me_codeAt ((q13.2.2.2.1 (k10) 1)) (((q13.2.1 (k10) 3) + (1 : Int32))) q13.2 with
          | none => simp only [hq15] at hF; cases hF
          | some q15 =>
            simp only [hq15] at hF
            refine t_V1i hB c14 rfl rfl f_Ru_doInstruction_27 (by decide) (Nat.le_of_ble_eq_true rfl) (Nat.le_of_ble_eq_true rfl) (w_Me_codeAt hB  ((q13.2.2.2.1 (k10) 1)) (((q13.2.1 (k10) 3) + (1 : Int32))) c14 hq15 ⟨_, rfl, ?_⟩)
            refine r_istore_n f_Ru_doInstruction_30 ?_
            refine r_iload_n f_Ru_doInstruction_31 (lk_put_ne lk_put (by decide) (Or.inl rfl)) ?_
            refine r_bipush f_Ru_doInstruction_32 (v := 15) (by decide) ?_
            refine r_icmp_gt f_Ru_doInstruction_34 (fun c16 => ?_) (fun c16 => ?_)
            · rw [if_pos c16] at hF
              refine r_iload_n f_Ru_doInstruction_49 (lk_put_ne lk_put (by decide) (Or.inl rfl)) ?_
              refine r_bipush f_Ru_doInstruction_50 (v := 25) (by decide) ?_
              refine r_icmp_gt f_Ru_doInstruction_52 (fun c17 => ?_) (fun c17 => ?_)
              · rw [if_pos c17] at hF
                refine r_iload_n f_Ru_doInstruction_67 (lk_put_ne lk_put (by decide) (Or.inl rfl)) ?_
                refine r_bipush f_Ru_doInstruction_68 (v := 32) (by decide) ?_
                refine r_icmp_gt f_Ru_doInstruction_70 (fun c18 => ?_) (fun c18 => ?_)
                · rw [if_pos c18] at hF
                  refine r_aload_n f_Ru_doInstruction_84 (lk_put_ne (lk_put_ne (lk_put_ne rfl (by decide) (Or.inl rfl)) (by decide) (Or.inl rfl)) (by decide) (Or.inl rfl)) ?_
                  refine r_aload_n f_Ru_doInstruction_85 (lk_put_ne (lk_put_ne lk_put (by decide) (Or.inl rfl)) (by decide) (Or.inl rfl)) ?_
                  refine r_iload_n f_Ru_doInstruction_86 (lk_put_ne lk_put (by decide) (Or.inl rfl)) ?_
                  refine r_iload_n f_Ru_doInstruction_87 lk_put ?_
                  cases hq19 : F_Ru_doFlow (a0) (k10) (q13.1) (q15.1) q15.2 with
                  | none => simp only [hq19] at hF; cases hF
                  | some q19 =>
                    simp only [hq19] at hF
                    refine t_V3i hB ha0 rfl rfl f_Ru_doInstruction_88 (by decide) (Nat.le_of_ble_eq_true rfl) (Nat.le_of_ble_eq_true rfl) (w_Ru_doFlow hB (by omega) (a0) (k10) (q13.1) (q15.1) ha0 c11k hq19 ⟨_, rfl, ?_⟩)
                    refine r_istore f_Ru_doInstruction_91 ?_
                    exact w_Ru_doInstruction_93 hB hd  hQ _ (q19.2) (a0) (some (k10)) (q13.1) (q19.1) ha0 (lk_put_ne (lk_put_ne (lk_put_ne (lk_put_ne rfl (by decide) (Or.inl rfl)) (by decide) (Or.inl rfl)) (by decide) (Or.inl rfl)) (by decide) (Or.inl rfl)) (lk_put_ne (lk_put_ne (lk_put_ne lk_put (by decide) (Or.inl rfl)) (by decide) (Or.inl rfl)) (by decide) (Or.inl rfl)) (lk_put_ne (lk_put_ne lk_put (by decide) (Or.inl rfl)) (by decide) (Or.inl rfl)) lk_put hF
                · rw [if_neg c18] at hF
                  refine r_aload_n f_Ru_doInstruction_73 (lk_put_ne (lk_put_ne (lk_put_ne rfl (by decide) (Or.inl rfl)) (by decide) (Or.inl rfl)) (by decide) (Or.inl rfl)) ?_
                  refine r_aload_n f_Ru_doInstruction_74 (lk_put_ne (lk_put_ne lk_put (by decide) (Or.inl rfl)) (by decide) (Or.inl rfl)) ?_
                  refine r_iload_n f_Ru_doInstruction_75 (lk_put_ne lk_put (by decide) (Or.inl rfl)) ?_
                  cases hq20 : F_Ru_doValue (a0) (k10) (q13.1) q15.2 with
                  | none => simp only [hq20] at hF; cases hF
                  | some q20 =>
                    simp only [hq20] at hF
                    refine t_V2i hB ha0 rfl rfl f_Ru_doInstruction_76 (by decide) (Nat.le_of_ble_eq_true rfl) (Nat.le_of_ble_eq_true rfl) (w_Ru_doValue hB (by omega) (a0) (k10) (q13.1) ha0 c11k hq20 ⟨_, rfl, ?_⟩)
                    refine r_istore f_Ru_doInstruction_79 ?_
                    refine r_goto f_Ru_doInstruction_81 ?_
                    exact w_Ru_doInstruction_93 hB hd  hQ _ (q20.2) (a0) (some (k10)) (q13.1) (q20.1) ha0 (lk_put_ne (lk_put_ne (lk_put_ne (lk_put_ne rfl (by decide) (Or.inl rfl)) (by decide) (Or.inl rfl)) (by decide) (Or.inl rfl)) (by decide) (Or.inl rfl)) (lk_put_ne (lk_put_ne (lk_put_ne lk_put (by decide) (Or.inl rfl)) (by decide) (Or.inl rfl)) (by decide) (Or.inl rfl)) (lk_put_ne (lk_put_ne lk_put (by decide) (Or.inl rfl)) (by decide) (Or.inl rfl)) lk_put hF
              · rw [if_neg c17] at hF
                refine r_aload_n f_Ru_doInstruction_55 (lk_put_ne (lk_put_ne (lk_put_ne rfl (by decide) (Or.inl rfl)) (by decide) (Or.inl rfl)) (by decide) (Or.inl rfl)) ?_
                refine r_aload_n f_Ru_doInstruction_56 (lk_put_ne (lk_put_ne lk_put (by decide) (Or.inl rfl)) (by decide) (Or.inl rfl)) ?_
                refine r_iload_n f_Ru_doInstruction_57 (lk_put_ne lk_put (by decide) (Or.inl rfl)) ?_
                refine r_iload_n f_Ru_doInstruction_58 lk_put ?_
                cases hq21 : F_Ru_doThing (a0) (k10) (q13.1) (q15.1) q15.2 with
                | none => simp only [hq21] at hF; cases hF
                | some q21 =>
                  simp only [hq21] at hF
                  refine t_V3i hB ha0 rfl rfl f_Ru_doInstruction_59 (by decide) (Nat.le_of_ble_eq_true rfl) (Nat.le_of_ble_eq_true rfl) (w_Ru_doThing hB (by omega) (a0) (k10) (q13.1) (q15.1) ha0 c11k hq21 ⟨_, rfl, ?_⟩)
                  refine r_istore f_Ru_doInstruction_62 ?_
                  refine r_goto f_Ru_doInstruction_64 ?_
                  exact w_Ru_doInstruction_93 hB hd  hQ _ (q21.2) (a0) (some (k10)) (q13.1) (q21.1) ha0 (lk_put_ne (lk_put_ne (lk_put_ne (lk_put_ne rfl (by decide) (Or.inl rfl)) (by decide) (Or.inl rfl)) (by decide) (Or.inl rfl)) (by decide) (Or.inl rfl)) (lk_put_ne (lk_put_ne (lk_put_ne lk_put (by decide) (Or.inl rfl)) (by decide) (Or.inl rfl)) (by decide) (Or.inl rfl)) (lk_put_ne (lk_put_ne lk_put (by decide) (Or.inl rfl)) (by decide) (Or.inl rfl)) lk_put hF
            · rw [if_neg c16] at hF
              refine r_aload_n f_Ru_doInstruction_37 (lk_put_ne (lk_put_ne (lk_put_ne rfl (by decide) (Or.inl rfl)) (by decide) (Or.inl rfl)) (by decide) (Or.inl rfl)) ?_
              refine r_aload_n f_Ru_doInstruction_38 (lk_put_ne (lk_put_ne lk_put (by decide) (Or.inl rfl)) (by decide) (Or.inl rfl)) ?_
              refine r_iload_n f_Ru_doInstruction_39 (lk_put_ne lk_put (by decide) (Or.inl rfl)) ?_
              refine r_iload_n f_Ru_doInstruction_40 lk_put ?_
              cases hq22 : F_Ru_doSimple (a0) (k10) (q13.1) (q15.1) q15.2 with
              | none => simp only [hq22] at hF; cases hF
              | some q22 =>
                simp only [hq22] at hF
                refine t_V3i hB ha0 rfl rfl f_Ru_doInstruction_41 (by decide) (Nat.le_of_ble_eq_true rfl) (Nat.le_of_ble_eq_true rfl) (w_Ru_doSimple hB (by omega) (a0) (k10) (q13.1) (q15.1) ha0 c11k hq22 ⟨_, rfl, ?_⟩)
                refine r_istore f_Ru_doInstruction_44 ?_
                refine r_goto f_Ru_doInstruction_46 ?_
                exact w_Ru_doInstruction_93 hB hd  hQ _ (q22.2) (a0) (some (k10)) (q13.1) (q22.1) ha0 (lk_put_ne (lk_put_ne (lk_put_ne (lk_put_ne rfl (by decide) (Or.inl rfl)) (by decide) (Or.inl rfl)) (by decide) (Or.inl rfl)) (by decide) (Or.inl rfl)) (lk_put_ne (lk_put_ne (lk_put_ne lk_put (by decide) (Or.inl rfl)) (by decide) (Or.inl rfl)) (by decide) (Or.inl rfl)) (lk_put_ne (lk_put_ne lk_put (by decide) (Or.inl rfl)) (by decide) (Or.inl rfl)) lk_put hF
      · rw [if_neg c11k] at hF; cases hF
theorem f_Ru_entriesOf_0 : fetch 154 0 = some (.iload_n 1, 1, 0, 0, 0) := rfl
theorem f_Ru_entriesOf_1 : fetch 154 1 = some (.ifCond .lt 22, 3, 23, 0, 0) := rfl
theorem f_Ru_entriesOf_4 : fetch 154 4 = some (.iload_n 1, 1, 0, 0, 0) := rfl
theorem f_Ru_entriesOf_5 : fetch 154 5 = some (.bipush 6, 2, 0, 0, 0) := rfl
theorem f_Ru_entriesOf_7 : fetch 154 7 = some (.if_icmp .ge 16, 3, 23, 0, 0) := rfl
theorem f_Ru_entriesOf_10 : fetch 154 10 = some (.iload_n 2, 1, 0, 0, 0) := rfl
theorem f_Ru_entriesOf_11 : fetch 154 11 = some (.ifCond .lt 12, 3, 23, 0, 0) := rfl
theorem f_Ru_entriesOf_14 : fetch 154 14 = some (.iload_n 2, 1, 0, 0, 0) := rfl
theorem f_Ru_entriesOf_15 : fetch 154 15 = some (.iconst 3, 1, 0, 0, 0) := rfl
theorem f_Ru_entriesOf_16 : fetch 154 16 = some (.if_icmp .ge 7, 3, 23, 0, 0) := rfl
theorem f_Ru_entriesOf_19 : fetch 154 19 = some (.iconst 1, 1, 0, 0, 0) := rfl
theorem f_Ru_entriesOf_20 : fetch 154 20 = some (.goto 4, 3, 24, 0, 0) := rfl
theorem f_Ru_entriesOf_23 : fetch 154 23 = some (.iconst 0, 1, 0, 0, 0) := rfl
theorem f_Ru_entriesOf_24 : fetch 154 24 = some (.istore_n 3, 1, 0, 0, 0) := rfl
theorem f_Ru_entriesOf_25 : fetch 154 25 = some (.iload_n 3, 1, 0, 0, 0) := rfl
theorem f_Ru_entriesOf_26 : fetch 154 26 = some (.ifCond .eq 16, 3, 42, 0, 0) := rfl
theorem f_Ru_entriesOf_29 : fetch 154 29 = some (.aload_n 0, 1, 0, 0, 0) := rfl
theorem f_Ru_entriesOf_30 : fetch 154 30 = some (.getfield 38, 3, 5, 4, 104) := rfl
theorem f_Ru_entriesOf_33 : fetch 154 33 = some (.iload_n 1, 1, 0, 0, 0) := rfl
theorem f_Ru_entriesOf_34 : fetch 154 34 = some (.iconst 3, 1, 0, 0, 0) := rfl
theorem f_Ru_entriesOf_35 : fetch 154 35 = some (.imul, 1, 0, 0, 0) := rfl
theorem f_Ru_entriesOf_36 : fetch 154 36 = some (.iload_n 2, 1, 0, 0, 0) := rfl
theorem f_Ru_entriesOf_37 : fetch 154 37 = some (.iadd, 1, 0, 0, 0) := rfl
theorem f_Ru_entriesOf_38 : fetch 154 38 = some (.iaload, 1, 0, 0, 0) := rfl
theorem f_Ru_entriesOf_39 : fetch 154 39 = some (.goto 4, 3, 43, 0, 0) := rfl
theorem f_Ru_entriesOf_42 : fetch 154 42 = some (.iconst 0, 1, 0, 0, 0) := rfl
theorem f_Ru_entriesOf_43 : fetch 154 43 = some (.ireturn, 1, 0, 0, 0) := rfl
def F_Ru_entriesOf_43  (y0 : Int32) (σ : SG) : Option (Int32 × SG) :=
  some (y0, σ)
set_option maxHeartbeats 4000000 in
theorem w_Ru_entriesOf_43 {b d : Nat} {sc : SC} {pre tl : List PE} {B : Nat} {Q : Option Value → List PE → Prop} {res : Int32 × SG} (hB : B = b + pre.length)   (hQ : Q (some (.int res.1)) (HH pre tl SHc B res.2)) (lv : LV) (σ : SG) (y0 : Int32)  (hF : F_Ru_entriesOf_43  y0 σ = some res) : Rn b sc d 154 43 lv [.int (y0)] (HH pre tl SHc B σ) Q := by
  unfold F_Ru_entriesOf_43 at hF
  cases hF
  exact r_ireturn f_Ru_entriesOf_43 hQ
def F_Ru_entriesOf_24  (x0 : Nat) (x1 : Int32) (x2 : Int32) (y0 : Bool) (σ : SG) : Option (Int32 × SG) :=
  if y0 = true then
  if ((x1 * (3 : Int32)) + x2) < 0 ∨ 18 ≤ (((x1 * (3 : Int32)) + x2)).toNatClampNeg then none else
  F_Ru_entriesOf_43 ((σ.2.2.2.1 ((cref SHc (x0) 4)) ((((x1 * (3 : Int32)) + x2)).toNatClampNeg))) σ
  else F_Ru_entriesOf_43 ((0 : Int32)) σ
set_option maxHeartbeats 4000000 in
theorem w_Ru_entriesOf_24 {b d : Nat} {sc : SC} {pre tl : List PE} {B : Nat} {Q : Option Value → List PE → Prop} {res : Int32 × SG} (hB : B = b + pre.length)   (hQ : Q (some (.int res.1)) (HH pre tl SHc B res.2)) (lv : LV) (σ : SG) (x0 : Nat) (x1 : Int32) (x2 : Int32) (y0 : Bool) (hx0 : isC SHc (x0) 5 = true) (l0 : lv.lookup 0 = some (.ref (B + (x0)))) (l1 : lv.lookup 1 = some (.int (x1))) (l2 : lv.lookup 2 = some (.int (x2))) (hF : F_Ru_entriesOf_24  x0 x1 x2 y0 σ = some res) : Rn b sc d 154 24 lv [.int (bz (y0))] (HH pre tl SHc B σ) Q := by
  unfold F_Ru_entriesOf_24 at hF
  refine r_istore_n f_Ru_entriesOf_24 ?_
  refine r_iload_n f_Ru_entriesOf_25 lk_put ?_
  refine r_if_eq f_Ru_entriesOf_26 (fun c1 => ?_) (fun c1 => ?_)
  · rw [if_neg (bz_nt c1)] at hF
    refine r_iconst f_Ru_entriesOf_42 (v := 0) (by decide) ?_
    exact w_Ru_entriesOf_43 hB   hQ _ (σ) ((0 : Int32)) hF
  · rw [if_pos (bz_t c1)] at hF
    refine r_aload_n f_Ru_entriesOf_29 (lk_put_ne l0 (by decide) (Or.inl rfl)) ?_
    refine t_getc hB hx0 f_Ru_entriesOf_30 rfl ?_
    refine r_iload_n f_Ru_entriesOf_33 (lk_put_ne l1 (by decide) (Or.inl rfl)) ?_
    refine r_iconst f_Ru_entriesOf_34 (v := 3) (by decide) ?_
    refine r_imul f_Ru_entriesOf_35 ?_
    refine r_iload_n f_Ru_entriesOf_36 (lk_put_ne l2 (by decide) (Or.inl rfl)) ?_
    refine r_iadd f_Ru_entriesOf_37 ?_
    by_cases c2 : ((x1 * (3 : Int32)) + x2) < 0 ∨ 18 ≤ (((x1 * (3 : Int32)) + x2)).toNatClampNeg
    · rw [if_pos c2] at hF; cases hF
    rw [if_neg c2] at hF
    refine t_iald hB (cc_5_4 hx0) f_Ru_entriesOf_38 c2 ?_
    refine r_goto f_Ru_entriesOf_39 ?_
    exact w_Ru_entriesOf_43 hB   hQ _ (σ) ((σ.2.2.2.1 ((cref SHc (x0) 4)) ((((x1 * (3 : Int32)) + x2)).toNatClampNeg))) hF
def F_Ru_entriesOf_23  (x0 : Nat) (x1 : Int32) (x2 : Int32) (σ : SG) : Option (Int32 × SG) :=
  F_Ru_entriesOf_24 (x0) (x1) (x2) (false) σ
set_option maxHeartbeats 4000000 in
theorem w_Ru_entriesOf_23 {b d : Nat} {sc : SC} {pre tl : List PE} {B : Nat} {Q : Option Value → List PE → Prop} {res : Int32 × SG} (hB : B = b + pre.length)   (hQ : Q (some (.int res.1)) (HH pre tl SHc B res.2)) (lv : LV) (σ : SG) (x0 : Nat) (x1 : Int32) (x2 : Int32) (hx0 : isC SHc (x0) 5 = true) (l0 : lv.lookup 0 = some (.ref (B + (x0)))) (l1 : lv.lookup 1 = some (.int (x1))) (l2 : lv.lookup 2 = some (.int (x2))) (hF : F_Ru_entriesOf_23  x0 x1 x2 σ = some res) : Rn b sc d 154 23 lv [] (HH pre tl SHc B σ) Q := by
  unfold F_Ru_entriesOf_23 at hF
  refine r_iconst f_Ru_entriesOf_23 (v := 0) (by decide) ?_
  exact w_Ru_entriesOf_24 hB   hQ _ (σ) (x0) (x1) (x2) (false) hx0 l0 l1 l2 hF
def F_Ru_entriesOf (a0 : Nat) (a1 : Int32) (a2 : Int32) (σ : SG) : Option (Int32 × SG) :=
  if a1 < 0 then
  F_Ru_entriesOf_23 (a0) (a1) (a2) σ
  else if (6 : Int32) ≤ a1 then
  F_Ru_entriesOf_23 (a0) (a1) (a2) σ
  else if a2 < 0 then
  F_Ru_entriesOf_23 (a0) (a1) (a2) σ
  else if (3 : Int32) ≤ a2 then
  F_Ru_entriesOf_23 (a0) (a1) (a2) σ
  else F_Ru_entriesOf_24 (a0) (a1) (a2) (true) σ
set_option maxHeartbeats 4000000 in
theorem w_Ru_entriesOf {b d : Nat} {pre tl : List PE} {B : Nat} {Q : Option Value → List PE → Prop} {res : Int32 × SG} (hB : B = b + pre.length)  {σ : SG} (a0 : Nat) (a1 : Int32) (a2 : Int32) (ha0 : isC SHc (a0) 5 = true) (hF : F_Ru_entriesOf a0 a1 a2 σ = some res) (hQ : Q (some (.int res.1)) (HH pre tl SHc B res.2)) : Cl b d 154 [.ref (B + (a0)), .int (a1), .int (a2)] (HH pre tl SHc B σ) Q := by
  unfold Cl
  unfold F_Ru_entriesOf at hF
  refine r_iload_n f_Ru_entriesOf_0 rfl ?_
  refine r_if_lt f_Ru_entriesOf_1 (fun c3 => ?_) (fun c3 => ?_)
  · rw [if_pos c3] at hF
    exact w_Ru_entriesOf_23 hB   hQ _ (σ) (a0) (a1) (a2) ha0 rfl rfl rfl hF
  · rw [if_neg c3] at hF
    refine r_iload_n f_Ru_entriesOf_4 rfl ?_
    refine r_bipush f_Ru_entriesOf_5 (v := 6) (by decide) ?_
    refine r_icmp_ge f_Ru_entriesOf_7 (fun c4 => ?_) (fun c4 => ?_)
    · rw [if_pos c4] at hF
      exact w_Ru_entriesOf_23 hB   hQ _ (σ) (a0) (a1) (a2) ha0 rfl rfl rfl hF
    · rw [if_neg c4] at hF
      refine r_iload_n f_Ru_entriesOf_10 rfl ?_
      refine r_if_lt f_Ru_entriesOf_11 (fun c5 => ?_) (fun c5 => ?_)
      · rw [if_pos c5] at hF
        exact w_Ru_entriesOf_23 hB   hQ _ (σ) (a0) (a1) (a2) ha0 rfl rfl rfl hF
      · rw [if_neg c5] at hF
        refine r_iload_n f_Ru_entriesOf_14 rfl ?_
        refine r_iconst f_Ru_entriesOf_15 (v := 3) (by decide) ?_
        refine r_icmp_ge f_Ru_entriesOf_16 (fun c6 => ?_) (fun c6 => ?_)
        · rw [if_pos c6] at hF
          exact w_Ru_entriesOf_23 hB   hQ _ (σ) (a0) (a1) (a2) ha0 rfl rfl rfl hF
        · rw [if_neg c6] at hF
          refine r_iconst f_Ru_entriesOf_19 (v := 1) (by decide) ?_
          refine r_goto f_Ru_entriesOf_20 ?_
          exact w_Ru_entriesOf_24 hB   hQ _ (σ) (a0) (a1) (a2) (true) ha0 rfl rfl rfl hF
theorem f_Rw_size_0 : fetch 156 0 = some (.iconst 0, 1, 0, 0, 0) := rfl
theorem f_Rw_size_1 : fetch 156 1 = some (.istore_n 1, 1, 0, 0, 0) := rfl
theorem f_Rw_size_2 : fetch 156 2 = some (.iload_n 1, 1, 0, 0, 0) := rfl
theorem f_Rw_size_3 : fetch 156 3 = some (.bipush 8, 2, 0, 0, 0) := rfl
theorem f_Rw_size_5 : fetch 156 5 = some (.if_icmp .ge 17, 3, 22, 0, 0) := rfl
theorem f_Rw_size_8 : fetch 156 8 = some (.iload_n 0, 1, 0, 0, 0) := rfl
theorem f_Rw_size_9 : fetch 156 9 = some (.iconst 4, 1, 0, 0, 0) := rfl
theorem f_Rw_size_10 : fetch 156 10 = some (.iload_n 1, 1, 0, 0, 0) := rfl
theorem f_Rw_size_11 : fetch 156 11 = some (.imul, 1, 0, 0, 0) := rfl
theorem f_Rw_size_12 : fetch 156 12 = some (.iushr, 1, 0, 0, 0) := rfl
theorem f_Rw_size_13 : fetch 156 13 = some (.ifCond .eq 9, 3, 22, 0, 0) := rfl
theorem f_Rw_size_16 : fetch 156 16 = some (.iinc 1 1, 3, 0, 0, 0) := rfl
theorem f_Rw_size_19 : fetch 156 19 = some (.goto (-17), 3, 2, 0, 0) := rfl
theorem f_Rw_size_22 : fetch 156 22 = some (.iload_n 1, 1, 0, 0, 0) := rfl
theorem f_Rw_size_23 : fetch 156 23 = some (.ireturn, 1, 0, 0, 0) := rfl
def F_Rw_size_22  (x1 : Int32) (σ : SG) : Option (Int32 × SG) :=
  some (x1, σ)
set_option maxHeartbeats 4000000 in
theorem w_Rw_size_22 {b d : Nat} {sc : SC} {pre tl : List PE} {B : Nat} {Q : Option Value → List PE → Prop} {res : Int32 × SG} (hB : B = b + pre.length)   (hQ : Q (some (.int res.1)) (HH pre tl SHc B res.2)) (lv : LV) (σ : SG) (x1 : Int32) (l1 : lv.lookup 1 = some (.int (x1))) (hF : F_Rw_size_22  x1 σ = some res) : Rn b sc d 156 22 lv [] (HH pre tl SHc B σ) Q := by
  unfold F_Rw_size_22 at hF
  refine r_iload_n f_Rw_size_22 l1 ?_
  cases hF
  exact r_ireturn f_Rw_size_23 hQ
def F_Rw_size_2  : Nat → Int32 → Int32 → SG → Option (Int32 × SG)
  | 0, _, _, _ => none
  | n + 1, x0, x1, σ =>
  if (8 : Int32) ≤ x1 then
  F_Rw_size_22 (x1) σ
  else if (((x0).toUInt32 >>> ((((4 : Int32) * x1)).toUInt32 &&& Int32.toUInt32 31)).toInt32) = 0 then
  F_Rw_size_22 (x1) σ
  else F_Rw_size_2  n (x0) ((x1 + 1)) σ
set_option maxHeartbeats 4000000 in
theorem w_Rw_size_2 {b d : Nat} {sc : SC} {pre tl : List PE} {B : Nat} {Q : Option Value → List PE → Prop} {res : Int32 × SG} (hB : B = b + pre.length)   (hQ : Q (some (.int res.1)) (HH pre tl SHc B res.2)) : ∀ (n : Nat) (lv : LV) (σ : SG) (x0 : Int32) (x1 : Int32), lv.lookup 0 = some (.int (x0)) → lv.lookup 1 = some (.int (x1)) → F_Rw_size_2  n x0 x1 σ = some res → Rn b sc d 156 2 lv [] (HH pre tl SHc B σ) Q := by
  intro n
  induction n with
  | zero => intro lv σ x0 x1 l0 l1 hF; cases hF
  | succ n ih =>
    intro lv σ x0 x1 l0 l1 hF
    unfold F_Rw_size_2 at hF
    refine r_iload_n f_Rw_size_2 l1 ?_
    refine r_bipush f_Rw_size_3 (v := 8) (by decide) ?_
    refine r_icmp_ge f_Rw_size_5 (fun c1 => ?_) (fun c1 => ?_)
    · rw [if_pos c1] at hF
      exact w_Rw_size_22 hB   hQ _ (σ) (x1) l1 hF
    · rw [if_neg c1] at hF
      refine r_iload_n f_Rw_size_8 l0 ?_
      refine r_iconst f_Rw_size_9 (v := 4) (by decide) ?_
      refine r_iload_n f_Rw_size_10 l1 ?_
      refine r_imul f_Rw_size_11 ?_
      refine r_iushr f_Rw_size_12 ?_
      refine r_if_eq f_Rw_size_13 (fun c2 => ?_) (fun c2 => ?_)
      · rw [if_pos c2] at hF
        exact w_Rw_size_22 hB   hQ _ (σ) (x1) l1 hF
      · rw [if_neg c2] at hF
        refine r_iinc f_Rw_size_16 l1 (w := x1 + 1) rfl ?_
        refine r_goto f_Rw_size_19 ?_
        exact ih _ (σ) (x0) ((x1 + 1)) (lk_put_ne l0 (by decide) (Or.inl rfl)) lk_put hF
def F_Rw_size (a0 : Int32) (σ : SG) : Option (Int32 × SG) :=
  F_Rw_size_2  5000 (a0) ((0 : Int32)) σ
set_option maxHeartbeats 4000000 in
theorem w_Rw_size {b d : Nat} {pre tl : List PE} {B : Nat} {Q : Option Value → List PE → Prop} {res : Int32 × SG} (hB : B = b + pre.length)  {σ : SG} (a0 : Int32)  (hF : F_Rw_size a0 σ = some res) (hQ : Q (some (.int res.1)) (HH pre tl SHc B res.2)) : Cl b d 156 [.int (a0)] (HH pre tl SHc B σ) Q := by
  unfold Cl
  unfold F_Rw_size at hF
  refine r_iconst f_Rw_size_0 (v := 0) (by decide) ?_
  refine r_istore_n f_Rw_size_1 ?_
  exact w_Rw_size_2 hB   hQ 5000 _ (σ) (a0) ((0 : Int32)) (lk_put_ne rfl (by decide) (Or.inl rfl)) lk_put hF
theorem f_Rw_with_0 : fetch 155 0 = some (.iload_n 0, 1, 0, 0, 0) := rfl
theorem f_Rw_with_1 : fetch 155 1 = some (.invokestatic 11, 3, 156, 1, 161) := rfl
theorem f_Rw_with_4 : fetch 155 4 = some (.istore_n 2, 1, 0, 0, 0) := rfl
theorem f_Rw_with_5 : fetch 155 5 = some (.iload_n 0, 1, 0, 0, 0) := rfl
theorem f_Rw_with_6 : fetch 155 6 = some (.iconst (-1), 1, 0, 0, 0) := rfl
theorem f_Rw_with_7 : fetch 155 7 = some (.if_icmp .eq 13, 3, 20, 0, 0) := rfl
theorem f_Rw_with_10 : fetch 155 10 = some (.iload_n 2, 1, 0, 0, 0) := rfl
theorem f_Rw_with_11 : fetch 155 11 = some (.bipush 8, 2, 0, 0, 0) := rfl
theorem f_Rw_with_13 : fetch 155 13 = some (.if_icmp .ge 7, 3, 20, 0, 0) := rfl
theorem f_Rw_with_16 : fetch 155 16 = some (.iload_n 1, 1, 0, 0, 0) := rfl
theorem f_Rw_with_17 : fetch 155 17 = some (.ifCond .ne 5, 3, 22, 0, 0) := rfl
theorem f_Rw_with_20 : fetch 155 20 = some (.iconst (-1), 1, 0, 0, 0) := rfl
theorem f_Rw_with_21 : fetch 155 21 = some (.ireturn, 1, 0, 0, 0) := rfl
theorem f_Rw_with_22 : fetch 155 22 = some (.iload_n 0, 1, 0, 0, 0) := rfl
theorem f_Rw_with_23 : fetch 155 23 = some (.iload_n 1, 1, 0, 0, 0) := rfl
theorem f_Rw_with_24 : fetch 155 24 = some (.iconst 4, 1, 0, 0, 0) := rfl
theorem f_Rw_with_25 : fetch 155 25 = some (.iload_n 2, 1, 0, 0, 0) := rfl
theorem f_Rw_with_26 : fetch 155 26 = some (.imul, 1, 0, 0, 0) := rfl
theorem f_Rw_with_27 : fetch 155 27 = some (.ishl, 1, 0, 0, 0) := rfl
theorem f_Rw_with_28 : fetch 155 28 = some (.ior, 1, 0, 0, 0) := rfl
theorem f_Rw_with_29 : fetch 155 29 = some (.ireturn, 1, 0, 0, 0) := rfl
def F_Rw_with_20   (σ : SG) : Option (Int32 × SG) :=
  some (((-1) : Int32), σ)
set_option maxHeartbeats 4000000 in
theorem w_Rw_with_20 {b d : Nat} {sc : SC} {pre tl : List PE} {B : Nat} {Q : Option Value → List PE → Prop} {res : Int32 × SG} (hB : B = b + pre.length) (hd : 1 ≤ d)   (hQ : Q (some (.int res.1)) (HH pre tl SHc B res.2)) (lv : LV) (σ : SG)   (hF : F_Rw_with_20   σ = some res) : Rn b sc d 155 20 lv [] (HH pre tl SHc B σ) Q := by
  obtain ⟨e0, rfl⟩ : ∃ e, d = e + 1 := ⟨d - 1, by omega⟩
  unfold F_Rw_with_20 at hF
  refine r_iconst f_Rw_with_20 (v := (-1)) (by decide) ?_
  cases hF
  exact r_ireturn f_Rw_with_21 hQ
def F_Rw_with (a0 : Int32) (a1 : Int32) (σ : SG) : Option (Int32 × SG) :=
  match F_Rw_size (a0) σ with
  | none => none
  | some q1 =>
  if a0 = ((-1) : Int32) then
  F_Rw_with_20 q1.2
  else if (8 : Int32) ≤ q1.1 then
  F_Rw_with_20 q1.2
  else if a1 = 0 then
  F_Rw_with_20 q1.2
  else some ((a0 ||| (a1 <<< (((4 : Int32) * q1.1) &&& 31))), q1.2)
set_option maxHeartbeats 4000000 in
theorem w_Rw_with {b d : Nat} {pre tl : List PE} {B : Nat} {Q : Option Value → List PE → Prop} {res : Int32 × SG} (hB : B = b + pre.length) (hd : 1 ≤ d)  {σ : SG} (a0 : Int32) (a1 : Int32)  (hF : F_Rw_with a0 a1 σ = some res) (hQ : Q (some (.int res.1)) (HH pre tl SHc B res.2)) : Cl b d 155 [.int (a0), .int (a1)] (HH pre tl SHc B σ) Q := by
  obtain ⟨e0, rfl⟩ : ∃ e, d = e + 1 := ⟨d - 1, by omega⟩
  unfold Cl
  unfold F_Rw_with at hF
  refine r_iload_n f_Rw_with_0 rfl ?_
  cases hq1 : F_Rw_size (a0) σ with
  | none => simp only [hq1] at hF; cases hF
  | some q1 =>
    simp only [hq1] at hF
    refine t_S1i f_Rw_with_1 (by decide) (Nat.le_of_ble_eq_true rfl) (Nat.le_of_ble_eq_true rfl) (w_Rw_size hB  (a0)  hq1 ⟨_, rfl, ?_⟩)
    refine r_istore_n f_Rw_with_4 ?_
    refine r_iload_n f_Rw_with_5 (lk_put_ne rfl (by decide) (Or.inl rfl)) ?_
    refine r_iconst f_Rw_with_6 (v := (-1)) (by decide) ?_
    refine r_icmp_eq f_Rw_with_7 (fun c2 => ?_) (fun c2 => ?_)
    · rw [if_pos c2] at hF
      exact w_Rw_with_20 hB hd  hQ _ (q1.2) hF
    · rw [if_neg c2] at hF
      refine r_iload_n f_Rw_with_10 lk_put ?_
      refine r_bipush f_Rw_with_11 (v := 8) (by decide) ?_
      refine r_icmp_ge f_Rw_with_13 (fun c3 => ?_) (fun c3 => ?_)
      · rw [if_pos c3] at hF
        exact w_Rw_with_20 hB hd  hQ _ (q1.2) hF
      · rw [if_neg c3] at hF
        refine r_iload_n f_Rw_with_16 (lk_put_ne rfl (by decide) (Or.inl rfl)) ?_
        refine r_if_ne f_Rw_with_17 (fun c4 => ?_) (fun c4 => ?_)
        · rw [if_neg c4] at hF
          refine r_iload_n f_Rw_with_22 (lk_put_ne rfl (by decide) (Or.inl rfl)) ?_
          refine r_iload_n f_Rw_with_23 (lk_put_ne rfl (by decide) (Or.inl rfl)) ?_
          refine r_iconst f_Rw_with_24 (v := 4) (by decide) ?_
          refine r_iload_n f_Rw_with_25 lk_put ?_
          refine r_imul f_Rw_with_26 ?_
          refine r_ishl f_Rw_with_27 ?_
          refine r_ior f_Rw_with_28 ?_
          cases hF
          exact r_ireturn f_Rw_with_29 hQ
        · rw [if_pos (Decidable.not_not.mp c4)] at hF
          exact w_Rw_with_20 hB hd  hQ _ (q1.2) hF
theorem f_Rw_typeAt_0 : fetch 158 0 = some (.iload_n 1, 1, 0, 0, 0) := rfl
theorem f_Rw_typeAt_1 : fetch 158 1 = some (.ifCond .lt 9, 3, 10, 0, 0) := rfl
theorem f_Rw_typeAt_4 : fetch 158 4 = some (.iload_n 1, 1, 0, 0, 0) := rfl
theorem f_Rw_typeAt_5 : fetch 158 5 = some (.bipush 8, 2, 0, 0, 0) := rfl
theorem f_Rw_typeAt_7 : fetch 158 7 = some (.if_icmp .lt 7, 3, 14, 0, 0) := rfl
theorem f_Rw_typeAt_10 : fetch 158 10 = some (.iconst 0, 1, 0, 0, 0) := rfl
theorem f_Rw_typeAt_11 : fetch 158 11 = some (.goto 11, 3, 22, 0, 0) := rfl
theorem f_Rw_typeAt_14 : fetch 158 14 = some (.iload_n 0, 1, 0, 0, 0) := rfl
theorem f_Rw_typeAt_15 : fetch 158 15 = some (.iconst 4, 1, 0, 0, 0) := rfl
theorem f_Rw_typeAt_16 : fetch 158 16 = some (.iload_n 1, 1, 0, 0, 0) := rfl
theorem f_Rw_typeAt_17 : fetch 158 17 = some (.imul, 1, 0, 0, 0) := rfl
theorem f_Rw_typeAt_18 : fetch 158 18 = some (.iushr, 1, 0, 0, 0) := rfl
theorem f_Rw_typeAt_19 : fetch 158 19 = some (.bipush 15, 2, 0, 0, 0) := rfl
theorem f_Rw_typeAt_21 : fetch 158 21 = some (.iand, 1, 0, 0, 0) := rfl
theorem f_Rw_typeAt_22 : fetch 158 22 = some (.ireturn, 1, 0, 0, 0) := rfl
def F_Rw_typeAt_22  (y0 : Int32) (σ : SG) : Option (Int32 × SG) :=
  some (y0, σ)
set_option maxHeartbeats 4000000 in
theorem w_Rw_typeAt_22 {b d : Nat} {sc : SC} {pre tl : List PE} {B : Nat} {Q : Option Value → List PE → Prop} {res : Int32 × SG} (hB : B = b + pre.length)   (hQ : Q (some (.int res.1)) (HH pre tl SHc B res.2)) (lv : LV) (σ : SG) (y0 : Int32)  (hF : F_Rw_typeAt_22  y0 σ = some res) : Rn b sc d 158 22 lv [.int (y0)] (HH pre tl SHc B σ) Q := by
  unfold F_Rw_typeAt_22 at hF
  cases hF
  exact r_ireturn f_Rw_typeAt_22 hQ
def F_Rw_typeAt_10   (σ : SG) : Option (Int32 × SG) :=
  F_Rw_typeAt_22 ((0 : Int32)) σ
set_option maxHeartbeats 4000000 in
theorem w_Rw_typeAt_10 {b d : Nat} {sc : SC} {pre tl : List PE} {B : Nat} {Q : Option Value → List PE → Prop} {res : Int32 × SG} (hB : B = b + pre.length)   (hQ : Q (some (.int res.1)) (HH pre tl SHc B res.2)) (lv : LV) (σ : SG)   (hF : F_Rw_typeAt_10   σ = some res) : Rn b sc d 158 10 lv [] (HH pre tl SHc B σ) Q := by
  unfold F_Rw_typeAt_10 at hF
  refine r_iconst f_Rw_typeAt_10 (v := 0) (by decide) ?_
  refine r_goto f_Rw_typeAt_11 ?_
  exact w_Rw_typeAt_22 hB   hQ _ (σ) ((0 : Int32)) hF
def F_Rw_typeAt (a0 : Int32) (a1 : Int32) (σ : SG) : Option (Int32 × SG) :=
  if a1 < 0 then
  F_Rw_typeAt_10 σ
  else if a1 < (8 : Int32) then
  F_Rw_typeAt_22 (((((a0).toUInt32 >>> ((((4 : Int32) * a1)).toUInt32 &&& Int32.toUInt32 31)).toInt32) &&& (15 : Int32))) σ
  else F_Rw_typeAt_10 σ
set_option maxHeartbeats 4000000 in
theorem w_Rw_typeAt {b d : Nat} {pre tl : List PE} {B : Nat} {Q : Option Value → List PE → Prop} {res : Int32 × SG} (hB : B = b + pre.length)  {σ : SG} (a0 : Int32) (a1 : Int32)  (hF : F_Rw_typeAt a0 a1 σ = some res) (hQ : Q (some (.int res.1)) (HH pre tl SHc B res.2)) : Cl b d 158 [.int (a0), .int (a1)] (HH pre tl SHc B σ) Q := by
  unfold Cl
  unfold F_Rw_typeAt at hF
  refine r_iload_n f_Rw_typeAt_0 rfl ?_
  refine r_if_lt f_Rw_typeAt_1 (fun c1 => ?_) (fun c1 => ?_)
  · rw [if_pos c1] at hF
    exact w_Rw_typeAt_10 hB   hQ _ (σ) hF
  · rw [if_neg c1] at hF
    refine r_iload_n f_Rw_typeAt_4 rfl ?_
    refine r_bipush f_Rw_typeAt_5 (v := 8) (by decide) ?_
    refine r_icmp_lt f_Rw_typeAt_7 (fun c2 => ?_) (fun c2 => ?_)
    · rw [if_pos c2] at hF
      refine r_iload_n f_Rw_typeAt_14 rfl ?_
      refine r_iconst f_Rw_typeAt_15 (v := 4) (by decide) ?_
      refine r_iload_n f_Rw_typeAt_16 rfl ?_
      refine r_imul f_Rw_typeAt_17 ?_
      refine r_iushr f_Rw_typeAt_18 ?_
      refine r_bipush f_Rw_typeAt_19 (v := 15) (by decide) ?_
      refine r_iand f_Rw_typeAt_21 ?_
      exact w_Rw_typeAt_22 hB   hQ _ (σ) (((((a0).toUInt32 >>> ((((4 : Int32) * a1)).toUInt32 &&& Int32.toUInt32 31)).toInt32) &&& (15 : Int32))) hF
    · rw [if_neg c2] at hF
      exact w_Rw_typeAt_10 hB   hQ _ (σ) hF
