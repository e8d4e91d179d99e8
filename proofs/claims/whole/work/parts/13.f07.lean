theorem f_Mo_call_0 : fetch 87 0 = some (.aload_n 0, 1, 0, 0, 0) := rfl
theorem f_Mo_call_1 : fetch 87 1 = some (.getfield 275, 3, 8, 31, 71) := rfl
theorem f_Mo_call_4 : fetch 87 4 = some (.bipush 8, 2, 0, 0, 0) := rfl
theorem f_Mo_call_6 : fetch 87 6 = some (.if_icmp .ne 9, 3, 15, 0, 0) := rfl
theorem f_Mo_call_9 : fetch 87 9 = some (.aload_n 0, 1, 0, 0, 0) := rfl
theorem f_Mo_call_10 : fetch 87 10 = some (.iconst 5, 1, 0, 0, 0) := rfl
theorem f_Mo_call_11 : fetch 87 11 = some (.putfield 287, 3, 8, 44, 72) := rfl
theorem f_Mo_call_14 : fetch 87 14 = some (.return_, 1, 0, 0, 0) := rfl
theorem f_Mo_call_15 : fetch 87 15 = some (.aload_n 0, 1, 0, 0, 0) := rfl
theorem f_Mo_call_16 : fetch 87 16 = some (.getfield 22, 3, 8, 9, 31) := rfl
theorem f_Mo_call_19 : fetch 87 19 = some (.iload_n 1, 1, 0, 0, 0) := rfl
theorem f_Mo_call_20 : fetch 87 20 = some (.iaload, 1, 0, 0, 0) := rfl
theorem f_Mo_call_21 : fetch 87 21 = some (.iconst 1, 1, 0, 0, 0) := rfl
theorem f_Mo_call_22 : fetch 87 22 = some (.isub, 1, 0, 0, 0) := rfl
theorem f_Mo_call_23 : fetch 87 23 = some (.istore_n 2, 1, 0, 0, 0) := rfl
theorem f_Mo_call_24 : fetch 87 24 = some (.iload_n 2, 1, 0, 0, 0) := rfl
theorem f_Mo_call_25 : fetch 87 25 = some (.ifCond .lt 51, 3, 76, 0, 0) := rfl
theorem f_Mo_call_28 : fetch 87 28 = some (.aload_n 0, 1, 0, 0, 0) := rfl
theorem f_Mo_call_29 : fetch 87 29 = some (.invokevirtual 308, 3, 78, 0, 86) := rfl
theorem f_Mo_call_32 : fetch 87 32 = some (.istore_n 3, 1, 0, 0, 0) := rfl
theorem f_Mo_call_33 : fetch 87 33 = some (.aload_n 0, 1, 0, 0, 0) := rfl
theorem f_Mo_call_34 : fetch 87 34 = some (.getfield 84, 3, 8, 37, 51) := rfl
theorem f_Mo_call_37 : fetch 87 37 = some (.bipush 32, 2, 0, 0, 0) := rfl
theorem f_Mo_call_39 : fetch 87 39 = some (.iconst 3, 1, 0, 0, 0) := rfl
theorem f_Mo_call_40 : fetch 87 40 = some (.aload_n 0, 1, 0, 0, 0) := rfl
theorem f_Mo_call_41 : fetch 87 41 = some (.getfield 275, 3, 8, 31, 71) := rfl
theorem f_Mo_call_44 : fetch 87 44 = some (.imul, 1, 0, 0, 0) := rfl
theorem f_Mo_call_45 : fetch 87 45 = some (.iadd, 1, 0, 0, 0) := rfl
theorem f_Mo_call_46 : fetch 87 46 = some (.iload_n 2, 1, 0, 0, 0) := rfl
theorem f_Mo_call_47 : fetch 87 47 = some (.iadd, 1, 0, 0, 0) := rfl
theorem f_Mo_call_48 : fetch 87 48 = some (.iload_n 3, 1, 0, 0, 0) := rfl
theorem f_Mo_call_49 : fetch 87 49 = some (.iastore, 1, 0, 0, 0) := rfl
theorem f_Mo_call_50 : fetch 87 50 = some (.aload_n 0, 1, 0, 0, 0) := rfl
theorem f_Mo_call_51 : fetch 87 51 = some (.getfield 87, 3, 8, 38, 52) := rfl
theorem f_Mo_call_54 : fetch 87 54 = some (.bipush 32, 2, 0, 0, 0) := rfl
theorem f_Mo_call_56 : fetch 87 56 = some (.iconst 3, 1, 0, 0, 0) := rfl
theorem f_Mo_call_57 : fetch 87 57 = some (.aload_n 0, 1, 0, 0, 0) := rfl
theorem f_Mo_call_58 : fetch 87 58 = some (.getfield 275, 3, 8, 31, 71) := rfl
theorem f_Mo_call_61 : fetch 87 61 = some (.imul, 1, 0, 0, 0) := rfl
theorem f_Mo_call_62 : fetch 87 62 = some (.iadd, 1, 0, 0, 0) := rfl
theorem f_Mo_call_63 : fetch 87 63 = some (.iload_n 2, 1, 0, 0, 0) := rfl
theorem f_Mo_call_64 : fetch 87 64 = some (.iadd, 1, 0, 0, 0) := rfl
theorem f_Mo_call_65 : fetch 87 65 = some (.aload_n 0, 1, 0, 0, 0) := rfl
theorem f_Mo_call_66 : fetch 87 66 = some (.getfield 284, 3, 8, 46, 73) := rfl
theorem f_Mo_call_69 : fetch 87 69 = some (.iastore, 1, 0, 0, 0) := rfl
theorem f_Mo_call_70 : fetch 87 70 = some (.iinc 2 (-1), 3, 0, 0, 0) := rfl
theorem f_Mo_call_73 : fetch 87 73 = some (.goto (-49), 3, 24, 0, 0) := rfl
theorem f_Mo_call_76 : fetch 87 76 = some (.aload_n 0, 1, 0, 0, 0) := rfl
theorem f_Mo_call_77 : fetch 87 77 = some (.iload_n 1, 1, 0, 0, 0) := rfl
theorem f_Mo_call_78 : fetch 87 78 = some (.invokevirtual 278, 3, 71, 1, 76) := rfl
theorem f_Mo_call_81 : fetch 87 81 = some (.return_, 1, 0, 0, 0) := rfl
def F_Mo_call_24  : Nat → Nat → Int32 → Int32 → SG → Option (SG)
  | 0, _, _, _, _ => none
  | n + 1, x0, x1, x2, σ =>
  if x2 < 0 then
  match F_Mo_enter (x0) (x1) σ with
  | none => none
  | some q2 =>
  some q2
  else match F_Mo_get (x0) σ with
  | none => none
  | some q3 =>
  if (((32 : Int32) + ((3 : Int32) * (q3.2.1 (x0) 31))) + x2) < 0 ∨ 856 ≤ ((((32 : Int32) + ((3 : Int32) * (q3.2.1 (x0) 31))) + x2)).toNatClampNeg then none else
  stl (setA q3.2 ((cref SHm (x0) 37)) (((((32 : Int32) + ((3 : Int32) * (q3.2.1 (x0) 31))) + x2)).toNatClampNeg) (q3.1)) fun s5 =>
  if (((32 : Int32) + ((3 : Int32) * (s5.1 (x0) 31))) + x2) < 0 ∨ 856 ≤ ((((32 : Int32) + ((3 : Int32) * (s5.1 (x0) 31))) + x2)).toNatClampNeg then none else
  stl (setA s5 ((cref SHm (x0) 38)) (((((32 : Int32) + ((3 : Int32) * (s5.1 (x0) 31))) + x2)).toNatClampNeg) ((s5.1 (x0) 46))) fun s7 =>
  F_Mo_call_24  n (x0) (x1) ((x2 + (-1))) s7
set_option maxHeartbeats 4000000 in
theorem w_Mo_call_24 {b d : Nat} {sc : SC} {pre tl : List PE} {B : Nat} {Q : Option Value → List PE → Prop} {res : SG} (hB : B = b + pre.length) (hd : 2 ≤ d)   (hQ : Q none (HH pre tl SHm B res)) : ∀ (n : Nat) (lv : LV) (σ : SG) (x0 : Nat) (x1 : Int32) (x2 : Int32), isC SHm (x0) 8 = true → lv.lookup 0 = some (.ref (B + (x0))) → lv.lookup 1 = some (.int (x1)) → lv.lookup 2 = some (.int (x2)) → F_Mo_call_24  n x0 x1 x2 σ = some res → Rn b sc d 87 24 lv [] (HH pre tl SHm B σ) Q := by
  obtain ⟨e0, rfl⟩ : ∃ e, d = e + 1 := ⟨d - 1, by omega⟩
  intro n
  induction n with
  | zero => intro lv σ x0 x1 x2 hx0 l0 l1 l2 hF; cases hF
  | succ n ih =>
    intro lv σ x0 x1 x2 hx0 l0 l1 l2 hF
    unfold F_Mo_call_24 at hF
    refine r_iload_n f_Mo_call_24 l2 ?_
    refine r_if_lt f_Mo_call_25 (fun c1 => ?_) (fun c1 => ?_)
    · rw [if_pos c1] at hF
      refine r_aload_n f_Mo_call_76 l0 ?_
      refine r_iload_n f_Mo_call_77 l1 ?_
      cases hq2 : F_Mo_enter (x0) (x1) σ with
      | none => simp only [hq2] at hF; cases hF
      | some q2 =>
        simp only [hq2] at hF
        refine t_V1v hB hx0 rfl rfl f_Mo_call_78 (by decide) (Nat.le_of_ble_eq_true rfl) (Nat.le_of_ble_eq_true rfl) (w_Mo_enter hB (by omega) (x0) (x1) hx0 hq2 ⟨rfl, ?_⟩)
        cases hF
        exact r_return f_Mo_call_81 hQ
    · rw [if_neg c1] at hF
      refine r_aload_n f_Mo_call_28 l0 ?_
      cases hq3 : F_Mo_get (x0) σ with
      | none => simp only [hq3] at hF; cases hF
      | some q3 =>
        simp only [hq3] at hF
        refine t_V0i hB hx0 rfl rfl f_Mo_call_29 (by decide) (Nat.le_of_ble_eq_true rfl) (Nat.le_of_ble_eq_true rfl) (w_Mo_get hB  (x0) hx0 hq3 ⟨_, rfl, ?_⟩)
        refine r_istore_n f_Mo_call_32 ?_
        refine r_aload_n f_Mo_call_33 (lk_put_ne l0 (by decide) (Or.inl rfl)) ?_
        refine t_getc hB hx0 f_Mo_call_34 rfl ?_
        refine r_bipush f_Mo_call_37 (v := 32) (by decide) ?_
        refine r_iconst f_Mo_call_39 (v := 3) (by decide) ?_
        refine r_aload_n f_Mo_call_40 (lk_put_ne l0 (by decide) (Or.inl rfl)) ?_
        refine t_geti hB hx0 f_Mo_call_41 rfl ?_
        refine r_imul f_Mo_call_44 ?_
        refine r_iadd f_Mo_call_45 ?_
        refine r_iload_n f_Mo_call_46 (lk_put_ne l2 (by decide) (Or.inl rfl)) ?_
        refine r_iadd f_Mo_call_47 ?_
        refine r_iload_n f_Mo_call_48 lk_put ?_
        by_cases c4 : (((32 : Int32) + ((3 : Int32) * (q3.2.1 (x0) 31))) + x2) < 0 ∨ 856 ≤ ((((32 : Int32) + ((3 : Int32) * (q3.2.1 (x0) 31))) + x2)).toNatClampNeg
        · rw [if_pos c4] at hF; cases hF
        rw [if_neg c4] at hF
        refine t_iast hB (cc_8_37 hx0) f_Mo_call_49 c4 ?_
        generalize hs5 : setA q3.2 ((cref SHm (x0) 37)) (((((32 : Int32) + ((3 : Int32) * (q3.2.1 (x0) 31))) + x2)).toNatClampNeg) (q3.1) = s5 at hF ⊢
        rw [stl_eq] at hF
        refine r_aload_n f_Mo_call_50 (lk_put_ne l0 (by decide) (Or.inl rfl)) ?_
        refine t_getc hB hx0 f_Mo_call_51 rfl ?_
        refine r_bipush f_Mo_call_54 (v := 32) (by decide) ?_
        refine r_iconst f_Mo_call_56 (v := 3) (by decide) ?_
        refine r_aload_n f_Mo_call_57 (lk_put_ne l0 (by decide) (Or.inl rfl)) ?_
        refine t_geti hB hx0 f_Mo_call_58 rfl ?_
        refine r_imul f_Mo_call_61 ?_
        refine r_iadd f_Mo_call_62 ?_
        refine r_iload_n f_Mo_call_63 (lk_put_ne l2 (by decide) (Or.inl rfl)) ?_
        refine r_iadd f_Mo_call_64 ?_
        refine r_aload_n f_Mo_call_65 (lk_put_ne l0 (by decide) (Or.inl rfl)) ?_
        refine t_geti hB hx0 f_Mo_call_66 rfl ?_
        by_cases c6 : (((32 : Int32) + ((3 : Int32) * (s5.1 (x0) 31))) + x2) < 0 ∨ 856 ≤ ((((32 : Int32) + ((3 : Int32) * (s5.1 (x0) 31))) + x2)).toNatClampNeg
        · rw [if_pos c6] at hF; cases hF
        rw [if_neg c6] at hF
        refine t_iast hB (cc_8_38 hx0) f_Mo_call_69 c6 ?_
        generalize hs7 : setA s5 ((cref SHm (x0) 38)) (((((32 : Int32) + ((3 : Int32) * (s5.1 (x0) 31))) + x2)).toNatClampNeg) ((s5.1 (x0) 46)) = s7 at hF ⊢
        rw [stl_eq] at hF
        refine r_iinc f_Mo_call_70 (lk_put_ne l2 (by decide) (Or.inl rfl)) (w := x2 + (-1)) rfl ?_
        refine r_goto f_Mo_call_73 ?_
        exact ih _ (s7) (x0) (x1) ((x2 + (-1))) hx0 (lk_put_ne (lk_put_ne l0 (by decide) (Or.inl rfl)) (by decide) (Or.inl rfl)) (lk_put_ne (lk_put_ne l1 (by decide) (Or.inl rfl)) (by decide) (Or.inl rfl)) lk_put hF
def F_Mo_call (a0 : Nat) (a1 : Int32) (σ : SG) : Option (SG) :=
  if (σ.1 (a0) 31) = (8 : Int32) then
  stl (setI σ (a0) 44 ((5 : Int32))) fun s10 =>
  some s10
  else if a1 < 0 ∨ 6 ≤ (a1).toNatClampNeg then none else
  F_Mo_call_24  5000 (a0) (a1) (((σ.2.2.2.1 ((cref SHm (a0) 9)) ((a1).toNatClampNeg)) - (1 : Int32))) σ
set_option maxHeartbeats 4000000 in
theorem w_Mo_call {b d : Nat} {pre tl : List PE} {B : Nat} {Q : Option Value → List PE → Prop} {res : SG} (hB : B = b + pre.length) (hd : 2 ≤ d)  {σ : SG} (a0 : Nat) (a1 : Int32) (ha0 : isC SHm (a0) 8 = true) (hF : F_Mo_call a0 a1 σ = some res) (hQ : Q none (HH pre tl SHm B res)) : Cl b d 87 [.ref (B + (a0)), .int (a1)] (HH pre tl SHm B σ) Q := by
  obtain ⟨e0, rfl⟩ : ∃ e, d = e + 1 := ⟨d - 1, by omega⟩
  unfold Cl
  unfold F_Mo_call at hF
  refine r_aload_n f_Mo_call_0 rfl ?_
  refine t_geti hB ha0 f_Mo_call_1 rfl ?_
  refine r_bipush f_Mo_call_4 (v := 8) (by decide) ?_
  refine r_icmp_ne f_Mo_call_6 (fun c8 => ?_) (fun c8 => ?_)
  · rw [if_neg c8] at hF
    refine r_aload_n f_Mo_call_15 rfl ?_
    refine t_getc hB ha0 f_Mo_call_16 rfl ?_
    refine r_iload_n f_Mo_call_19 rfl ?_
    by_cases c9 : a1 < 0 ∨ 6 ≤ (a1).toNatClampNeg
    · rw [if_pos c9] at hF; cases hF
    rw [if_neg c9] at hF
    refine t_iald hB (cc_8_9 ha0) f_Mo_call_20 c9 ?_
    refine r_iconst f_Mo_call_21 (v := 1) (by decide) ?_
    refine r_isub f_Mo_call_22 ?_
    refine r_istore_n f_Mo_call_23 ?_
    exact w_Mo_call_24 hB hd  hQ 5000 _ (σ) (a0) (a1) (((σ.2.2.2.1 ((cref SHm (a0) 9)) ((a1).toNatClampNeg)) - (1 : Int32))) ha0 (lk_put_ne rfl (by decide) (Or.inl rfl)) (lk_put_ne rfl (by decide) (Or.inl rfl)) lk_put hF
  · rw [if_pos (Decidable.not_not.mp c8)] at hF
    refine r_aload_n f_Mo_call_9 rfl ?_
    refine r_iconst f_Mo_call_10 (v := 5) (by decide) ?_
    refine t_puti hB ha0 f_Mo_call_11 rfl rfl ?_
    generalize hs10 : setI σ (a0) 44 ((5 : Int32)) = s10 at hF ⊢
    rw [stl_eq] at hF
    cases hF
    exact r_return f_Mo_call_14 hQ
theorem f_Mo_finish_0 : fetch 88 0 = some (.aload_n 0, 1, 0, 0, 0) := rfl
theorem f_Mo_finish_1 : fetch 88 1 = some (.getfield 19, 3, 8, 8, 30) := rfl
theorem f_Mo_finish_4 : fetch 88 4 = some (.aload_n 0, 1, 0, 0, 0) := rfl
theorem f_Mo_finish_5 : fetch 88 5 = some (.getfield 154, 3, 8, 24, 65) := rfl
theorem f_Mo_finish_8 : fetch 88 8 = some (.iaload, 1, 0, 0, 0) := rfl
theorem f_Mo_finish_9 : fetch 88 9 = some (.istore_n 1, 1, 0, 0, 0) := rfl
theorem f_Mo_finish_10 : fetch 88 10 = some (.iload_n 1, 1, 0, 0, 0) := rfl
theorem f_Mo_finish_11 : fetch 88 11 = some (.ifCond .le 10, 3, 21, 0, 0) := rfl
theorem f_Mo_finish_14 : fetch 88 14 = some (.aload_n 0, 1, 0, 0, 0) := rfl
theorem f_Mo_finish_15 : fetch 88 15 = some (.invokevirtual 308, 3, 78, 0, 86) := rfl
theorem f_Mo_finish_18 : fetch 88 18 = some (.goto 4, 3, 22, 0, 0) := rfl
theorem f_Mo_finish_21 : fetch 88 21 = some (.iconst 0, 1, 0, 0, 0) := rfl
theorem f_Mo_finish_22 : fetch 88 22 = some (.istore_n 2, 1, 0, 0, 0) := rfl
theorem f_Mo_finish_23 : fetch 88 23 = some (.aload_n 0, 1, 0, 0, 0) := rfl
theorem f_Mo_finish_24 : fetch 88 24 = some (.getfield 284, 3, 8, 46, 73) := rfl
theorem f_Mo_finish_27 : fetch 88 27 = some (.istore_n 3, 1, 0, 0, 0) := rfl
theorem f_Mo_finish_28 : fetch 88 28 = some (.aload_n 0, 1, 0, 0, 0) := rfl
theorem f_Mo_finish_29 : fetch 88 29 = some (.dup, 1, 0, 0, 0) := rfl
theorem f_Mo_finish_30 : fetch 88 30 = some (.getfield 275, 3, 8, 31, 71) := rfl
theorem f_Mo_finish_33 : fetch 88 33 = some (.iconst 1, 1, 0, 0, 0) := rfl
theorem f_Mo_finish_34 : fetch 88 34 = some (.isub, 1, 0, 0, 0) := rfl
theorem f_Mo_finish_35 : fetch 88 35 = some (.putfield 275, 3, 8, 31, 71) := rfl
theorem f_Mo_finish_38 : fetch 88 38 = some (.aload_n 0, 1, 0, 0, 0) := rfl
theorem f_Mo_finish_39 : fetch 88 39 = some (.getfield 275, 3, 8, 31, 71) := rfl
theorem f_Mo_finish_42 : fetch 88 42 = some (.ifCond .le 14, 3, 56, 0, 0) := rfl
theorem f_Mo_finish_45 : fetch 88 45 = some (.iload_n 1, 1, 0, 0, 0) := rfl
theorem f_Mo_finish_46 : fetch 88 46 = some (.ifCond .le 9, 3, 55, 0, 0) := rfl
theorem f_Mo_finish_49 : fetch 88 49 = some (.aload_n 0, 1, 0, 0, 0) := rfl
theorem f_Mo_finish_50 : fetch 88 50 = some (.iload_n 2, 1, 0, 0, 0) := rfl
theorem f_Mo_finish_51 : fetch 88 51 = some (.iload_n 3, 1, 0, 0, 0) := rfl
theorem f_Mo_finish_52 : fetch 88 52 = some (.invokevirtual 290, 3, 76, 2, 84) := rfl
theorem f_Mo_finish_55 : fetch 88 55 = some (.return_, 1, 0, 0, 0) := rfl
theorem f_Mo_finish_56 : fetch 88 56 = some (.aload_n 0, 1, 0, 0, 0) := rfl
theorem f_Mo_finish_57 : fetch 88 57 = some (.iconst 2, 1, 0, 0, 0) := rfl
theorem f_Mo_finish_58 : fetch 88 58 = some (.putfield 147, 3, 8, 28, 61) := rfl
theorem f_Mo_finish_61 : fetch 88 61 = some (.aload_n 0, 1, 0, 0, 0) := rfl
theorem f_Mo_finish_62 : fetch 88 62 = some (.iload_n 1, 1, 0, 0, 0) := rfl
theorem f_Mo_finish_63 : fetch 88 63 = some (.iconst 1, 1, 0, 0, 0) := rfl
theorem f_Mo_finish_64 : fetch 88 64 = some (.if_icmp .eq 8, 3, 72, 0, 0) := rfl
theorem f_Mo_finish_67 : fetch 88 67 = some (.iload_n 1, 1, 0, 0, 0) := rfl
theorem f_Mo_finish_68 : fetch 88 68 = some (.iconst 2, 1, 0, 0, 0) := rfl
theorem f_Mo_finish_69 : fetch 88 69 = some (.if_icmp .ne 7, 3, 76, 0, 0) := rfl
theorem f_Mo_finish_72 : fetch 88 72 = some (.iload_n 2, 1, 0, 0, 0) := rfl
theorem f_Mo_finish_73 : fetch 88 73 = some (.goto 4, 3, 77, 0, 0) := rfl
theorem f_Mo_finish_76 : fetch 88 76 = some (.iconst 0, 1, 0, 0, 0) := rfl
theorem f_Mo_finish_77 : fetch 88 77 = some (.putfield 269, 3, 8, 29, 69) := rfl
theorem f_Mo_finish_80 : fetch 88 80 = some (.return_, 1, 0, 0, 0) := rfl
def F_Mo_finish_77  (y0 : Nat) (y1 : Int32) (σ : SG) : Option (SG) :=
  stl (setI σ (y0) 29 (y1)) fun s1 =>
  some s1
set_option maxHeartbeats 4000000 in
theorem w_Mo_finish_77 {b d : Nat} {sc : SC} {pre tl : List PE} {B : Nat} {Q : Option Value → List PE → Prop} {res : SG} (hB : B = b + pre.length) (hd : 1 ≤ d)   (hQ : Q none (HH pre tl SHm B res)) (lv : LV) (σ : SG) (y0 : Nat) (y1 : Int32) (hy0 : isC SHm (y0) 8 = true) (hF : F_Mo_finish_77  y0 y1 σ = some res) : Rn b sc d 88 77 lv [.int (y1), .ref (B + (y0))] (HH pre tl SHm B σ) Q := by
  obtain ⟨e0, rfl⟩ : ∃ e, d = e + 1 := ⟨d - 1, by omega⟩
  unfold F_Mo_finish_77 at hF
  refine t_puti hB hy0 f_Mo_finish_77 rfl rfl ?_
  generalize hs1 : setI σ (y0) 29 (y1) = s1 at hF ⊢
  rw [stl_eq] at hF
  cases hF
  exact r_return f_Mo_finish_80 hQ
def F_Mo_finish_72  (x2 : Int32) (y0 : Nat) (σ : SG) : Option (SG) :=
  F_Mo_finish_77 (y0) (x2) σ
set_option maxHeartbeats 4000000 in
theorem w_Mo_finish_72 {b d : Nat} {sc : SC} {pre tl : List PE} {B : Nat} {Q : Option Value → List PE → Prop} {res : SG} (hB : B = b + pre.length) (hd : 1 ≤ d)   (hQ : Q none (HH pre tl SHm B res)) (lv : LV) (σ : SG) (x2 : Int32) (y0 : Nat) (hy0 : isC SHm (y0) 8 = true) (l2 : lv.lookup 2 = some (.int (x2))) (hF : F_Mo_finish_72  x2 y0 σ = some res) : Rn b sc d 88 72 lv [.ref (B + (y0))] (HH pre tl SHm B σ) Q := by
  obtain ⟨e0, rfl⟩ : ∃ e, d = e + 1 := ⟨d - 1, by omega⟩
  unfold F_Mo_finish_72 at hF
  refine r_iload_n f_Mo_finish_72 l2 ?_
  refine r_goto f_Mo_finish_73 ?_
  exact w_Mo_finish_77 hB hd  hQ _ (σ) (y0) (x2) hy0 hF
def F_Mo_finish_55   (σ : SG) : Option (SG) :=
  some σ
set_option maxHeartbeats 4000000 in
theorem w_Mo_finish_55 {b d : Nat} {sc : SC} {pre tl : List PE} {B : Nat} {Q : Option Value → List PE → Prop} {res : SG} (hB : B = b + pre.length) (hd : 1 ≤ d)   (hQ : Q none (HH pre tl SHm B res)) (lv : LV) (σ : SG)   (hF : F_Mo_finish_55   σ = some res) : Rn b sc d 88 55 lv [] (HH pre tl SHm B σ) Q := by
  obtain ⟨e0, rfl⟩ : ∃ e, d = e + 1 := ⟨d - 1, by omega⟩
  unfold F_Mo_finish_55 at hF
  cases hF
  exact r_return f_Mo_finish_55 hQ
def F_Mo_finish_22  (x0 : Nat) (x1 : Int32) (y0 : Int32) (σ : SG) : Option (SG) :=
  stl (setI σ (x0) 31 (((σ.1 (x0) 31) - (1 : Int32)))) fun s2 =>
  if (s2.1 (x0) 31) ≤ 0 then
  stl (setI s2 (x0) 28 ((2 : Int32))) fun s4 =>
  if x1 = (1 : Int32) then
  F_Mo_finish_72 (y0) (x0) s4
  else if x1 = (2 : Int32) then
  F_Mo_finish_72 (y0) (x0) s4
  else F_Mo_finish_77 (x0) ((0 : Int32)) s4
  else if x1 ≤ 0 then
  F_Mo_finish_55 s2
  else match F_Mo_put (x0) (y0) ((σ.1 (x0) 46)) s2 with
  | none => none
  | some q8 =>
  F_Mo_finish_55 q8
set_option maxHeartbeats 4000000 in
theorem w_Mo_finish_22 {b d : Nat} {sc : SC} {pre tl : List PE} {B : Nat} {Q : Option Value → List PE → Prop} {res : SG} (hB : B = b + pre.length) (hd : 1 ≤ d)   (hQ : Q none (HH pre tl SHm B res)) (lv : LV) (σ : SG) (x0 : Nat) (x1 : Int32) (y0 : Int32) (hx0 : isC SHm (x0) 8 = true) (l0 : lv.lookup 0 = some (.ref (B + (x0)))) (l1 : lv.lookup 1 = some (.int (x1))) (hF : F_Mo_finish_22  x0 x1 y0 σ = some res) : Rn b sc d 88 22 lv [.int (y0)] (HH pre tl SHm B σ) Q := by
  obtain ⟨e0, rfl⟩ : ∃ e, d = e + 1 := ⟨d - 1, by omega⟩
  unfold F_Mo_finish_22 at hF
  refine r_istore_n f_Mo_finish_22 ?_
  refine r_aload_n f_Mo_finish_23 (lk_put_ne l0 (by decide) (Or.inl rfl)) ?_
  refine t_geti hB hx0 f_Mo_finish_24 rfl ?_
  refine r_istore_n f_Mo_finish_27 ?_
  refine r_aload_n f_Mo_finish_28 (lk_put_ne (lk_put_ne l0 (by decide) (Or.inl rfl)) (by decide) (Or.inl rfl)) ?_
  refine r_dup f_Mo_finish_29 rfl ?_
  refine t_geti hB hx0 f_Mo_finish_30 rfl ?_
  refine r_iconst f_Mo_finish_33 (v := 1) (by decide) ?_
  refine r_isub f_Mo_finish_34 ?_
  refine t_puti hB hx0 f_Mo_finish_35 rfl rfl ?_
  generalize hs2 : setI σ (x0) 31 (((σ.1 (x0) 31) - (1 : Int32))) = s2 at hF ⊢
  rw [stl_eq] at hF
  refine r_aload_n f_Mo_finish_38 (lk_put_ne (lk_put_ne l0 (by decide) (Or.inl rfl)) (by decide) (Or.inl rfl)) ?_
  refine t_geti hB hx0 f_Mo_finish_39 rfl ?_
  refine r_if_le f_Mo_finish_42 (fun c3 => ?_) (fun c3 => ?_)
  · rw [if_pos c3] at hF
    refine r_aload_n f_Mo_finish_56 (lk_put_ne (lk_put_ne l0 (by decide) (Or.inl rfl)) (by decide) (Or.inl rfl)) ?_
    refine r_iconst f_Mo_finish_57 (v := 2) (by decide) ?_
    refine t_puti hB hx0 f_Mo_finish_58 rfl rfl ?_
    generalize hs4 : setI s2 (x0) 28 ((2 : Int32)) = s4 at hF ⊢
    rw [stl_eq] at hF
    refine r_aload_n f_Mo_finish_61 (lk_put_ne (lk_put_ne l0 (by decide) (Or.inl rfl)) (by decide) (Or.inl rfl)) ?_
    refine r_iload_n f_Mo_finish_62 (lk_put_ne (lk_put_ne l1 (by decide) (Or.inl rfl)) (by decide) (Or.inl rfl)) ?_
    refine r_iconst f_Mo_finish_63 (v := 1) (by decide) ?_
    refine r_icmp_eq f_Mo_finish_64 (fun c5 => ?_) (fun c5 => ?_)
    · rw [if_pos c5] at hF
      exact w_Mo_finish_72 hB hd  hQ _ (s4) (y0) (x0) hx0 (lk_put_ne lk_put (by decide) (Or.inl rfl)) hF
    · rw [if_neg c5] at hF
      refine r_iload_n f_Mo_finish_67 (lk_put_ne (lk_put_ne l1 (by decide) (Or.inl rfl)) (by decide) (Or.inl rfl)) ?_
      refine r_iconst f_Mo_finish_68 (v := 2) (by decide) ?_
      refine r_icmp_ne f_Mo_finish_69 (fun c6 => ?_) (fun c6 => ?_)
      · rw [if_neg c6] at hF
        refine r_iconst f_Mo_finish_76 (v := 0) (by decide) ?_
        exact w_Mo_finish_77 hB hd  hQ _ (s4) (x0) ((0 : Int32)) hx0 hF
      · rw [if_pos (Decidable.not_not.mp c6)] at hF
        exact w_Mo_finish_72 hB hd  hQ _ (s4) (y0) (x0) hx0 (lk_put_ne lk_put (by decide) (Or.inl rfl)) hF
  · rw [if_neg c3] at hF
    refine r_iload_n f_Mo_finish_45 (lk_put_ne (lk_put_ne l1 (by decide) (Or.inl rfl)) (by decide) (Or.inl rfl)) ?_
    refine r_if_le f_Mo_finish_46 (fun c7 => ?_) (fun c7 => ?_)
    · rw [if_pos c7] at hF
      exact w_Mo_finish_55 hB hd  hQ _ (s2) hF
    · rw [if_neg c7] at hF
      refine r_aload_n f_Mo_finish_49 (lk_put_ne (lk_put_ne l0 (by decide) (Or.inl rfl)) (by decide) (Or.inl rfl)) ?_
      refine r_iload_n f_Mo_finish_50 (lk_put_ne lk_put (by decide) (Or.inl rfl)) ?_
      refine r_iload_n f_Mo_finish_51 lk_put ?_
      cases hq8 : F_Mo_put (x0) (y0) ((σ.1 (x0) 46)) s2 with
      | none => simp only [hq8] at hF; cases hF
      | some q8 =>
        simp only [hq8] at hF
        refine t_V2v hB hx0 rfl rfl f_Mo_finish_52 (by decide) (Nat.le_of_ble_eq_true rfl) (Nat.le_of_ble_eq_true rfl) (w_Mo_put hB  (x0) (y0) ((σ.1 (x0) 46)) hx0 hq8 ⟨rfl, ?_⟩)
        exact w_Mo_finish_55 hB hd  hQ _ (q8) hF
def F_Mo_finish (a0 : Nat) (σ : SG) : Option (SG) :=
  if (σ.1 (a0) 24) < 0 ∨ 6 ≤ ((σ.1 (a0) 24)).toNatClampNeg then none else
  if (σ.2.2.2.1 ((cref SHm (a0) 8)) (((σ.1 (a0) 24)).toNatClampNeg)) ≤ 0 then
  F_Mo_finish_22 (a0) ((σ.2.2.2.1 ((cref SHm (a0) 8)) (((σ.1 (a0) 24)).toNatClampNeg))) ((0 : Int32)) σ
  else match F_Mo_get (a0) σ with
  | none => none
  | some q11 =>
  F_Mo_finish_22 (a0) ((σ.2.2.2.1 ((cref SHm (a0) 8)) (((σ.1 (a0) 24)).toNatClampNeg))) (q11.1) q11.2
set_option maxHeartbeats 4000000 in
theorem w_Mo_finish {b d : Nat} {pre tl : List PE} {B : Nat} {Q : Option Value → List PE → Prop} {res : SG} (hB : B = b + pre.length) (hd : 1 ≤ d)  {σ : SG} (a0 : Nat) (ha0 : isC SHm (a0) 8 = true) (hF : F_Mo_finish a0 σ = some res) (hQ : Q none (HH pre tl SHm B res)) : Cl b d 88 [.ref (B + (a0))] (HH pre tl SHm B σ) Q := by
  obtain ⟨e0, rfl⟩ : ∃ e, d = e + 1 := ⟨d - 1, by omega⟩
  unfold Cl
  unfold F_Mo_finish at hF
  refine r_aload_n f_Mo_finish_0 rfl ?_
  refine t_getc hB ha0 f_Mo_finish_1 rfl ?_
  refine r_aload_n f_Mo_finish_4 rfl ?_
  refine t_geti hB ha0 f_Mo_finish_5 rfl ?_
  by_cases c9 : (σ.1 (a0) 24) < 0 ∨ 6 ≤ ((σ.1 (a0) 24)).toNatClampNeg
  · rw [if_pos c9] at hF; cases hF
  rw [if_neg c9] at hF
  refine t_iald hB (cc_8_8 ha0) f_Mo_finish_8 c9 ?_
  refine r_istore_n f_Mo_finish_9 ?_
  refine r_iload_n f_Mo_finish_10 lk_put ?_
  refine r_if_le f_Mo_finish_11 (fun c10 => ?_) (fun c10 => ?_)
  · rw [if_pos c10] at hF
    refine r_iconst f_Mo_finish_21 (v := 0) (by decide) ?_
    exact w_Mo_finish_22 hB hd  hQ _ (σ) (a0) ((σ.2.2.2.1 ((cref SHm (a0) 8)) (((σ.1 (a0) 24)).toNatClampNeg))) ((0 : Int32)) ha0 (lk_put_ne rfl (by decide) (Or.inl rfl)) lk_put hF
  · rw [if_neg c10] at hF
    refine r_aload_n f_Mo_finish_14 (lk_put_ne rfl (by decide) (Or.inl rfl)) ?_
    cases hq11 : F_Mo_get (a0) σ with
    | none => simp only [hq11] at hF; cases hF
    | some q11 =>
      simp only [hq11] at hF
      refine t_V0i hB ha0 rfl rfl f_Mo_finish_15 (by decide) (Nat.le_of_ble_eq_true rfl) (Nat.le_of_ble_eq_true rfl) (w_Mo_get hB  (a0) ha0 hq11 ⟨_, rfl, ?_⟩)
      refine r_goto f_Mo_finish_18 ?_
      exact w_Mo_finish_22 hB hd  hQ _ (q11.2) (a0) ((σ.2.2.2.1 ((cref SHm (a0) 8)) (((σ.1 (a0) 24)).toNatClampNeg))) (q11.1) ha0 (lk_put_ne rfl (by decide) (Or.inl rfl)) lk_put hF
theorem f_Mo_drop_0 : fetch 92 0 = some (.iconst 3, 1, 0, 0, 0) := rfl
theorem f_Mo_drop_1 : fetch 92 1 = some (.aload_n 0, 1, 0, 0, 0) := rfl
theorem f_Mo_drop_2 : fetch 92 2 = some (.getfield 69, 3, 8, 32, 46) := rfl
theorem f_Mo_drop_5 : fetch 92 5 = some (.iload_n 1, 1, 0, 0, 0) := rfl
theorem f_Mo_drop_6 : fetch 92 6 = some (.iaload, 1, 0, 0, 0) := rfl
theorem f_Mo_drop_7 : fetch 92 7 = some (.imul, 1, 0, 0, 0) := rfl
theorem f_Mo_drop_8 : fetch 92 8 = some (.istore 4, 2, 0, 0, 0) := rfl
theorem f_Mo_drop_10 : fetch 92 10 = some (.iconst 0, 1, 0, 0, 0) := rfl
theorem f_Mo_drop_11 : fetch 92 11 = some (.istore 5, 2, 0, 0, 0) := rfl
theorem f_Mo_drop_13 : fetch 92 13 = some (.iload 5, 2, 0, 0, 0) := rfl
theorem f_Mo_drop_15 : fetch 92 15 = some (.aload_n 0, 1, 0, 0, 0) := rfl
theorem f_Mo_drop_16 : fetch 92 16 = some (.getfield 34, 3, 8, 13, 35) := rfl
theorem f_Mo_drop_19 : fetch 92 19 = some (.aload_n 0, 1, 0, 0, 0) := rfl
theorem f_Mo_drop_20 : fetch 92 20 = some (.getfield 69, 3, 8, 32, 46) := rfl
theorem f_Mo_drop_23 : fetch 92 23 = some (.iload_n 1, 1, 0, 0, 0) := rfl
theorem f_Mo_drop_24 : fetch 92 24 = some (.iaload, 1, 0, 0, 0) := rfl
theorem f_Mo_drop_25 : fetch 92 25 = some (.iaload, 1, 0, 0, 0) := rfl
theorem f_Mo_drop_26 : fetch 92 26 = some (.if_icmp .ge 47, 3, 73, 0, 0) := rfl
theorem f_Mo_drop_29 : fetch 92 29 = some (.aload_n 0, 1, 0, 0, 0) := rfl
theorem f_Mo_drop_30 : fetch 92 30 = some (.iload 4, 2, 0, 0, 0) := rfl
theorem f_Mo_drop_32 : fetch 92 32 = some (.iload 5, 2, 0, 0, 0) := rfl
theorem f_Mo_drop_34 : fetch 92 34 = some (.iadd, 1, 0, 0, 0) := rfl
theorem f_Mo_drop_35 : fetch 92 35 = some (.iload_n 2, 1, 0, 0, 0) := rfl
theorem f_Mo_drop_36 : fetch 92 36 = some (.invokevirtual 226, 3, 59, 2, 71) := rfl
theorem f_Mo_drop_39 : fetch 92 39 = some (.ifCond .eq 28, 3, 67, 0, 0) := rfl
theorem f_Mo_drop_42 : fetch 92 42 = some (.aload_n 0, 1, 0, 0, 0) := rfl
theorem f_Mo_drop_43 : fetch 92 43 = some (.iload 4, 2, 0, 0, 0) := rfl
theorem f_Mo_drop_45 : fetch 92 45 = some (.iload 5, 2, 0, 0, 0) := rfl
theorem f_Mo_drop_47 : fetch 92 47 = some (.iadd, 1, 0, 0, 0) := rfl
theorem f_Mo_drop_48 : fetch 92 48 = some (.iload_n 3, 1, 0, 0, 0) := rfl
theorem f_Mo_drop_49 : fetch 92 49 = some (.invokevirtual 226, 3, 59, 2, 71) := rfl
theorem f_Mo_drop_52 : fetch 92 52 = some (.ifCond .ne 15, 3, 67, 0, 0) := rfl
theorem f_Mo_drop_55 : fetch 92 55 = some (.aload_n 0, 1, 0, 0, 0) := rfl
theorem f_Mo_drop_56 : fetch 92 56 = some (.getfield 93, 3, 8, 40, 54) := rfl
theorem f_Mo_drop_59 : fetch 92 59 = some (.iconst 3, 1, 0, 0, 0) := rfl
theorem f_Mo_drop_60 : fetch 92 60 = some (.iload_n 1, 1, 0, 0, 0) := rfl
theorem f_Mo_drop_61 : fetch 92 61 = some (.imul, 1, 0, 0, 0) := rfl
theorem f_Mo_drop_62 : fetch 92 62 = some (.iload 5, 2, 0, 0, 0) := rfl
theorem f_Mo_drop_64 : fetch 92 64 = some (.iadd, 1, 0, 0, 0) := rfl
theorem f_Mo_drop_65 : fetch 92 65 = some (.iconst 0, 1, 0, 0, 0) := rfl
theorem f_Mo_drop_66 : fetch 92 66 = some (.iastore, 1, 0, 0, 0) := rfl
theorem f_Mo_drop_67 : fetch 92 67 = some (.iinc 5 1, 3, 0, 0, 0) := rfl
theorem f_Mo_drop_70 : fetch 92 70 = some (.goto (-57), 3, 13, 0, 0) := rfl
theorem f_Mo_drop_73 : fetch 92 73 = some (.return_, 1, 0, 0, 0) := rfl
def F_Mo_drop_67 (rec13 : Nat → Int32 → Int32 → Int32 → Int32 → Int32 → SG → Option (SG)) (x0 : Nat) (x1 : Int32) (x2 : Int32) (x3 : Int32) (x4 : Int32) (x5 : Int32) (σ : SG) : Option (SG) :=
  rec13 (x0) (x1) (x2) (x3) (x4) ((x5 + 1)) σ
set_option maxHeartbeats 4000000 in
theorem w_Mo_drop_67 {b d : Nat} {sc : SC} {pre tl : List PE} {B : Nat} {Q : Option Value → List PE → Prop} {res : SG} (hB : B = b + pre.length) (hd : 1 ≤ d) {rec13 : Nat → Int32 → Int32 → Int32 → Int32 → Int32 → SG → Option (SG)} (hr13 : ∀ (lv : LV) (σ : SG) (x0 : Nat) (x1 : Int32) (x2 : Int32) (x3 : Int32) (x4 : Int32) (x5 : Int32), isC SHm (x0) 8 = true → lv.lookup 0 = some (.ref (B + (x0))) → lv.lookup 1 = some (.int (x1)) → lv.lookup 2 = some (.int (x2)) → lv.lookup 3 = some (.int (x3)) → lv.lookup 4 = some (.int (x4)) → lv.lookup 5 = some (.int (x5)) →  rec13 x0 x1 x2 x3 x4 x5 σ = some res → Rn b sc d 92 13 lv [] (HH pre tl SHm B σ) Q) (hQ : Q none (HH pre tl SHm B res)) (lv : LV) (σ : SG) (x0 : Nat) (x1 : Int32) (x2 : Int32) (x3 : Int32) (x4 : Int32) (x5 : Int32) (hx0 : isC SHm (x0) 8 = true) (l0 : lv.lookup 0 = some (.ref (B + (x0)))) (l1 : lv.lookup 1 = some (.int (x1))) (l2 : lv.lookup 2 = some (.int (x2))) (l3 : lv.lookup 3 = some (.int (x3))) (l4 : lv.lookup 4 = some (.int (x4))) (l5 : lv.lookup 5 = some (.int (x5))) (hF : F_Mo_drop_67 rec13 x0 x1 x2 x3 x4 x5 σ = some res) : Rn b sc d 92 67 lv [] (HH pre tl SHm B σ) Q := by
  obtain ⟨e0, rfl⟩ : ∃ e, d = e + 1 := ⟨d - 1, by omega⟩
  unfold F_Mo_drop_67 at hF
  refine r_iinc f_Mo_drop_67 l5 (w := x5 + 1) rfl ?_
  refine r_goto f_Mo_drop_70 ?_
  exact hr13 _ (σ) (x0) (x1) (x2) (x3) (x4) ((x5 + 1)) hx0 (lk_put_ne l0 (by decide) (Or.inl rfl)) (lk_put_ne l1 (by decide) (Or.inl rfl)) (lk_put_ne l2 (by decide) (Or.inl rfl)) (lk_put_ne l3 (by decide) (Or.inl rfl)) (lk_put_ne l4 (by decide) (Or.inl rfl)) lk_put hF
def F_Mo_drop_13  : Nat → Nat → Int32 → Int32 → Int32 → Int32 → Int32 → SG → Option (SG)
  | 0, _, _, _, _, _, _, _ => none
  | n + 1, x0, x1, x2, x3, x4, x5, σ =>
  if x1 < 0 ∨ 8 ≤ (x1).toNatClampNeg then none else
  if (σ.2.2.2.1 ((cref SHm (x0) 32)) ((x1).toNatClampNeg)) < 0 ∨ 6 ≤ ((σ.2.2.2.1 ((cref SHm (x0) 32)) ((x1).toNatClampNeg))).toNatClampNeg then none else
  if (σ.2.2.2.1 ((cref SHm (x0) 13)) (((σ.2.2.2.1 ((cref SHm (x0) 32)) ((x1).toNatClampNeg))).toNatClampNeg)) ≤ x5 then
  some σ
  else match F_Mo_inHandler (x0) ((x4 + x5)) (x2) σ with
  | none => none
  | some q4 =>
  if q4.1 = true then
  match F_Mo_inHandler (x0) ((x4 + x5)) (x3) q4.2 with
  | none => none
  | some q6 =>
  if q6.1 = true then
  F_Mo_drop_67 (F_Mo_drop_13  n) (x0) (x1) (x2) (x3) (x4) (x5) q6.2
  else if (((3 : Int32) * x1) + x5) < 0 ∨ 24 ≤ ((((3 : Int32) * x1) + x5)).toNatClampNeg then none else
  stl (setA q6.2 ((cref SHm (x0) 40)) (((((3 : Int32) * x1) + x5)).toNatClampNeg) ((0 : Int32))) fun s9 =>
  F_Mo_drop_67 (F_Mo_drop_13  n) (x0) (x1) (x2) (x3) (x4) (x5) s9
  else F_Mo_drop_67 (F_Mo_drop_13  n) (x0) (x1) (x2) (x3) (x4) (x5) q4.2
set_option maxHeartbeats 4000000 in
theorem w_Mo_drop_13 {b d : Nat} {sc : SC} {pre tl : List PE} {B : Nat} {Q : Option Value → List PE → Prop} {res : SG} (hB : B = b + pre.length) (hd : 1 ≤ d)   (hQ : Q none (HH pre tl SHm B res)) : ∀ (n : Nat) (lv : LV) (σ : SG) (x0 : Nat) (x1 : Int32) (x2 : Int32) (x3 : Int32) (x4 : Int32) (x5 : Int32), isC SHm (x0) 8 = true → lv.lookup 0 = some (.ref (B + (x0))) → lv.lookup 1 = some (.int (x1)) → lv.lookup 2 = some (.int (x2)) → lv.lookup 3 = some (.int (x3)) → lv.lookup 4 = some (.int (x4)) → lv.lookup 5 = some (.int (x5)) → F_Mo_drop_13  n x0 x1 x2 x3 x4 x5 σ = some res → Rn b sc d 92 13 lv [] (HH pre tl SHm B σ) Q := by
  obtain ⟨e0, rfl⟩ : ∃ e, d = e + 1 := ⟨d - 1, by omega⟩
  intro n
  induction n with
  | zero => intro lv σ x0 x1 x2 x3 x4 x5 hx0 l0 l1 l2 l3 l4 l5 hF; cases hF
  | succ n ih =>
    intro lv σ x0 x1 x2 x3 x4 x5 hx0 l0 l1 l2 l3 l4 l5 hF
    unfold F_Mo_drop_13 at hF
    refine r_iload f_Mo_drop_13 l5 ?_
    refine r_aload_n f_Mo_drop_15 l0 ?_
    refine t_getc hB hx0 f_Mo_drop_16 rfl ?_
    refine r_aload_n f_Mo_drop_19 l0 ?_
    refine t_getc hB hx0 f_Mo_drop_20 rfl ?_
    refine r_iload_n f_Mo_drop_23 l1 ?_
    by_cases c1 : x1 < 0 ∨ 8 ≤ (x1).toNatClampNeg
    · rw [if_pos c1] at hF; cases hF
    rw [if_neg c1] at hF
    refine t_iald hB (cc_8_32 hx0) f_Mo_drop_24 c1 ?_
    by_cases c2 : (σ.2.2.2.1 ((cref SHm (x0) 32)) ((x1).toNatClampNeg)) < 0 ∨ 6 ≤ ((σ.2.2.2.1 ((cref SHm (x0) 32)) ((x1).toNatClampNeg))).toNatClampNeg
    · rw [if_pos c2] at hF; cases hF
    rw [if_neg c2] at hF
    refine t_iald hB (cc_8_13 hx0) f_Mo_drop_25 c2 ?_
    refine r_icmp_ge f_Mo_drop_26 (fun c3 => ?_) (fun c3 => ?_)
    · rw [if_pos c3] at hF
      cases hF
      exact r_return f_Mo_drop_73 hQ
    · rw [if_neg c3] at hF
      refine r_aload_n f_Mo_drop_29 l0 ?_
      refine r_iload f_Mo_drop_30 l4 ?_
      refine r_iload f_Mo_drop_32 l5 ?_
      refine r_iadd f_Mo_drop_34 ?_
      refine r_iload_n f_Mo_drop_35 l2 ?_
      cases hq4 : F_Mo_inHandler (x0) ((x4 + x5)) (x2) σ with
      | none => simp only [hq4] at hF; cases hF
      | some q4 =>
        simp only [hq4] at hF
        refine t_V2i hB hx0 rfl rfl f_Mo_drop_36 (by decide) (Nat.le_of_ble_eq_true rfl) (Nat.le_of_ble_eq_true rfl) (w_Mo_inHandler hB  (x0) ((x4 + x5)) (x2) hx0 hq4 ⟨_, rfl, ?_⟩)
        refine r_if_eq f_Mo_drop_39 (fun c5 => ?_) (fun c5 => ?_)
        · rw [if_neg (bz_nt c5)] at hF
          exact w_Mo_drop_67 hB hd (ih) hQ _ (q4.2) (x0) (x1) (x2) (x3) (x4) (x5) hx0 l0 l1 l2 l3 l4 l5 hF
        · rw [if_pos (bz_t c5)] at hF
          refine r_aload_n f_Mo_drop_42 l0 ?_
          refine r_iload f_Mo_drop_43 l4 ?_
          refine r_iload f_Mo_drop_45 l5 ?_
          refine r_iadd f_Mo_drop_47 ?_
          refine r_iload_n f_Mo_drop_48 l3 ?_
          cases hq6 : F_Mo_inHandler (x0) ((x4 + x5)) (x3) q4.2 with
          | none => simp only [hq6] at hF; cases hF
          | some q6 =>
            simp only [hq6] at hF
            refine t_V2i hB hx0 rfl rfl f_Mo_drop_49 (by decide) (Nat.le_of_ble_eq_true rfl) (Nat.le_of_ble_eq_true rfl) (w_Mo_inHandler hB  (x0) ((x4 + x5)) (x3) hx0 hq6 ⟨_, rfl, ?_⟩)
            refine r_if_ne f_Mo_drop_52 (fun c7 => ?_) (fun c7 => ?_)
            · rw [if_pos (bz_t c7)] at hF
              exact w_Mo_drop_67 hB hd (ih) hQ _ (q6.2) (x0) (x1) (x2) (x3) (x4) (x5) hx0 l0 l1 l2 l3 l4 l5 hF
            · rw [if_neg (bz_nt (Decidable.not_not.mp c7))] at hF
              refine r_aload_n f_Mo_drop_55 l0 ?_
              refine t_getc hB hx0 f_Mo_drop_56 rfl ?_
              refine r_iconst f_Mo_drop_59 (v := 3) (by decide) ?_
              refine r_iload_n f_Mo_drop_60 l1 ?_
              refine r_imul f_Mo_drop_61 ?_
              refine r_iload f_Mo_drop_62 l5 ?_
              refine r_iadd f_Mo_drop_64 ?_
              refine r_iconst f_Mo_drop_65 (v := 0) (by decide) ?_
              by_cases c8 : (((3 : Int32) * x1) + x5) < 0 ∨ 24 ≤ ((((3 : Int32) * x1) + x5)).toNatClampNeg
              · rw [if_pos c8] at hF; cases hF
              rw [if_neg c8] at hF
              refine t_iast hB (cc_8_40 hx0) f_Mo_drop_66 c8 ?_
              generalize hs9 : setA q6.2 ((cref SHm (x0) 40)) (((((3 : Int32) * x1) + x5)).toNatClampNeg) ((0 : Int32)) = s9 at hF ⊢
              rw [stl_eq] at hF
              exact w_Mo_drop_67 hB hd (ih) hQ _ (s9) (x0) (x1) (x2) (x3) (x4) (x5) hx0 l0 l1 l2 l3 l4 l5 hF
def F_Mo_drop (a0 : Nat) (a1 : Int32) (a2 : Int32) (a3 : Int32) (σ : SG) : Option (SG) :=
  if a1 < 0 ∨ 8 ≤ (a1).toNatClampNeg then none else
  F_Mo_drop_13  5000 (a0) (a1) (a2) (a3) (((3 : Int32) * (σ.2.2.2.1 ((cref SHm (a0) 32)) ((a1).toNatClampNeg)))) ((0 : Int32)) σ
set_option maxHeartbeats 4000000 in
theorem w_Mo_drop {b d : Nat} {pre tl : List PE} {B : Nat} {Q : Option Value → List PE → Prop} {res : SG} (hB : B = b + pre.length) (hd : 1 ≤ d)  {σ : SG} (a0 : Nat) (a1 : Int32) (a2 : Int32) (a3 : Int32) (ha0 : isC SHm (a0) 8 = true) (hF : F_Mo_drop a0 a1 a2 a3 σ = some res) (hQ : Q none (HH pre tl SHm B res)) : Cl b d 92 [.ref (B + (a0)), .int (a1), .int (a2), .int (a3)] (HH pre tl SHm B σ) Q := by
  obtain ⟨e0, rfl⟩ : ∃ e, d = e + 1 := ⟨d - 1, by omega⟩
  unfold Cl
  unfold F_Mo_drop at hF
  refine r_iconst f_Mo_drop_0 (v := 3) (by decide) ?_
  refine r_aload_n f_Mo_drop_1 rfl ?_
  refine t_getc hB ha0 f_Mo_drop_2 rfl ?_
  refine r_iload_n f_Mo_drop_5 rfl ?_
  by_cases c10 : a1 < 0 ∨ 8 ≤ (a1).toNatClampNeg
  · rw [if_pos c10] at hF; cases hF
  rw [if_neg c10] at hF
  refine t_iald hB (cc_8_32 ha0) f_Mo_drop_6 c10 ?_
  refine r_imul f_Mo_drop_7 ?_
  refine r_istore f_Mo_drop_8 ?_
  refine r_iconst f_Mo_drop_10 (v := 0) (by decide) ?_
  refine r_istore f_Mo_drop_11 ?_
  exact w_Mo_drop_13 hB hd  hQ 5000 _ (σ) (a0) (a1) (a2) (a3) (((3 : Int32) * (σ.2.2.2.1 ((cref SHm (a0) 32)) ((a1).toNatClampNeg)))) ((0 : Int32)) ha0 (lk_put_ne (lk_put_ne rfl (by decide) (Or.inl rfl)) (by decide) (Or.inl rfl)) (lk_put_ne (lk_put_ne rfl (by decide) (Or.inl rfl)) (by decide) (Or.inl rfl)) (lk_put_ne (lk_put_ne rfl (by decide) (Or.inl rfl)) (by decide) (Or.inl rfl)) (lk_put_ne (lk_put_ne rfl (by decide) (Or.inl rfl)) (by decide) (Or.inl rfl)) (lk_put_ne lk_put (by decide) (Or.inl rfl)) lk_put hF
theorem f_Mo_handle_0 : fetch 91 0 = some (.iconst 3, 1, 0, 0, 0) := rfl
theorem f_Mo_handle_1 : fetch 91 1 = some (.aload_n 0, 1, 0, 0, 0) := rfl
theorem f_Mo_handle_2 : fetch 91 2 = some (.getfield 69, 3, 8, 32, 46) := rfl
theorem f_Mo_handle_5 : fetch 91 5 = some (.iload_n 1, 1, 0, 0, 0) := rfl
theorem f_Mo_handle_6 : fetch 91 6 = some (.iaload, 1, 0, 0, 0) := rfl
theorem f_Mo_handle_7 : fetch 91 7 = some (.imul, 1, 0, 0, 0) := rfl
theorem f_Mo_handle_8 : fetch 91 8 = some (.iload_n 2, 1, 0, 0, 0) := rfl
theorem f_Mo_handle_9 : fetch 91 9 = some (.iadd, 1, 0, 0, 0) := rfl
theorem f_Mo_handle_10 : fetch 91 10 = some (.istore 7, 2, 0, 0, 0) := rfl
theorem f_Mo_handle_12 : fetch 91 12 = some (.aload_n 0, 1, 0, 0, 0) := rfl
theorem f_Mo_handle_13 : fetch 91 13 = some (.iload_n 1, 1, 0, 0, 0) := rfl
theorem f_Mo_handle_14 : fetch 91 14 = some (.iload_n 3, 1, 0, 0, 0) := rfl
theorem f_Mo_handle_15 : fetch 91 15 = some (.aload_n 0, 1, 0, 0, 0) := rfl
theorem f_Mo_handle_16 : fetch 91 16 = some (.getfield 40, 3, 8, 15, 37) := rfl
theorem f_Mo_handle_19 : fetch 91 19 = some (.iload 7, 2, 0, 0, 0) := rfl
theorem f_Mo_handle_21 : fetch 91 21 = some (.iaload, 1, 0, 0, 0) := rfl
theorem f_Mo_handle_22 : fetch 91 22 = some (.invokevirtual 342, 3, 92, 3, 99) := rfl
theorem f_Mo_handle_25 : fetch 91 25 = some (.aload_n 0, 1, 0, 0, 0) := rfl
theorem f_Mo_handle_26 : fetch 91 26 = some (.getfield 102, 3, 8, 43, 57) := rfl
theorem f_Mo_handle_29 : fetch 91 29 = some (.iload 7, 2, 0, 0, 0) := rfl
theorem f_Mo_handle_31 : fetch 91 31 = some (.dup2, 1, 0, 0, 0) := rfl
theorem f_Mo_handle_32 : fetch 91 32 = some (.iaload, 1, 0, 0, 0) := rfl
theorem f_Mo_handle_33 : fetch 91 33 = some (.iconst 1, 1, 0, 0, 0) := rfl
theorem f_Mo_handle_34 : fetch 91 34 = some (.iadd, 1, 0, 0, 0) := rfl
theorem f_Mo_handle_35 : fetch 91 35 = some (.iastore, 1, 0, 0, 0) := rfl
theorem f_Mo_handle_36 : fetch 91 36 = some (.aload_n 0, 1, 0, 0, 0) := rfl
theorem f_Mo_handle_37 : fetch 91 37 = some (.getfield 72, 3, 8, 33, 47) := rfl
theorem f_Mo_handle_40 : fetch 91 40 = some (.iload_n 1, 1, 0, 0, 0) := rfl
theorem f_Mo_handle_41 : fetch 91 41 = some (.aload_n 0, 1, 0, 0, 0) := rfl
theorem f_Mo_handle_42 : fetch 91 42 = some (.getfield 40, 3, 8, 15, 37) := rfl
theorem f_Mo_handle_45 : fetch 91 45 = some (.iload 7, 2, 0, 0, 0) := rfl
theorem f_Mo_handle_47 : fetch 91 47 = some (.iaload, 1, 0, 0, 0) := rfl
theorem f_Mo_handle_48 : fetch 91 48 = some (.iastore, 1, 0, 0, 0) := rfl
theorem f_Mo_handle_49 : fetch 91 49 = some (.aload_n 0, 1, 0, 0, 0) := rfl
theorem f_Mo_handle_50 : fetch 91 50 = some (.getfield 75, 3, 8, 34, 48) := rfl
theorem f_Mo_handle_53 : fetch 91 53 = some (.iload_n 1, 1, 0, 0, 0) := rfl
theorem f_Mo_handle_54 : fetch 91 54 = some (.iconst 0, 1, 0, 0, 0) := rfl
theorem f_Mo_handle_55 : fetch 91 55 = some (.iastore, 1, 0, 0, 0) := rfl
theorem f_Mo_handle_56 : fetch 91 56 = some (.aload_n 0, 1, 0, 0, 0) := rfl
theorem f_Mo_handle_57 : fetch 91 57 = some (.getfield 46, 3, 8, 17, 39) := rfl
theorem f_Mo_handle_60 : fetch 91 60 = some (.iload 7, 2, 0, 0, 0) := rfl
theorem f_Mo_handle_62 : fetch 91 62 = some (.baload, 1, 0, 0, 0) := rfl
theorem f_Mo_handle_63 : fetch 91 63 = some (.ifCond .ne 11, 3, 74, 0, 0) := rfl
theorem f_Mo_handle_66 : fetch 91 66 = some (.aload_n 0, 1, 0, 0, 0) := rfl
theorem f_Mo_handle_67 : fetch 91 67 = some (.iload 5, 2, 0, 0, 0) := rfl
theorem f_Mo_handle_69 : fetch 91 69 = some (.iconst 0, 1, 0, 0, 0) := rfl
theorem f_Mo_handle_70 : fetch 91 70 = some (.invokevirtual 290, 3, 76, 2, 84) := rfl
theorem f_Mo_handle_73 : fetch 91 73 = some (.return_, 1, 0, 0, 0) := rfl
theorem f_Mo_handle_74 : fetch 91 74 = some (.aload_n 0, 1, 0, 0, 0) := rfl
theorem f_Mo_handle_75 : fetch 91 75 = some (.getfield 93, 3, 8, 40, 54) := rfl
theorem f_Mo_handle_78 : fetch 91 78 = some (.iconst 3, 1, 0, 0, 0) := rfl
theorem f_Mo_handle_79 : fetch 91 79 = some (.iload_n 1, 1, 0, 0, 0) := rfl
theorem f_Mo_handle_80 : fetch 91 80 = some (.imul, 1, 0, 0, 0) := rfl
theorem f_Mo_handle_81 : fetch 91 81 = some (.iload_n 2, 1, 0, 0, 0) := rfl
theorem f_Mo_handle_82 : fetch 91 82 = some (.iadd, 1, 0, 0, 0) := rfl
theorem f_Mo_handle_83 : fetch 91 83 = some (.iload 4, 2, 0, 0, 0) := rfl
theorem f_Mo_handle_85 : fetch 91 85 = some (.iastore, 1, 0, 0, 0) := rfl
theorem f_Mo_handle_86 : fetch 91 86 = some (.aload_n 0, 1, 0, 0, 0) := rfl
theorem f_Mo_handle_87 : fetch 91 87 = some (.getfield 96, 3, 8, 41, 55) := rfl
theorem f_Mo_handle_90 : fetch 91 90 = some (.iconst 3, 1, 0, 0, 0) := rfl
theorem f_Mo_handle_91 : fetch 91 91 = some (.iload_n 1, 1, 0, 0, 0) := rfl
theorem f_Mo_handle_92 : fetch 91 92 = some (.imul, 1, 0, 0, 0) := rfl
theorem f_Mo_handle_93 : fetch 91 93 = some (.iload_n 2, 1, 0, 0, 0) := rfl
theorem f_Mo_handle_94 : fetch 91 94 = some (.iadd, 1, 0, 0, 0) := rfl
theorem f_Mo_handle_95 : fetch 91 95 = some (.iload 5, 2, 0, 0, 0) := rfl
theorem f_Mo_handle_97 : fetch 91 97 = some (.iastore, 1, 0, 0, 0) := rfl
theorem f_Mo_handle_98 : fetch 91 98 = some (.aload_n 0, 1, 0, 0, 0) := rfl
theorem f_Mo_handle_99 : fetch 91 99 = some (.getfield 99, 3, 8, 42, 56) := rfl
theorem f_Mo_handle_102 : fetch 91 102 = some (.iconst 3, 1, 0, 0, 0) := rfl
theorem f_Mo_handle_103 : fetch 91 103 = some (.iload_n 1, 1, 0, 0, 0) := rfl
theorem f_Mo_handle_104 : fetch 91 104 = some (.imul, 1, 0, 0, 0) := rfl
theorem f_Mo_handle_105 : fetch 91 105 = some (.iload_n 2, 1, 0, 0, 0) := rfl
theorem f_Mo_handle_106 : fetch 91 106 = some (.iadd, 1, 0, 0, 0) := rfl
theorem f_Mo_handle_107 : fetch 91 107 = some (.iload 6, 2, 0, 0, 0) := rfl
theorem f_Mo_handle_109 : fetch 91 109 = some (.iastore, 1, 0, 0, 0) := rfl
theorem f_Mo_handle_110 : fetch 91 110 = some (.return_, 1, 0, 0, 0) := rfl
def F_Mo_handle (a0 : Nat) (a1 : Int32) (a2 : Int32) (a3 : Int32) (a4 : Int32) (a5 : Int32) (a6 : Int32) (σ : SG) : Option (SG) :=
  if a1 < 0 ∨ 8 ≤ (a1).toNatClampNeg then none else
  if (((3 : Int32) * (σ.2.2.2.1 ((cref SHm (a0) 32)) ((a1).toNatClampNeg))) + a2) < 0 ∨ 18 ≤ ((((3 : Int32) * (σ.2.2.2.1 ((cref SHm (a0) 32)) ((a1).toNatClampNeg))) + a2)).toNatClampNeg then none else
  match F_Mo_drop (a0) (a1) (a3) ((σ.2.2.2.1 ((cref SHm (a0) 15)) (((((3 : Int32) * (σ.2.2.2.1 ((cref SHm (a0) 32)) ((a1).toNatClampNeg))) + a2)).toNatClampNeg))) σ with
  | none => none
  | some q3 =>
  if (((3 : Int32) * (σ.2.2.2.1 ((cref SHm (a0) 32)) ((a1).toNatClampNeg))) + a2) < 0 ∨ 18 ≤ ((((3 : Int32) * (σ.2.2.2.1 ((cref SHm (a0) 32)) ((a1).toNatClampNeg))) + a2)).toNatClampNeg then none else
  if (((3 : Int32) * (σ.2.2.2.1 ((cref SHm (a0) 32)) ((a1).toNatClampNeg))) + a2) < 0 ∨ 18 ≤ ((((3 : Int32) * (σ.2.2.2.1 ((cref SHm (a0) 32)) ((a1).toNatClampNeg))) + a2)).toNatClampNeg then none else
  stl (setA q3 ((cref SHm (a0) 43)) (((((3 : Int32) * (σ.2.2.2.1 ((cref SHm (a0) 32)) ((a1).toNatClampNeg))) + a2)).toNatClampNeg) (((q3.2.2.2.1 ((cref SHm (a0) 43)) (((((3 : Int32) * (σ.2.2.2.1 ((cref SHm (a0) 32)) ((a1).toNatClampNeg))) + a2)).toNatClampNeg)) + (1 : Int32)))) fun s6 =>
  if (((3 : Int32) * (σ.2.2.2.1 ((cref SHm (a0) 32)) ((a1).toNatClampNeg))) + a2) < 0 ∨ 18 ≤ ((((3 : Int32) * (σ.2.2.2.1 ((cref SHm (a0) 32)) ((a1).toNatClampNeg))) + a2)).toNatClampNeg then none else
  if a1 < 0 ∨ 8 ≤ (a1).toNatClampNeg then none else
  stl (setA s6 ((cref SHm (a0) 33)) ((a1).toNatClampNeg) ((s6.2.2.2.1 ((cref SHm (a0) 15)) (((((3 : Int32) * (σ.2.2.2.1 ((cref SHm (a0) 32)) ((a1).toNatClampNeg))) + a2)).toNatClampNeg)))) fun s9 =>
  if a1 < 0 ∨ 8 ≤ (a1).toNatClampNeg then none else
  stl (setA s9 ((cref SHm (a0) 34)) ((a1).toNatClampNeg) ((0 : Int32))) fun s11 =>
  if (((3 : Int32) * (σ.2.2.2.1 ((cref SHm (a0) 32)) ((a1).toNatClampNeg))) + a2) < 0 ∨ 18 ≤ ((((3 : Int32) * (σ.2.2.2.1 ((cref SHm (a0) 32)) ((a1).toNatClampNeg))) + a2)).toNatClampNeg then none else
  if (zb (s11.2.2.2.1 ((cref SHm (a0) 17)) (((((3 : Int32) * (σ.2.2.2.1 ((cref SHm (a0) 32)) ((a1).toNatClampNeg))) + a2)).toNatClampNeg))) = true then
  if (((3 : Int32) * a1) + a2) < 0 ∨ 24 ≤ ((((3 : Int32) * a1) + a2)).toNatClampNeg then none else
  stl (setA s11 ((cref SHm (a0) 40)) (((((3 : Int32) * a1) + a2)).toNatClampNeg) (a4)) fun s15 =>
  if (((3 : Int32) * a1) + a2) < 0 ∨ 24 ≤ ((((3 : Int32) * a1) + a2)).toNatClampNeg then none else
  stl (setA s15 ((cref SHm (a0) 41)) (((((3 : Int32) * a1) + a2)).toNatClampNeg) (a5)) fun s17 =>
  if (((3 : Int32) * a1) + a2) < 0 ∨ 24 ≤ ((((3 : Int32) * a1) + a2)).toNatClampNeg then none else
  stl (setA s17 ((cref SHm (a0) 42)) (((((3 : Int32) * a1) + a2)).toNatClampNeg) (a6)) fun s19 =>
  some s19
  else match F_Mo_put (a0) (a5) ((0 : Int32)) s11 with
  | none => none
  | some q20 =>
  some q20
set_option maxHeartbeats 4000000 in
theorem w_Mo_handle {b d : Nat} {pre tl : List PE} {B : Nat} {Q : Option Value → List PE → Prop} {res : SG} (hB : B = b + pre.length) (hd : 2 ≤ d)  {σ : SG} (a0 : Nat) (a1 : Int32) (a2 : Int32) (a3 : Int32) (a4 : Int32) (a5 : Int32) (a6 : Int32) (ha0 : isC SHm (a0) 8 = true) (hF : F_Mo_handle a0 a1 a2 a3 a4 a5 a6 σ = some res) (hQ : Q none (HH pre tl SHm B res)) : Cl b d 91 [.ref (B + (a0)), .int (a1), .int (a2), .int (a3), .int (a4), .int (a5), .int (a6)] (HH pre tl SHm B σ) Q := by
  obtain ⟨e0, rfl⟩ : ∃ e, d = e + 1 := ⟨d - 1, by omega⟩
  unfold Cl
  unfold F_Mo_handle at hF
  refine r_iconst f_Mo_handle_0 (v := 3) (by decide) ?_
  refine r_aload_n f_Mo_handle_1 rfl ?_
  refine t_getc hB ha0 f_Mo_handle_2 rfl ?_
  refine r_iload_n f_Mo_handle_5 rfl ?_
  by_cases c1 : a1 < 0 ∨ 8 ≤ (a1).toNatClampNeg
  · rw [if_pos c1] at hF; cases hF
  rw [if_neg c1] at hF
  refine t_iald hB (cc_8_32 ha0) f_Mo_handle_6 c1 ?_
  refine r_imul f_Mo_handle_7 ?_
  refine r_iload_n f_Mo_handle_8 rfl ?_
  refine r_iadd f_Mo_handle_9 ?_
  refine r_istore f_Mo_handle_10 ?_
  refine r_aload_n f_Mo_handle_12 (lk_put_ne rfl (by decide) (Or.inl rfl)) ?_
  refine r_iload_n f_Mo_handle_13 (lk_put_ne rfl (by decide) (Or.inl rfl)) ?_
  refine r_iload_n f_Mo_handle_14 (lk_put_ne rfl (by decide) (Or.inl rfl)) ?_
  refine r_aload_n f_Mo_handle_15 (lk_put_ne rfl (by decide) (Or.inl rfl)) ?_
  refine t_getc hB ha0 f_Mo_handle_16 rfl ?_
  refine r_iload f_Mo_handle_19 lk_put ?_
  by_cases c2 : (((3 : Int32) * (σ.2.2.2.1 ((cref SHm (a0) 32)) ((a1).toNatClampNeg))) + a2) < 0 ∨ 18 ≤ ((((3 : Int32) * (σ.2.2.2.1 ((cref SHm (a0) 32)) ((a1).toNatClampNeg))) + a2)).toNatClampNeg
  · rw [if_pos c2] at hF; cases hF
  rw [if_neg c2] at hF
  refine t_iald hB (cc_8_15 ha0) f_Mo_handle_21 c2 ?_
  cases hq3 : F_Mo_drop (a0) (a1) (a3) ((σ.2.2.2.1 ((cref SHm (a0) 15)) (((((3 : Int32) * (σ.2.2.2.1 ((cref SHm (a0) 32)) ((a1).toNatClampNeg))) + a2)).toNatClampNeg))) σ with
  | none => simp only [hq3] at hF; cases hF
  | some q3 =>
    simp only [hq3] at hF
    refine t_V3v hB ha0 rfl rfl f_Mo_handle_22 (by decide) (Nat.le_of_ble_eq_true rfl) (Nat.le_of_ble_eq_true rfl) (w_Mo_drop hB (by omega) (a0) (a1) (a3) ((σ.2.2.2.1 ((cref SHm (a0) 15)) (((((3 : Int32) * (σ.2.2.2.1 ((cref SHm (a0) 32)) ((a1).toNatClampNeg))) + a2)).toNatClampNeg))) ha0 hq3 ⟨rfl, ?_⟩)
    refine r_aload_n f_Mo_handle_25 (lk_put_ne rfl (by decide) (Or.inl rfl)) ?_
    refine t_getc hB ha0 f_Mo_handle_26 rfl ?_
    refine r_iload f_Mo_handle_29 lk_put ?_
    refine r_dup2 f_Mo_handle_31 ⟨rfl, rfl⟩ ?_
    by_cases c4 : (((3 : Int32) * (σ.2.2.2.1 ((cref SHm (a0) 32)) ((a1).toNatClampNeg))) + a2) < 0 ∨ 18 ≤ ((((3 : Int32) * (σ.2.2.2.1 ((cref SHm (a0) 32)) ((a1).toNatClampNeg))) + a2)).toNatClampNeg
    · rw [if_pos c4] at hF; cases hF
    rw [if_neg c4] at hF
    refine t_iald hB (cc_8_43 ha0) f_Mo_handle_32 c4 ?_
    refine r_iconst f_Mo_handle_33 (v := 1) (by decide) ?_
    refine r_iadd f_Mo_handle_34 ?_
    by_cases c5 : (((3 : Int32) * (σ.2.2.2.1 ((cref SHm (a0) 32)) ((a1).toNatClampNeg))) + a2) < 0 ∨ 18 ≤ ((((3 : Int32) * (σ.2.2.2.1 ((cref SHm (a0) 32)) ((a1).toNatClampNeg))) + a2)).toNatClampNeg
    · rw [if_pos c5] at hF; cases hF
    rw [if_neg c5] at hF
    refine t_iast hB (cc_8_43 ha0) f_Mo_handle_35 c5 ?_
    generalize hs6 : setA q3 ((cref SHm (a0) 43)) (((((3 : Int32) * (σ.2.2.2.1 ((cref SHm (a0) 32)) ((a1).toNatClampNeg))) + a2)).toNatClampNeg) (((q3.2.2.2.1 ((cref SHm (a0) 43)) (((((3 : Int32) * (σ.2.2.2.1 ((cref SHm (a0) 32)) ((a1).toNatClampNeg))) + a2)).toNatClampNeg)) + (1 : Int32))) = s6 at hF ⊢
    rw [stl_eq] at hF
    refine r_aload_n f_Mo_handle_36 (lk_put_ne rfl (by decide) (Or.inl rfl)) ?_
    refine t_getc hB ha0 f_Mo_handle_37 rfl ?_
    refine r_iload_n f_Mo_handle_40 (lk_put_ne rfl (by decide) (Or.inl rfl)) ?_
    refine r_aload_n f_Mo_handle_41 (lk_put_ne rfl (by decide) (Or.inl rfl)) ?_
    refine t_getc hB ha0 f_Mo_handle_42 rfl ?_
    refine r_iload f_Mo_handle_45 lk_put ?_
    by_cases c7 : (((3 : Int32) * (σ.2.2.2.1 ((cref SHm (a0) 32)) ((a1).toNatClampNeg))) + a2) < 0 ∨ 18 ≤ ((((3 : Int32) * (σ.2.2.2.1 ((cref SHm (a0) 32)) ((a1).toNatClampNeg))) + a2)).toNatClampNeg
    · rw [if_pos c7] at hF; cases hF
    rw [if_neg c7] at hF
    refine t_iald hB (cc_8_15 ha0) f_Mo_handle_47 c7 ?_
    by_cases c8 : a1 < 0 ∨ 8 ≤ (a1).toNatClampNeg
    · rw [if_pos c8] at hF; cases hF
    rw [if_neg c8] at hF
    refine t_iast hB (cc_8_33 ha0) f_Mo_handle_48 c8 ?_
    generalize hs9 : setA s6 ((cref SHm (a0) 33)) ((a1).toNatClampNeg) ((s6.2.2.2.1 ((cref SHm (a0) 15)) (((((3 : Int32) * (σ.2.2.2.1 ((cref SHm (a0) 32)) ((a1).toNatClampNeg))) + a2)).toNatClampNeg))) = s9 at hF ⊢
    rw [stl_eq] at hF
    refine r_aload_n f_Mo_handle_49 (lk_put_ne rfl (by decide) (Or.inl rfl)) ?_
    refine t_getc hB ha0 f_Mo_handle_50 rfl ?_
    refine r_iload_n f_Mo_handle_53 (lk_put_ne rfl (by decide) (Or.inl rfl)) ?_
    refine r_iconst f_Mo_handle_54 (v := 0) (by decide) ?_
    by_cases c10 : a1 < 0 ∨ 8 ≤ (a1).toNatClampNeg
    · rw [if_pos c10] at hF; cases hF
    rw [if_neg c10] at hF
    refine t_iast hB (cc_8_34 ha0) f_Mo_handle_55 c10 ?_
    generalize hs11 : setA s9 ((cref SHm (a0) 34)) ((a1).toNatClampNeg) ((0 : Int32)) = s11 at hF ⊢
    rw [stl_eq] at hF
    refine r_aload_n f_Mo_handle_56 (lk_put_ne rfl (by decide) (Or.inl rfl)) ?_
    refine t_getc hB ha0 f_Mo_handle_57 rfl ?_
    refine r_iload f_Mo_handle_60 lk_put ?_
    by_cases c12 : (((3 : Int32) * (σ.2.2.2.1 ((cref SHm (a0) 32)) ((a1).toNatClampNeg))) + a2) < 0 ∨ 18 ≤ ((((3 : Int32) * (σ.2.2.2.1 ((cref SHm (a0) 32)) ((a1).toNatClampNeg))) + a2)).toNatClampNeg
    · rw [if_pos c12] at hF; cases hF
    rw [if_neg c12] at hF
    refine t_bald hB (cc_8_17 ha0) f_Mo_handle_62 c12 ?_
    refine r_if_ne f_Mo_handle_63 (fun c13 => ?_) (fun c13 => ?_)
    · rw [if_pos (bz_t c13)] at hF
      refine r_aload_n f_Mo_handle_74 (lk_put_ne rfl (by decide) (Or.inl rfl)) ?_
      refine t_getc hB ha0 f_Mo_handle_75 rfl ?_
      refine r_iconst f_Mo_handle_78 (v := 3) (by decide) ?_
      refine r_iload_n f_Mo_handle_79 (lk_put_ne rfl (by decide) (Or.inl rfl)) ?_
      refine r_imul f_Mo_handle_80 ?_
      refine r_iload_n f_Mo_handle_81 (lk_put_ne rfl (by decide) (Or.inl rfl)) ?_
      refine r_iadd f_Mo_handle_82 ?_
      refine r_iload f_Mo_handle_83 (lk_put_ne rfl (by decide) (Or.inl rfl)) ?_
      by_cases c14 : (((3 : Int32) * a1) + a2) < 0 ∨ 24 ≤ ((((3 : Int32) * a1) + a2)).toNatClampNeg
      · rw [if_pos c14] at hF; cases hF
      rw [if_neg c14] at hF
      refine t_iast hB (cc_8_40 ha0) f_Mo_handle_85 c14 ?_
      generalize hs15 : setA s11 ((cref SHm (a0) 40)) (((((3 : Int32) * a1) + a2)).toNatClampNeg) (a4) = s15 at hF ⊢
      rw [stl_eq] at hF
      refine r_aload_n f_Mo_handle_86 (lk_put_ne rfl (by decide) (Or.inl rfl)) ?_
      refine t_getc hB ha0 f_Mo_handle_87 rfl ?_
      refine r_iconst f_Mo_handle_90 (v := 3) (by decide) ?_
      refine r_iload_n f_Mo_handle_91 (lk_put_ne rfl (by decide) (Or.inl rfl)) ?_
      refine r_imul f_Mo_handle_92 ?_
      refine r_iload_n f_Mo_handle_93 (lk_put_ne rfl (by decide) (Or.inl rfl)) ?_
      refine r_iadd f_Mo_handle_94 ?_
      refine r_iload f_Mo_handle_95 (lk_put_ne rfl (by decide) (Or.inl rfl)) ?_
      by_cases c16 : (((3 : Int32) * a1) + a2) < 0 ∨ 24 ≤ ((((3 : Int32) * a1) + a2)).toNatClampNeg
      · rw [if_pos c16] at hF; cases hF
      rw [if_neg c16] at hF
      refine t_iast hB (cc_8_41 ha0) f_Mo_handle_97 c16 ?_
      generalize hs17 : setA s15 ((cref SHm (a0) 41)) (((((3 : Int32) * a1) + a2)).toNatClampNeg) (a5) = s17 at hF ⊢
      rw [stl_eq] at hF
      refine r_aload_n f_Mo_handle_98 (lk_put_ne rfl (by decide) (Or.inl rfl)) ?_
      refine t_getc hB ha0 f_Mo_handle_99 rfl ?_
      refine r_iconst f_Mo_handle_102 (v := 3) (by decide) ?_
      refine r_iload_n f_Mo_handle_103 (lk_put_ne rfl (by decide) (Or.inl rfl)) ?_
      refine r_imul f_Mo_handle_104 ?_
      refine r_iload_n f_Mo_handle_105 (lk_put_ne rfl (by decide) (Or.inl rfl)) ?_
      refine r_iadd f_Mo_handle_106 ?_
      refine r_iload f_Mo_handle_107 (lk_put_ne rfl (by decide) (Or.inl rfl)) ?_
      by_cases c18 : (((3 : Int32) * a1) + a2) < 0 ∨ 24 ≤ ((((3 : Int32) * a1) + a2)).toNatClampNeg
      · rw [if_pos c18] at hF; cases hF
      rw [if_neg c18] at hF
      refine t_iast hB (cc_8_42 ha0) f_Mo_handle_109 c18 ?_
      generalize hs19 : setA s17 ((cref SHm (a0) 42)) (((((3 : Int32) * a1) + a2)).toNatClampNeg) (a6) = s19 at hF ⊢
      rw [stl_eq] at hF
      cases hF
      exact r_return f_Mo_handle_110 hQ
    · rw [if_neg (bz_nt (Decidable.not_not.mp c13))] at hF
      refine r_aload_n f_Mo_handle_66 (lk_put_ne rfl (by decide) (Or.inl rfl)) ?_
      refine r_iload f_Mo_handle_67 (lk_put_ne rfl (by decide) (Or.inl rfl)) ?_
      refine r_iconst f_Mo_handle_69 (v := 0) (by decide) ?_
      cases hq20 : F_Mo_put (a0) (a5) ((0 : Int32)) s11 with
      | none => simp only [hq20] at hF; cases hF
      | some q20 =>
        simp only [hq20] at hF
        refine t_V2v hB ha0 rfl rfl f_Mo_handle_70 (by decide) (Nat.le_of_ble_eq_true rfl) (Nat.le_of_ble_eq_true rfl) (w_Mo_put hB  (a0) (a5) ((0 : Int32)) ha0 hq20 ⟨rfl, ?_⟩)
        cases hF
        exact r_return f_Mo_handle_73 hQ
theorem f_Mo_raiseBehind_0 : fetch 90 0 = some (.iload_n 2, 1, 0, 0, 0) := rfl
theorem f_Mo_raiseBehind_1 : fetch 90 1 = some (.istore 5, 2, 0, 0, 0) := rfl
theorem f_Mo_raiseBehind_3 : fetch 90 3 = some (.iload_n 3, 1, 0, 0, 0) := rfl
theorem f_Mo_raiseBehind_4 : fetch 90 4 = some (.istore 6, 2, 0, 0, 0) := rfl
theorem f_Mo_raiseBehind_6 : fetch 90 6 = some (.iload 4, 2, 0, 0, 0) := rfl
theorem f_Mo_raiseBehind_8 : fetch 90 8 = some (.istore 7, 2, 0, 0, 0) := rfl
theorem f_Mo_raiseBehind_10 : fetch 90 10 = some (.aload_n 0, 1, 0, 0, 0) := rfl
theorem f_Mo_raiseBehind_11 : fetch 90 11 = some (.iconst 0, 1, 0, 0, 0) := rfl
theorem f_Mo_raiseBehind_12 : fetch 90 12 = some (.putfield 287, 3, 8, 44, 72) := rfl
theorem f_Mo_raiseBehind_15 : fetch 90 15 = some (.aload_n 0, 1, 0, 0, 0) := rfl
theorem f_Mo_raiseBehind_16 : fetch 90 16 = some (.getfield 275, 3, 8, 31, 71) := rfl
theorem f_Mo_raiseBehind_19 : fetch 90 19 = some (.ifCond .le 127, 3, 146, 0, 0) := rfl
theorem f_Mo_raiseBehind_22 : fetch 90 22 = some (.aload_n 0, 1, 0, 0, 0) := rfl
theorem f_Mo_raiseBehind_23 : fetch 90 23 = some (.getfield 275, 3, 8, 31, 71) := rfl
theorem f_Mo_raiseBehind_26 : fetch 90 26 = some (.iconst 1, 1, 0, 0, 0) := rfl
theorem f_Mo_raiseBehind_27 : fetch 90 27 = some (.isub, 1, 0, 0, 0) := rfl
theorem f_Mo_raiseBehind_28 : fetch 90 28 = some (.istore 8, 2, 0, 0, 0) := rfl
theorem f_Mo_raiseBehind_30 : fetch 90 30 = some (.aload_n 0, 1, 0, 0, 0) := rfl
theorem f_Mo_raiseBehind_31 : fetch 90 31 = some (.getfield 69, 3, 8, 32, 46) := rfl
theorem f_Mo_raiseBehind_34 : fetch 90 34 = some (.iload 8, 2, 0, 0, 0) := rfl
theorem f_Mo_raiseBehind_36 : fetch 90 36 = some (.iaload, 1, 0, 0, 0) := rfl
theorem f_Mo_raiseBehind_37 : fetch 90 37 = some (.istore 9, 2, 0, 0, 0) := rfl
theorem f_Mo_raiseBehind_39 : fetch 90 39 = some (.iload 7, 2, 0, 0, 0) := rfl
theorem f_Mo_raiseBehind_41 : fetch 90 41 = some (.aload_n 0, 1, 0, 0, 0) := rfl
theorem f_Mo_raiseBehind_42 : fetch 90 42 = some (.getfield 34, 3, 8, 13, 35) := rfl
theorem f_Mo_raiseBehind_45 : fetch 90 45 = some (.iload 9, 2, 0, 0, 0) := rfl
theorem f_Mo_raiseBehind_47 : fetch 90 47 = some (.iaload, 1, 0, 0, 0) := rfl
theorem f_Mo_raiseBehind_48 : fetch 90 48 = some (.if_icmp .ge 25, 3, 73, 0, 0) := rfl
theorem f_Mo_raiseBehind_51 : fetch 90 51 = some (.aload_n 0, 1, 0, 0, 0) := rfl
theorem f_Mo_raiseBehind_52 : fetch 90 52 = some (.iconst 3, 1, 0, 0, 0) := rfl
theorem f_Mo_raiseBehind_53 : fetch 90 53 = some (.iload 9, 2, 0, 0, 0) := rfl
theorem f_Mo_raiseBehind_55 : fetch 90 55 = some (.imul, 1, 0, 0, 0) := rfl
theorem f_Mo_raiseBehind_56 : fetch 90 56 = some (.iload 7, 2, 0, 0, 0) := rfl
theorem f_Mo_raiseBehind_58 : fetch 90 58 = some (.iadd, 1, 0, 0, 0) := rfl
theorem f_Mo_raiseBehind_59 : fetch 90 59 = some (.iload 6, 2, 0, 0, 0) := rfl
theorem f_Mo_raiseBehind_61 : fetch 90 61 = some (.invokevirtual 203, 3, 44, 2, 53) := rfl
theorem f_Mo_raiseBehind_64 : fetch 90 64 = some (.ifCond .ne 9, 3, 73, 0, 0) := rfl
theorem f_Mo_raiseBehind_67 : fetch 90 67 = some (.iinc 7 1, 3, 0, 0, 0) := rfl
theorem f_Mo_raiseBehind_70 : fetch 90 70 = some (.goto (-31), 3, 39, 0, 0) := rfl
theorem f_Mo_raiseBehind_73 : fetch 90 73 = some (.iload 7, 2, 0, 0, 0) := rfl
theorem f_Mo_raiseBehind_75 : fetch 90 75 = some (.aload_n 0, 1, 0, 0, 0) := rfl
theorem f_Mo_raiseBehind_76 : fetch 90 76 = some (.getfield 34, 3, 8, 13, 35) := rfl
theorem f_Mo_raiseBehind_79 : fetch 90 79 = some (.iload 9, 2, 0, 0, 0) := rfl
theorem f_Mo_raiseBehind_81 : fetch 90 81 = some (.iaload, 1, 0, 0, 0) := rfl
theorem f_Mo_raiseBehind_82 : fetch 90 82 = some (.if_icmp .ge 18, 3, 100, 0, 0) := rfl
theorem f_Mo_raiseBehind_85 : fetch 90 85 = some (.aload_n 0, 1, 0, 0, 0) := rfl
theorem f_Mo_raiseBehind_86 : fetch 90 86 = some (.iload 8, 2, 0, 0, 0) := rfl
theorem f_Mo_raiseBehind_88 : fetch 90 88 = some (.iload 7, 2, 0, 0, 0) := rfl
theorem f_Mo_raiseBehind_90 : fetch 90 90 = some (.iload 5, 2, 0, 0, 0) := rfl
theorem f_Mo_raiseBehind_92 : fetch 90 92 = some (.iconst 1, 1, 0, 0, 0) := rfl
theorem f_Mo_raiseBehind_93 : fetch 90 93 = some (.iload_n 1, 1, 0, 0, 0) := rfl
theorem f_Mo_raiseBehind_94 : fetch 90 94 = some (.iload 6, 2, 0, 0, 0) := rfl
theorem f_Mo_raiseBehind_96 : fetch 90 96 = some (.invokevirtual 349, 3, 91, 6, 98) := rfl
theorem f_Mo_raiseBehind_99 : fetch 90 99 = some (.return_, 1, 0, 0, 0) := rfl
theorem f_Mo_raiseBehind_100 : fetch 90 100 = some (.aload_n 0, 1, 0, 0, 0) := rfl
theorem f_Mo_raiseBehind_101 : fetch 90 101 = some (.dup, 1, 0, 0, 0) := rfl
theorem f_Mo_raiseBehind_102 : fetch 90 102 = some (.getfield 275, 3, 8, 31, 71) := rfl
theorem f_Mo_raiseBehind_105 : fetch 90 105 = some (.iconst 1, 1, 0, 0, 0) := rfl
theorem f_Mo_raiseBehind_106 : fetch 90 106 = some (.isub, 1, 0, 0, 0) := rfl
theorem f_Mo_raiseBehind_107 : fetch 90 107 = some (.putfield 275, 3, 8, 31, 71) := rfl
theorem f_Mo_raiseBehind_110 : fetch 90 110 = some (.aload_n 0, 1, 0, 0, 0) := rfl
theorem f_Mo_raiseBehind_111 : fetch 90 111 = some (.getfield 275, 3, 8, 31, 71) := rfl
theorem f_Mo_raiseBehind_114 : fetch 90 114 = some (.ifCond .le 19, 3, 133, 0, 0) := rfl
theorem f_Mo_raiseBehind_117 : fetch 90 117 = some (.aload_n 0, 1, 0, 0, 0) := rfl
theorem f_Mo_raiseBehind_118 : fetch 90 118 = some (.getfield 72, 3, 8, 33, 47) := rfl
theorem f_Mo_raiseBehind_121 : fetch 90 121 = some (.aload_n 0, 1, 0, 0, 0) := rfl
theorem f_Mo_raiseBehind_122 : fetch 90 122 = some (.getfield 275, 3, 8, 31, 71) := rfl
theorem f_Mo_raiseBehind_125 : fetch 90 125 = some (.iconst 1, 1, 0, 0, 0) := rfl
theorem f_Mo_raiseBehind_126 : fetch 90 126 = some (.isub, 1, 0, 0, 0) := rfl
theorem f_Mo_raiseBehind_127 : fetch 90 127 = some (.iaload, 1, 0, 0, 0) := rfl
theorem f_Mo_raiseBehind_128 : fetch 90 128 = some (.iconst 2, 1, 0, 0, 0) := rfl
theorem f_Mo_raiseBehind_129 : fetch 90 129 = some (.isub, 1, 0, 0, 0) := rfl
theorem f_Mo_raiseBehind_130 : fetch 90 130 = some (.goto 4, 3, 134, 0, 0) := rfl
theorem f_Mo_raiseBehind_133 : fetch 90 133 = some (.iconst 0, 1, 0, 0, 0) := rfl
theorem f_Mo_raiseBehind_134 : fetch 90 134 = some (.istore 5, 2, 0, 0, 0) := rfl
theorem f_Mo_raiseBehind_136 : fetch 90 136 = some (.iload 5, 2, 0, 0, 0) := rfl
theorem f_Mo_raiseBehind_138 : fetch 90 138 = some (.istore 6, 2, 0, 0, 0) := rfl
theorem f_Mo_raiseBehind_140 : fetch 90 140 = some (.iconst 0, 1, 0, 0, 0) := rfl
theorem f_Mo_raiseBehind_141 : fetch 90 141 = some (.istore 7, 2, 0, 0, 0) := rfl
theorem f_Mo_raiseBehind_143 : fetch 90 143 = some (.goto (-128), 3, 15, 0, 0) := rfl
theorem f_Mo_raiseBehind_146 : fetch 90 146 = some (.aload_n 0, 1, 0, 0, 0) := rfl
theorem f_Mo_raiseBehind_147 : fetch 90 147 = some (.iconst 3, 1, 0, 0, 0) := rfl
theorem f_Mo_raiseBehind_148 : fetch 90 148 = some (.putfield 147, 3, 8, 28, 61) := rfl
theorem f_Mo_raiseBehind_151 : fetch 90 151 = some (.aload_n 0, 1, 0, 0, 0) := rfl
theorem f_Mo_raiseBehind_152 : fetch 90 152 = some (.iload_n 1, 1, 0, 0, 0) := rfl
theorem f_Mo_raiseBehind_153 : fetch 90 153 = some (.putfield 269, 3, 8, 29, 69) := rfl
theorem f_Mo_raiseBehind_156 : fetch 90 156 = some (.return_, 1, 0, 0, 0) := rfl
def F_Mo_raiseBehind_134 (rec15 : Nat → Int32 → Int32 → Int32 → Int32 → SG → Option (SG)) (x0 : Nat) (x1 : Int32) (y0 : Int32) (σ : SG) : Option (SG) :=
  rec15 (x0) (x1) (y0) (y0) ((0 : Int32)) σ
set_option maxHeartbeats 4000000 in
theorem w_Mo_raiseBehind_134 {b d : Nat} {sc : SC} {pre tl : List PE} {B : Nat} {Q : Option Value → List PE → Prop} {res : SG} (hB : B = b + pre.length) (hd : 3 ≤ d) {rec15 : Nat → Int32 → Int32 → Int32 → Int32 → SG → Option (SG)} (hr15 : ∀ (lv : LV) (σ : SG) (x0 : Nat) (x1 : Int32) (x5 : Int32) (x6 : Int32) (x7 : Int32), isC SHm (x0) 8 = true → lv.lookup 0 = some (.ref (B + (x0))) → lv.lookup 1 = some (.int (x1)) → lv.lookup 5 = some (.int (x5)) → lv.lookup 6 = some (.int (x6)) → lv.lookup 7 = some (.int (x7)) →  rec15 x0 x1 x5 x6 x7 σ = some res → Rn b sc d 90 15 lv [] (HH pre tl SHm B σ) Q) (hQ : Q none (HH pre tl SHm B res)) (lv : LV) (σ : SG) (x0 : Nat) (x1 : Int32) (y0 : Int32) (hx0 : isC SHm (x0) 8 = true) (l0 : lv.lookup 0 = some (.ref (B + (x0)))) (l1 : lv.lookup 1 = some (.int (x1))) (hF : F_Mo_raiseBehind_134 rec15 x0 x1 y0 σ = some res) : Rn b sc d 90 134 lv [.int (y0)] (HH pre tl SHm B σ) Q := by
  obtain ⟨e0, rfl⟩ : ∃ e, d = e + 1 := ⟨d - 1, by omega⟩
  unfold F_Mo_raiseBehind_134 at hF
  refine r_istore f_Mo_raiseBehind_134 ?_
  refine r_iload f_Mo_raiseBehind_136 lk_put ?_
  refine r_istore f_Mo_raiseBehind_138 ?_
  refine r_iconst f_Mo_raiseBehind_140 (v := 0) (by decide) ?_
  refine r_istore f_Mo_raiseBehind_141 ?_
  refine r_goto f_Mo_raiseBehind_143 ?_
  exact hr15 _ (σ) (x0) (x1) (y0) (y0) ((0 : Int32)) hx0 (lk_put_ne (lk_put_ne (lk_put_ne l0 (by decide) (Or.inl rfl)) (by decide) (Or.inl rfl)) (by decide) (Or.inl rfl)) (lk_put_ne (lk_put_ne (lk_put_ne l1 (by decide) (Or.inl rfl)) (by decide) (Or.inl rfl)) (by decide) (Or.inl rfl)) (lk_put_ne (lk_put_ne lk_put (by decide) (Or.inl rfl)) (by decide) (Or.inl rfl)) (lk_put_ne lk_put (by decide) (Or.inl rfl)) lk_put hF
def F_Mo_raiseBehind_73 (rec15 : Nat → Int32 → Int32 → Int32 → Int32 → SG → Option (SG)) (x0 : Nat) (x1 : Int32) (x5 : Int32) (x6 : Int32) (x7 : Int32) (x8 : Int32) (x9 : Int32) (σ : SG) : Option (SG) :=
  if x9 < 0 ∨ 6 ≤ (x9).toNatClampNeg then none else
  if (σ.2.2.2.1 ((cref SHm (x0) 13)) ((x9).toNatClampNeg)) ≤ x7 then
  stl (setI σ (x0) 31 (((σ.1 (x0) 31) - (1 : Int32)))) fun s3 =>
  if (s3.1 (x0) 31) ≤ 0 then
  F_Mo_raiseBehind_134 (rec15) (x0) (x1) ((0 : Int32)) s3
  else if ((s3.1 (x0) 31) - (1 : Int32)) < 0 ∨ 8 ≤ (((s3.1 (x0) 31) - (1 : Int32))).toNatClampNeg then none else
  F_Mo_raiseBehind_134 (rec15) (x0) (x1) (((s3.2.2.2.1 ((cref SHm (x0) 33)) ((((s3.1 (x0) 31) - (1 : Int32))).toNatClampNeg)) - (2 : Int32))) s3
  else match F_Mo_handle (x0) (x8) (x7) (x5) ((1 : Int32)) (x1) (x6) σ with
  | none => none
  | some q6 =>
  some q6
set_option maxHeartbeats 4000000 in
theorem w_Mo_raiseBehind_73 {b d : Nat} {sc : SC} {pre tl : List PE} {B : Nat} {Q : Option Value → List PE → Prop} {res : SG} (hB : B = b + pre.length) (hd : 3 ≤ d) {rec15 : Nat → Int32 → Int32 → Int32 → Int32 → SG → Option (SG)} (hr15 : ∀ (lv : LV) (σ : SG) (x0 : Nat) (x1 : Int32) (x5 : Int32) (x6 : Int32) (x7 : Int32), isC SHm (x0) 8 = true → lv.lookup 0 = some (.ref (B + (x0))) → lv.lookup 1 = some (.int (x1)) → lv.lookup 5 = some (.int (x5)) → lv.lookup 6 = some (.int (x6)) → lv.lookup 7 = some (.int (x7)) →  rec15 x0 x1 x5 x6 x7 σ = some res → Rn b sc d 90 15 lv [] (HH pre tl SHm B σ) Q) (hQ : Q none (HH pre tl SHm B res)) (lv : LV) (σ : SG) (x0 : Nat) (x1 : Int32) (x5 : Int32) (x6 : Int32) (x7 : Int32) (x8 : Int32) (x9 : Int32) (hx0 : isC SHm (x0) 8 = true) (l0 : lv.lookup 0 = some (.ref (B + (x0)))) (l1 : lv.lookup 1 = some (.int (x1))) (l5 : lv.lookup 5 = some (.int (x5))) (l6 : lv.lookup 6 = some (.int (x6))) (l7 : lv.lookup 7 = some (.int (x7))) (l8 : lv.lookup 8 = some (.int (x8))) (l9 : lv.lookup 9 = some (.int (x9))) (hF : F_Mo_raiseBehind_73 rec15 x0 x1 x5 x6 x7 x8 x9 σ = some res) : Rn b sc d 90 73 lv [] (HH pre tl SHm B σ) Q := by
  obtain ⟨e0, rfl⟩ : ∃ e, d = e + 1 := ⟨d - 1, by omega⟩
  unfold F_Mo_raiseBehind_73 at hF
  refine r_iload f_Mo_raiseBehind_73 l7 ?_
  refine r_aload_n f_Mo_raiseBehind_75 l0 ?_
  refine t_getc hB hx0 f_Mo_raiseBehind_76 rfl ?_
  refine r_iload f_Mo_raiseBehind_79 l9 ?_
  by_cases c1 : x9 < 0 ∨ 6 ≤ (x9).toNatClampNeg
  · rw [if_pos c1] at hF; cases hF
  rw [if_neg c1] at hF
  refine t_iald hB (cc_8_13 hx0) f_Mo_raiseBehind_81 c1 ?_
  refine r_icmp_ge f_Mo_raiseBehind_82 (fun c2 => ?_) (fun c2 => ?_)
  · rw [if_pos c2] at hF
    refine r_aload_n f_Mo_raiseBehind_100 l0 ?_
    refine r_dup f_Mo_raiseBehind_101 rfl ?_
    refine t_geti hB hx0 f_Mo_raiseBehind_102 rfl ?_
    refine r_iconst f_Mo_raiseBehind_105 (v := 1) (by decide) ?_
    refine r_isub f_Mo_raiseBehind_106 ?_
    refine t_puti hB hx0 f_Mo_raiseBehind_107 rfl rfl ?_
    generalize hs3 : setI σ (x0) 31 (((σ.1 (x0) 31) - (1 : Int32))) = s3 at hF ⊢
    rw [stl_eq] at hF
    refine r_aload_n f_Mo_raiseBehind_110 l0 ?_
    refine t_geti hB hx0 f_Mo_raiseBehind_111 rfl ?_
    refine r_if_le f_Mo_raiseBehind_114 (fun c4 => ?_) (fun c4 => ?_)
    · rw [if_pos c4] at hF
      refine r_iconst f_Mo_raiseBehind_133 (v := 0) (by decide) ?_
      exact w_Mo_raiseBehind_134 hB hd (hr15) hQ _ (s3) (x0) (x1) ((0 : Int32)) hx0 l0 l1 hF
    · rw [if_neg c4] at hF
      refine r_aload_n f_Mo_raiseBehind_117 l0 ?_
      refine t_getc hB hx0 f_Mo_raiseBehind_118 rfl ?_
      refine r_aload_n f_Mo_raiseBehind_121 l0 ?_
      refine t_geti hB hx0 f_Mo_raiseBehind_122 rfl ?_
      refine r_iconst f_Mo_raiseBehind_125 (v := 1) (by decide) ?_
      refine r_isub f_Mo_raiseBehind_126 ?_
      by_cases c5 : ((s3.1 (x0) 31) - (1 : Int32)) < 0 ∨ 8 ≤ (((s3.1 (x0) 31) - (1 : Int32))).toNatClampNeg
      · rw [if_pos c5] at hF; cases hF
      rw [if_neg c5] at hF
      refine t_iald hB (cc_8_33 hx0) f_Mo_raiseBehind_127 c5 ?_
      refine r_iconst f_Mo_raiseBehind_128 (v := 2) (by decide) ?_
      refine r_isub f_Mo_raiseBehind_129 ?_
      refine r_goto f_Mo_raiseBehind_130 ?_
      exact w_Mo_raiseBehind_134 hB hd (hr15) hQ _ (s3) (x0) (x1) (((s3.2.2.2.1 ((cref SHm (x0) 33)) ((((s3.1 (x0) 31) - (1 : Int32))).toNatClampNeg)) - (2 : Int32))) hx0 l0 l1 hF
  · rw [if_neg c2] at hF
    refine r_aload_n f_Mo_raiseBehind_85 l0 ?_
    refine r_iload f_Mo_raiseBehind_86 l8 ?_
    refine r_iload f_Mo_raiseBehind_88 l7 ?_
    refine r_iload f_Mo_raiseBehind_90 l5 ?_
    refine r_iconst f_Mo_raiseBehind_92 (v := 1) (by decide) ?_
    refine r_iload_n f_Mo_raiseBehind_93 l1 ?_
    refine r_iload f_Mo_raiseBehind_94 l6 ?_
    cases hq6 : F_Mo_handle (x0) (x8) (x7) (x5) ((1 : Int32)) (x1) (x6) σ with
    | none => simp only [hq6] at hF; cases hF
    | some q6 =>
      simp only [hq6] at hF
      refine t_V6v hB hx0 rfl rfl f_Mo_raiseBehind_96 (by decide) (Nat.le_of_ble_eq_true rfl) (Nat.le_of_ble_eq_true rfl) (w_Mo_handle hB (by omega) (x0) (x8) (x7) (x5) ((1 : Int32)) (x1) (x6) hx0 hq6 ⟨rfl, ?_⟩)
      cases hF
      exact r_return f_Mo_raiseBehind_99 hQ
def F_Mo_raiseBehind_39 (rec15 : Nat → Int32 → Int32 → Int32 → Int32 → SG → Option (SG)) : Nat → Nat → Int32 → Int32 → Int32 → Int32 → Int32 → Int32 → SG → Option (SG)
  | 0, _, _, _, _, _, _, _, _ => none
  | n + 1, x0, x1, x5, x6, x7, x8, x9, σ =>
  if x9 < 0 ∨ 6 ≤ (x9).toNatClampNeg then none else
  if (σ.2.2.2.1 ((cref SHm (x0) 13)) ((x9).toNatClampNeg)) ≤ x7 then
  F_Mo_raiseBehind_73 (rec15) (x0) (x1) (x5) (x6) (x7) (x8) (x9) σ
  else match F_Mo_inPart (x0) ((((3 : Int32) * x9) + x7)) (x6) σ with
  | none => none
  | some q9 =>
  if q9.1 = true then
  F_Mo_raiseBehind_73 (rec15) (x0) (x1) (x5) (x6) (x7) (x8) (x9) q9.2
  else F_Mo_raiseBehind_39 rec15 n (x0) (x1) (x5) (x6) ((x7 + 1)) (x8) (x9) q9.2
set_option maxHeartbeats 4000000 in
theorem w_Mo_raiseBehind_39 {b d : Nat} {sc : SC} {pre tl : List PE} {B : Nat} {Q : Option Value → List PE → Prop} {res : SG} (hB : B = b + pre.length) (hd : 3 ≤ d) {rec15 : Nat → Int32 → Int32 → Int32 → Int32 → SG → Option (SG)} (hr15 : ∀ (lv : LV) (σ : SG) (x0 : Nat) (x1 : Int32) (x5 : Int32) (x6 : Int32) (x7 : Int32), isC SHm (x0) 8 = true → lv.lookup 0 = some (.ref (B + (x0))) → lv.lookup 1 = some (.int (x1)) → lv.lookup 5 = some (.int (x5)) → lv.lookup 6 = some (.int (x6)) → lv.lookup 7 = some (.int (x7)) →  rec15 x0 x1 x5 x6 x7 σ = some res → Rn b sc d 90 15 lv [] (HH pre tl SHm B σ) Q) (hQ : Q none (HH pre tl SHm B res)) : ∀ (n : Nat) (lv : LV) (σ : SG) (x0 : Nat) (x1 : Int32) (x5 : Int32) (x6 : Int32) (x7 : Int32) (x8 : Int32) (x9 : Int32), isC SHm (x0) 8 = true → lv.lookup 0 = some (.ref (B + (x0))) → lv.lookup 1 = some (.int (x1)) → lv.lookup 5 = some (.int (x5)) → lv.lookup 6 = some (.int (x6)) → lv.lookup 7 = some (.int (x7)) → lv.lookup 8 = some (.int (x8)) → lv.lookup 9 = some (.int (x9)) → F_Mo_raiseBehind_39 rec15 n x0 x1 x5 x6 x7 x8 x9 σ = some res → Rn b sc d 90 39 lv [] (HH pre tl SHm B σ) Q := by
  obtain ⟨e0, rfl⟩ : ∃ e, d = e + 1 := ⟨d - 1, by omega⟩
  intro n
  induction n with
  | zero => intro lv σ x0 x1 x5 x6 x7 x8 x9 hx0 l0 l1 l5 l6 l7 l8 l9 hF; cases hF
  | succ n ih =>
    intro lv σ x0 x1 x5 x6 x7 x8 x9 hx0 l0 l1 l5 l6 l7 l8 l9 hF
    unfold F_Mo_raiseBehind_39 at hF
    refine r_iload f_Mo_raiseBehind_39 l7 ?_
    refine r_aload_n f_Mo_raiseBehind_41 l0 ?_
    refine t_getc hB hx0 f_Mo_raiseBehind_42 rfl ?_
    refine r_iload f_Mo_raiseBehind_45 l9 ?_
    by_cases c7 : x9 < 0 ∨ 6 ≤ (x9).toNatClampNeg
    · rw [if_pos c7] at hF; cases hF
    rw [if_neg c7] at hF
    refine t_iald hB (cc_8_13 hx0) f_Mo_raiseBehind_47 c7 ?_
    refine r_icmp_ge f_Mo_raiseBehind_48 (fun c8 => ?_) (fun c8 => ?_)
    · rw [if_pos c8] at hF
      exact w_Mo_raiseBehind_73 hB hd (hr15) hQ _ (σ) (x0) (x1) (x5) (x6) (x7) (x8) (x9) hx0 l0 l1 l5 l6 l7 l8 l9 hF
    · rw [if_neg c8] at hF
      refine r_aload_n f_Mo_raiseBehind_51 l0 ?_
      refine r_iconst f_Mo_raiseBehind_52 (v := 3) (by decide) ?_
      refine r_iload f_Mo_raiseBehind_53 l9 ?_
      refine r_imul f_Mo_raiseBehind_55 ?_
      refine r_iload f_Mo_raiseBehind_56 l7 ?_
      refine r_iadd f_Mo_raiseBehind_58 ?_
      refine r_iload f_Mo_raiseBehind_59 l6 ?_
      cases hq9 : F_Mo_inPart (x0) ((((3 : Int32) * x9) + x7)) (x6) σ with
      | none => simp only [hq9] at hF; cases hF
      | some q9 =>
        simp only [hq9] at hF
        refine t_V2i hB hx0 rfl rfl f_Mo_raiseBehind_61 (by decide) (Nat.le_of_ble_eq_true rfl) (Nat.le_of_ble_eq_true rfl) (w_Mo_inPart hB  (x0) ((((3 : Int32) * x9) + x7)) (x6) hx0 hq9 ⟨_, rfl, ?_⟩)
        refine r_if_ne f_Mo_raiseBehind_64 (fun c10 => ?_) (fun c10 => ?_)
        · rw [if_pos (bz_t c10)] at hF
          exact w_Mo_raiseBehind_73 hB hd (hr15) hQ _ (q9.2) (x0) (x1) (x5) (x6) (x7) (x8) (x9) hx0 l0 l1 l5 l6 l7 l8 l9 hF
        · rw [if_neg (bz_nt (Decidable.not_not.mp c10))] at hF
          refine r_iinc f_Mo_raiseBehind_67 l7 (w := x7 + 1) rfl ?_
          refine r_goto f_Mo_raiseBehind_70 ?_
          exact ih _ (q9.2) (x0) (x1) (x5) (x6) ((x7 + 1)) (x8) (x9) hx0 (lk_put_ne l0 (by decide) (Or.inl rfl)) (lk_put_ne l1 (by decide) (Or.inl rfl)) (lk_put_ne l5 (by decide) (Or.inl rfl)) (lk_put_ne l6 (by decide) (Or.inl rfl)) lk_put (lk_put_ne l8 (by decide) (Or.inl rfl)) (lk_put_ne l9 (by decide) (Or.inl rfl)) hF
def F_Mo_raiseBehind_15  : Nat → Nat → Int32 → Int32 → Int32 → Int32 → SG → Option (SG)
  | 0, _, _, _, _, _, _ => none
  | n + 1, x0, x1, x5, x6, x7, σ =>
  if (σ.1 (x0) 31) ≤ 0 then
  stl (setI σ (x0) 28 ((3 : Int32))) fun s12 =>
  stl (setI s12 (x0) 29 (x1)) fun s13 =>
  some s13
  else if ((σ.1 (x0) 31) - (1 : Int32)) < 0 ∨ 8 ≤ (((σ.1 (x0) 31) - (1 : Int32))).toNatClampNeg then none else
  F_Mo_raiseBehind_39 (F_Mo_raiseBehind_15  n) 5000 (x0) (x1) (x5) (x6) (x7) (((σ.1 (x0) 31) - (1 : Int32))) ((σ.2.2.2.1 ((cref SHm (x0) 32)) ((((σ.1 (x0) 31) - (1 : Int32))).toNatClampNeg))) σ
set_option maxHeartbeats 4000000 in
theorem w_Mo_raiseBehind_15 {b d : Nat} {sc : SC} {pre tl : List PE} {B : Nat} {Q : Option Value → List PE → Prop} {res : SG} (hB : B = b + pre.length) (hd : 3 ≤ d)   (hQ : Q none (HH pre tl SHm B res)) : ∀ (n : Nat) (lv : LV) (σ : SG) (x0 : Nat) (x1 : Int32) (x5 : Int32) (x6 : Int32) (x7 : Int32), isC SHm (x0) 8 = true → lv.lookup 0 = some (.ref (B + (x0))) → lv.lookup 1 = some (.int (x1)) → lv.lookup 5 = some (.int (x5)) → lv.lookup 6 = some (.int (x6)) → lv.lookup 7 = some (.int (x7)) → F_Mo_raiseBehind_15  n x0 x1 x5 x6 x7 σ = some res → Rn b sc d 90 15 lv [] (HH pre tl SHm B σ) Q := by
  obtain ⟨e0, rfl⟩ : ∃ e, d = e + 1 := ⟨d - 1, by omega⟩
  intro n
  induction n with
  | zero => intro lv σ x0 x1 x5 x6 x7 hx0 l0 l1 l5 l6 l7 hF; cases hF
  | succ n ih =>
    intro lv σ x0 x1 x5 x6 x7 hx0 l0 l1 l5 l6 l7 hF
    unfold F_Mo_raiseBehind_15 at hF
    refine r_aload_n f_Mo_raiseBehind_15 l0 ?_
    refine t_geti hB hx0 f_Mo_raiseBehind_16 rfl ?_
    refine r_if_le f_Mo_raiseBehind_19 (fun c11 => ?_) (fun c11 => ?_)
    · rw [if_pos c11] at hF
      refine r_aload_n f_Mo_raiseBehind_146 l0 ?_
      refine r_iconst f_Mo_raiseBehind_147 (v := 3) (by decide) ?_
      refine t_puti hB hx0 f_Mo_raiseBehind_148 rfl rfl ?_
      generalize hs12 : setI σ (x0) 28 ((3 : Int32)) = s12 at hF ⊢
      rw [stl_eq] at hF
      refine r_aload_n f_Mo_raiseBehind_151 l0 ?_
      refine r_iload_n f_Mo_raiseBehind_152 l1 ?_
      refine t_puti hB hx0 f_Mo_raiseBehind_153 rfl rfl ?_
      generalize hs13 : setI s12 (x0) 29 (x1) = s13 at hF ⊢
      rw [stl_eq] at hF
      cases hF
      exact r_return f_Mo_raiseBehind_156 hQ
    · rw [if_neg c11] at hF
      refine r_aload_n f_Mo_raiseBehind_22 l0 ?_
      refine t_geti hB hx0 f_Mo_raiseBehind_23 rfl ?_
      refine r_iconst f_Mo_raiseBehind_26 (v := 1) (by decide) ?_
      refine r_isub f_Mo_raiseBehind_27 ?_
      refine r_istore f_Mo_raiseBehind_28 ?_
      refine r_aload_n f_Mo_raiseBehind_30 (lk_put_ne l0 (by decide) (Or.inl rfl)) ?_
      refine t_getc hB hx0 f_Mo_raiseBehind_31 rfl ?_
      refine r_iload f_Mo_raiseBehind_34 lk_put ?_
      by_cases c14 : ((σ.1 (x0) 31) - (1 : Int32)) < 0 ∨ 8 ≤ (((σ.1 (x0) 31) - (1 : Int32))).toNatClampNeg
      · rw [if_pos c14] at hF; cases hF
      rw [if_neg c14] at hF
      refine t_iald hB (cc_8_32 hx0) f_Mo_raiseBehind_36 c14 ?_
      refine r_istore f_Mo_raiseBehind_37 ?_
      exact w_Mo_raiseBehind_39 hB hd (ih) hQ 5000 _ (σ) (x0) (x1) (x5) (x6) (x7) (((σ.1 (x0) 31) - (1 : Int32))) ((σ.2.2.2.1 ((cref SHm (x0) 32)) ((((σ.1 (x0) 31) - (1 : Int32))).toNatClampNeg))) hx0 (lk_put_ne (lk_put_ne l0 (by decide) (Or.inl rfl)) (by decide) (Or.inl rfl)) (lk_put_ne (lk_put_ne l1 (by decide) (Or.inl rfl)) (by decide) (Or.inl rfl)) (lk_put_ne (lk_put_ne l5 (by decide) (Or.inl rfl)) (by decide) (Or.inl rfl)) (lk_put_ne (lk_put_ne l6 (by decide) (Or.inl rfl)) (by decide) (Or.inl rfl)) (lk_put_ne (lk_put_ne l7 (by decide) (Or.inl rfl)) (by decide) (Or.inl rfl)) (lk_put_ne lk_put (by decide) (Or.inl rfl)) lk_put hF
def F_Mo_raiseBehind (a0 : Nat) (a1 : Int32) (a2 : Int32) (a3 : Int32) (a4 : Int32) (σ : SG) : Option (SG) :=
  stl (setI σ (a0) 44 ((0 : Int32))) fun s15 =>
  F_Mo_raiseBehind_15  5000 (a0) (a1) (a2) (a3) (a4) s15
set_option maxHeartbeats 4000000 in
theorem w_Mo_raiseBehind {b d : Nat} {pre tl : List PE} {B : Nat} {Q : Option Value → List PE → Prop} {res : SG} (hB : B = b + pre.length) (hd : 3 ≤ d)  {σ : SG} (a0 : Nat) (a1 : Int32) (a2 : Int32) (a3 : Int32) (a4 : Int32) (ha0 : isC SHm (a0) 8 = true) (hF : F_Mo_raiseBehind a0 a1 a2 a3 a4 σ = some res) (hQ : Q none (HH pre tl SHm B res)) : Cl b d 90 [.ref (B + (a0)), .int (a1), .int (a2), .int (a3), .int (a4)] (HH pre tl SHm B σ) Q := by
  obtain ⟨e0, rfl⟩ : ∃ e, d = e + 1 := ⟨d - 1, by omega⟩
  unfold Cl
  unfold F_Mo_raiseBehind at hF
  refine r_iload_n f_Mo_raiseBehind_0 rfl ?_
  refine r_istore f_Mo_raiseBehind_1 ?_
  refine r_iload_n f_Mo_raiseBehind_3 (lk_put_ne rfl (by decide) (Or.inl rfl)) ?_
  refine r_istore f_Mo_raiseBehind_4 ?_
  refine r_iload f_Mo_raiseBehind_6 (lk_put_ne (lk_put_ne rfl (by decide) (Or.inl rfl)) (by decide) (Or.inl rfl)) ?_
  refine r_istore f_Mo_raiseBehind_8 ?_
  refine r_aload_n f_Mo_raiseBehind_10 (lk_put_ne (lk_put_ne (lk_put_ne rfl (by decide) (Or.inl rfl)) (by decide) (Or.inl rfl)) (by decide) (Or.inl rfl)) ?_
  refine r_iconst f_Mo_raiseBehind_11 (v := 0) (by decide) ?_
  refine t_puti hB ha0 f_Mo_raiseBehind_12 rfl rfl ?_
  generalize hs15 : setI σ (a0) 44 ((0 : Int32)) = s15 at hF ⊢
  rw [stl_eq] at hF
  exact w_Mo_raiseBehind_15 hB hd  hQ 5000 _ (s15) (a0) (a1) (a2) (a3) (a4) ha0 (lk_put_ne (lk_put_ne (lk_put_ne rfl (by decide) (Or.inl rfl)) (by decide) (Or.inl rfl)) (by decide) (Or.inl rfl)) (lk_put_ne (lk_put_ne (lk_put_ne rfl (by decide) (Or.inl rfl)) (by decide) (Or.inl rfl)) (by decide) (Or.inl rfl)) (lk_put_ne (lk_put_ne lk_put (by decide) (Or.inl rfl)) (by decide) (Or.inl rfl)) (lk_put_ne lk_put (by decide) (Or.inl rfl)) lk_put hF
theorem f_Mo_raise_0 : fetch 89 0 = some (.aload_n 0, 1, 0, 0, 0) := rfl
theorem f_Mo_raise_1 : fetch 89 1 = some (.iload_n 1, 1, 0, 0, 0) := rfl
theorem f_Mo_raise_2 : fetch 89 2 = some (.iload_n 2, 1, 0, 0, 0) := rfl
theorem f_Mo_raise_3 : fetch 89 3 = some (.iload_n 2, 1, 0, 0, 0) := rfl
theorem f_Mo_raise_4 : fetch 89 4 = some (.iconst 0, 1, 0, 0, 0) := rfl
theorem f_Mo_raise_5 : fetch 89 5 = some (.invokevirtual 345, 3, 90, 4, 97) := rfl
theorem f_Mo_raise_8 : fetch 89 8 = some (.return_, 1, 0, 0, 0) := rfl
def F_Mo_raise (a0 : Nat) (a1 : Int32) (a2 : Int32) (σ : SG) : Option (SG) :=
  match F_Mo_raiseBehind (a0) (a1) (a2) (a2) ((0 : Int32)) σ with
  | none => none
  | some q1 =>
  some q1
set_option maxHeartbeats 4000000 in
theorem w_Mo_raise {b d : Nat} {pre tl : List PE} {B : Nat} {Q : Option Value → List PE → Prop} {res : SG} (hB : B = b + pre.length) (hd : 4 ≤ d)  {σ : SG} (a0 : Nat) (a1 : Int32) (a2 : Int32) (ha0 : isC SHm (a0) 8 = true) (hF : F_Mo_raise a0 a1 a2 σ = some res) (hQ : Q none (HH pre tl SHm B res)) : Cl b d 89 [.ref (B + (a0)), .int (a1), .int (a2)] (HH pre tl SHm B σ) Q := by
  obtain ⟨e0, rfl⟩ : ∃ e, d = e + 1 := ⟨d - 1, by omega⟩
  unfold Cl
  unfold F_Mo_raise at hF
  refine r_aload_n f_Mo_raise_0 rfl ?_
  refine r_iload_n f_Mo_raise_1 rfl ?_
  refine r_iload_n f_Mo_raise_2 rfl ?_
  refine r_iload_n f_Mo_raise_3 rfl ?_
  refine r_iconst f_Mo_raise_4 (v := 0) (by decide) ?_
  cases hq1 : F_Mo_raiseBehind (a0) (a1) (a2) (a2) ((0 : Int32)) σ with
  | none => simp only [hq1] at hF; cases hF
  | some q1 =>
    simp only [hq1] at hF
    refine t_V4v hB ha0 rfl rfl f_Mo_raise_5 (by decide) (Nat.le_of_ble_eq_true rfl) (Nat.le_of_ble_eq_true rfl) (w_Mo_raiseBehind hB (by omega) (a0) (a1) (a2) (a2) ((0 : Int32)) ha0 hq1 ⟨rfl, ?_⟩)
    cases hF
    exact r_return f_Mo_raise_8 hQ
theorem f_Mo_leaveBehind_0 : fetch 94 0 = some (.aload_n 0, 1, 0, 0, 0) := rfl
theorem f_Mo_leaveBehind_1 : fetch 94 1 = some (.getfield 275, 3, 8, 31, 71) := rfl
theorem f_Mo_leaveBehind_4 : fetch 94 4 = some (.iconst 1, 1, 0, 0, 0) := rfl
theorem f_Mo_leaveBehind_5 : fetch 94 5 = some (.isub, 1, 0, 0, 0) := rfl
theorem f_Mo_leaveBehind_6 : fetch 94 6 = some (.istore 5, 2, 0, 0, 0) := rfl
theorem f_Mo_leaveBehind_8 : fetch 94 8 = some (.aload_n 0, 1, 0, 0, 0) := rfl
theorem f_Mo_leaveBehind_9 : fetch 94 9 = some (.getfield 69, 3, 8, 32, 46) := rfl
theorem f_Mo_leaveBehind_12 : fetch 94 12 = some (.iload 5, 2, 0, 0, 0) := rfl
theorem f_Mo_leaveBehind_14 : fetch 94 14 = some (.iaload, 1, 0, 0, 0) := rfl
theorem f_Mo_leaveBehind_15 : fetch 94 15 = some (.istore 6, 2, 0, 0, 0) := rfl
theorem f_Mo_leaveBehind_17 : fetch 94 17 = some (.iload 4, 2, 0, 0, 0) := rfl
theorem f_Mo_leaveBehind_19 : fetch 94 19 = some (.istore 7, 2, 0, 0, 0) := rfl
theorem f_Mo_leaveBehind_21 : fetch 94 21 = some (.iload 7, 2, 0, 0, 0) := rfl
theorem f_Mo_leaveBehind_23 : fetch 94 23 = some (.aload_n 0, 1, 0, 0, 0) := rfl
theorem f_Mo_leaveBehind_24 : fetch 94 24 = some (.getfield 34, 3, 8, 13, 35) := rfl
theorem f_Mo_leaveBehind_27 : fetch 94 27 = some (.iload 6, 2, 0, 0, 0) := rfl
theorem f_Mo_leaveBehind_29 : fetch 94 29 = some (.iaload, 1, 0, 0, 0) := rfl
theorem f_Mo_leaveBehind_30 : fetch 94 30 = some (.if_icmp .ge 54, 3, 84, 0, 0) := rfl
theorem f_Mo_leaveBehind_33 : fetch 94 33 = some (.aload_n 0, 1, 0, 0, 0) := rfl
theorem f_Mo_leaveBehind_34 : fetch 94 34 = some (.getfield 46, 3, 8, 17, 39) := rfl
theorem f_Mo_leaveBehind_37 : fetch 94 37 = some (.iconst 3, 1, 0, 0, 0) := rfl
theorem f_Mo_leaveBehind_38 : fetch 94 38 = some (.iload 6, 2, 0, 0, 0) := rfl
theorem f_Mo_leaveBehind_40 : fetch 94 40 = some (.imul, 1, 0, 0, 0) := rfl
theorem f_Mo_leaveBehind_41 : fetch 94 41 = some (.iload 7, 2, 0, 0, 0) := rfl
theorem f_Mo_leaveBehind_43 : fetch 94 43 = some (.iadd, 1, 0, 0, 0) := rfl
theorem f_Mo_leaveBehind_44 : fetch 94 44 = some (.baload, 1, 0, 0, 0) := rfl
theorem f_Mo_leaveBehind_45 : fetch 94 45 = some (.ifCond .eq 33, 3, 78, 0, 0) := rfl
theorem f_Mo_leaveBehind_48 : fetch 94 48 = some (.aload_n 0, 1, 0, 0, 0) := rfl
theorem f_Mo_leaveBehind_49 : fetch 94 49 = some (.iconst 3, 1, 0, 0, 0) := rfl
theorem f_Mo_leaveBehind_50 : fetch 94 50 = some (.iload 6, 2, 0, 0, 0) := rfl
theorem f_Mo_leaveBehind_52 : fetch 94 52 = some (.imul, 1, 0, 0, 0) := rfl
theorem f_Mo_leaveBehind_53 : fetch 94 53 = some (.iload 7, 2, 0, 0, 0) := rfl
theorem f_Mo_leaveBehind_55 : fetch 94 55 = some (.iadd, 1, 0, 0, 0) := rfl
theorem f_Mo_leaveBehind_56 : fetch 94 56 = some (.iload_n 2, 1, 0, 0, 0) := rfl
theorem f_Mo_leaveBehind_57 : fetch 94 57 = some (.invokevirtual 203, 3, 44, 2, 53) := rfl
theorem f_Mo_leaveBehind_60 : fetch 94 60 = some (.ifCond .eq 18, 3, 78, 0, 0) := rfl
theorem f_Mo_leaveBehind_63 : fetch 94 63 = some (.aload_n 0, 1, 0, 0, 0) := rfl
theorem f_Mo_leaveBehind_64 : fetch 94 64 = some (.iconst 3, 1, 0, 0, 0) := rfl
theorem f_Mo_leaveBehind_65 : fetch 94 65 = some (.iload 6, 2, 0, 0, 0) := rfl
theorem f_Mo_leaveBehind_67 : fetch 94 67 = some (.imul, 1, 0, 0, 0) := rfl
theorem f_Mo_leaveBehind_68 : fetch 94 68 = some (.iload 7, 2, 0, 0, 0) := rfl
theorem f_Mo_leaveBehind_70 : fetch 94 70 = some (.iadd, 1, 0, 0, 0) := rfl
theorem f_Mo_leaveBehind_71 : fetch 94 71 = some (.iload_n 3, 1, 0, 0, 0) := rfl
theorem f_Mo_leaveBehind_72 : fetch 94 72 = some (.invokevirtual 203, 3, 44, 2, 53) := rfl
theorem f_Mo_leaveBehind_75 : fetch 94 75 = some (.ifCond .eq 9, 3, 84, 0, 0) := rfl
theorem f_Mo_leaveBehind_78 : fetch 94 78 = some (.iinc 7 1, 3, 0, 0, 0) := rfl
theorem f_Mo_leaveBehind_81 : fetch 94 81 = some (.goto (-60), 3, 21, 0, 0) := rfl
theorem f_Mo_leaveBehind_84 : fetch 94 84 = some (.iload 7, 2, 0, 0, 0) := rfl
theorem f_Mo_leaveBehind_86 : fetch 94 86 = some (.aload_n 0, 1, 0, 0, 0) := rfl
theorem f_Mo_leaveBehind_87 : fetch 94 87 = some (.getfield 34, 3, 8, 13, 35) := rfl
theorem f_Mo_leaveBehind_90 : fetch 94 90 = some (.iload 6, 2, 0, 0, 0) := rfl
theorem f_Mo_leaveBehind_92 : fetch 94 92 = some (.iaload, 1, 0, 0, 0) := rfl
theorem f_Mo_leaveBehind_93 : fetch 94 93 = some (.if_icmp .ge 16, 3, 109, 0, 0) := rfl
theorem f_Mo_leaveBehind_96 : fetch 94 96 = some (.aload_n 0, 1, 0, 0, 0) := rfl
theorem f_Mo_leaveBehind_97 : fetch 94 97 = some (.iload 5, 2, 0, 0, 0) := rfl
theorem f_Mo_leaveBehind_99 : fetch 94 99 = some (.iload 7, 2, 0, 0, 0) := rfl
theorem f_Mo_leaveBehind_101 : fetch 94 101 = some (.iload_n 1, 1, 0, 0, 0) := rfl
theorem f_Mo_leaveBehind_102 : fetch 94 102 = some (.iconst 2, 1, 0, 0, 0) := rfl
theorem f_Mo_leaveBehind_103 : fetch 94 103 = some (.iload_n 3, 1, 0, 0, 0) := rfl
theorem f_Mo_leaveBehind_104 : fetch 94 104 = some (.iload_n 2, 1, 0, 0, 0) := rfl
theorem f_Mo_leaveBehind_105 : fetch 94 105 = some (.invokevirtual 349, 3, 91, 6, 98) := rfl
theorem f_Mo_leaveBehind_108 : fetch 94 108 = some (.return_, 1, 0, 0, 0) := rfl
theorem f_Mo_leaveBehind_109 : fetch 94 109 = some (.aload_n 0, 1, 0, 0, 0) := rfl
theorem f_Mo_leaveBehind_110 : fetch 94 110 = some (.getfield 75, 3, 8, 34, 48) := rfl
theorem f_Mo_leaveBehind_113 : fetch 94 113 = some (.iload 5, 2, 0, 0, 0) := rfl
theorem f_Mo_leaveBehind_115 : fetch 94 115 = some (.iconst 0, 1, 0, 0, 0) := rfl
theorem f_Mo_leaveBehind_116 : fetch 94 116 = some (.iastore, 1, 0, 0, 0) := rfl
theorem f_Mo_leaveBehind_117 : fetch 94 117 = some (.aload_n 0, 1, 0, 0, 0) := rfl
theorem f_Mo_leaveBehind_118 : fetch 94 118 = some (.iload 5, 2, 0, 0, 0) := rfl
theorem f_Mo_leaveBehind_120 : fetch 94 120 = some (.iload_n 1, 1, 0, 0, 0) := rfl
theorem f_Mo_leaveBehind_121 : fetch 94 121 = some (.iload_n 3, 1, 0, 0, 0) := rfl
theorem f_Mo_leaveBehind_122 : fetch 94 122 = some (.invokevirtual 342, 3, 92, 3, 99) := rfl
theorem f_Mo_leaveBehind_125 : fetch 94 125 = some (.aload_n 0, 1, 0, 0, 0) := rfl
theorem f_Mo_leaveBehind_126 : fetch 94 126 = some (.getfield 72, 3, 8, 33, 47) := rfl
theorem f_Mo_leaveBehind_129 : fetch 94 129 = some (.iload 5, 2, 0, 0, 0) := rfl
theorem f_Mo_leaveBehind_131 : fetch 94 131 = some (.iload_n 3, 1, 0, 0, 0) := rfl
theorem f_Mo_leaveBehind_132 : fetch 94 132 = some (.iastore, 1, 0, 0, 0) := rfl
theorem f_Mo_leaveBehind_133 : fetch 94 133 = some (.return_, 1, 0, 0, 0) := rfl
def F_Mo_leaveBehind_84  (x0 : Nat) (x1 : Int32) (x2 : Int32) (x3 : Int32) (x5 : Int32) (x6 : Int32) (x7 : Int32) (σ : SG) : Option (SG) :=
  if x6 < 0 ∨ 6 ≤ (x6).toNatClampNeg then none else
  if (σ.2.2.2.1 ((cref SHm (x0) 13)) ((x6).toNatClampNeg)) ≤ x7 then
  if x5 < 0 ∨ 8 ≤ (x5).toNatClampNeg then none else
  stl (setA σ ((cref SHm (x0) 34)) ((x5).toNatClampNeg) ((0 : Int32))) fun s4 =>
  match F_Mo_drop (x0) (x5) (x1) (x3) s4 with
  | none => none
  | some q5 =>
  if x5 < 0 ∨ 8 ≤ (x5).toNatClampNeg then none else
  stl (setA q5 ((cref SHm (x0) 33)) ((x5).toNatClampNeg) (x3)) fun s7 =>
  some s7
  else match F_Mo_handle (x0) (x5) (x7) (x1) ((2 : Int32)) (x3) (x2) σ with
  | none => none
  | some q8 =>
  some q8
set_option maxHeartbeats 4000000 in
theorem w_Mo_leaveBehind_84 {b d : Nat} {sc : SC} {pre tl : List PE} {B : Nat} {Q : Option Value → List PE → Prop} {res : SG} (hB : B = b + pre.length) (hd : 3 ≤ d)   (hQ : Q none (HH pre tl SHm B res)) (lv : LV) (σ : SG) (x0 : Nat) (x1 : Int32) (x2 : Int32) (x3 : Int32) (x5 : Int32) (x6 : Int32) (x7 : Int32) (hx0 : isC SHm (x0) 8 = true) (l0 : lv.lookup 0 = some (.ref (B + (x0)))) (l1 : lv.lookup 1 = some (.int (x1))) (l2 : lv.lookup 2 = some (.int (x2))) (l3 : lv.lookup 3 = some (.int (x3))) (l5 : lv.lookup 5 = some (.int (x5))) (l6 : lv.lookup 6 = some (.int (x6))) (l7 : lv.lookup 7 = some (.int (x7))) (hF : F_Mo_leaveBehind_84  x0 x1 x2 x3 x5 x6 x7 σ = some res) : Rn b sc d 94 84 lv [] (HH pre tl SHm B σ) Q := by
  obtain ⟨e0, rfl⟩ : ∃ e, d = e + 1 := ⟨d - 1, by omega⟩
  unfold F_Mo_leaveBehind_84 at hF
  refine r_iload f_Mo_leaveBehind_84 l7 ?_
  refine r_aload_n f_Mo_leaveBehind_86 l0 ?_
  refine t_getc hB hx0 f_Mo_leaveBehind_87 rfl ?_
  refine r_iload f_Mo_leaveBehind_90 l6 ?_
  by_cases c1 : x6 < 0 ∨ 6 ≤ (x6).toNatClampNeg
  · rw [if_pos c1] at hF; cases hF
  rw [if_neg c1] at hF
  refine t_iald hB (cc_8_13 hx0) f_Mo_leaveBehind_92 c1 ?_
  refine r_icmp_ge f_Mo_leaveBehind_93 (fun c2 => ?_) (fun c2 => ?_)
  · rw [if_pos c2] at hF
    refine r_aload_n f_Mo_leaveBehind_109 l0 ?_
    refine t_getc hB hx0 f_Mo_leaveBehind_110 rfl ?_
    refine r_iload f_Mo_leaveBehind_113 l5 ?_
    refine r_iconst f_Mo_leaveBehind_115 (v := 0) (by decide) ?_
    by_cases c3 : x5 < 0 ∨ 8 ≤ (x5).toNatClampNeg
    · rw [if_pos c3] at hF; cases hF
    rw [if_neg c3] at hF
    refine t_iast hB (cc_8_34 hx0) f_Mo_leaveBehind_116 c3 ?_
    generalize hs4 : setA σ ((cref SHm (x0) 34)) ((x5).toNatClampNeg) ((0 : Int32)) = s4 at hF ⊢
    rw [stl_eq] at hF
    refine r_aload_n f_Mo_leaveBehind_117 l0 ?_
    refine r_iload f_Mo_leaveBehind_118 l5 ?_
    refine r_iload_n f_Mo_leaveBehind_120 l1 ?_
    refine r_iload_n f_Mo_leaveBehind_121 l3 ?_
    cases hq5 : F_Mo_drop (x0) (x5) (x1) (x3) s4 with
    | none => simp only [hq5] at hF; cases hF
    | some q5 =>
      simp only [hq5] at hF
      refine t_V3v hB hx0 rfl rfl f_Mo_leaveBehind_122 (by decide) (Nat.le_of_ble_eq_true rfl) (Nat.le_of_ble_eq_true rfl) (w_Mo_drop hB (by omega) (x0) (x5) (x1) (x3) hx0 hq5 ⟨rfl, ?_⟩)
      refine r_aload_n f_Mo_leaveBehind_125 l0 ?_
      refine t_getc hB hx0 f_Mo_leaveBehind_126 rfl ?_
      refine r_iload f_Mo_leaveBehind_129 l5 ?_
      refine r_iload_n f_Mo_leaveBehind_131 l3 ?_
      by_cases c6 : x5 < 0 ∨ 8 ≤ (x5).toNatClampNeg
      · rw [if_pos c6] at hF; cases hF
      rw [if_neg c6] at hF
      refine t_iast hB (cc_8_33 hx0) f_Mo_leaveBehind_132 c6 ?_
      generalize hs7 : setA q5 ((cref SHm (x0) 33)) ((x5).toNatClampNeg) (x3) = s7 at hF ⊢
      rw [stl_eq] at hF
      cases hF
      exact r_return f_Mo_leaveBehind_133 hQ
  · rw [if_neg c2] at hF
    refine r_aload_n f_Mo_leaveBehind_96 l0 ?_
    refine r_iload f_Mo_leaveBehind_97 l5 ?_
    refine r_iload f_Mo_leaveBehind_99 l7 ?_
    refine r_iload_n f_Mo_leaveBehind_101 l1 ?_
    refine r_iconst f_Mo_leaveBehind_102 (v := 2) (by decide) ?_
    refine r_iload_n f_Mo_leaveBehind_103 l3 ?_
    refine r_iload_n f_Mo_leaveBehind_104 l2 ?_
    cases hq8 : F_Mo_handle (x0) (x5) (x7) (x1) ((2 : Int32)) (x3) (x2) σ with
    | none => simp only [hq8] at hF; cases hF
    | some q8 =>
      simp only [hq8] at hF
      refine t_V6v hB hx0 rfl rfl f_Mo_leaveBehind_105 (by decide) (Nat.le_of_ble_eq_true rfl) (Nat.le_of_ble_eq_true rfl) (w_Mo_handle hB (by omega) (x0) (x5) (x7) (x1) ((2 : Int32)) (x3) (x2) hx0 hq8 ⟨rfl, ?_⟩)
      cases hF
      exact r_return f_Mo_leaveBehind_108 hQ
def F_Mo_leaveBehind_78 (rec21 : Nat → Int32 → Int32 → Int32 → Int32 → Int32 → Int32 → SG → Option (SG)) (x0 : Nat) (x1 : Int32) (x2 : Int32) (x3 : Int32) (x5 : Int32) (x6 : Int32) (x7 : Int32) (σ : SG) : Option (SG) :=
  rec21 (x0) (x1) (x2) (x3) (x5) (x6) ((x7 + 1)) σ
set_option maxHeartbeats 4000000 in
theorem w_Mo_leaveBehind_78 {b d : Nat} {sc : SC} {pre tl : List PE} {B : Nat} {Q : Option Value → List PE → Prop} {res : SG} (hB : B = b + pre.length) (hd : 3 ≤ d) {rec21 : Nat → Int32 → Int32 → Int32 → Int32 → Int32 → Int32 → SG → Option (SG)} (hr21 : ∀ (lv : LV) (σ : SG) (x0 : Nat) (x1 : Int32) (x2 : Int32) (x3 : Int32) (x5 : Int32) (x6 : Int32) (x7 : Int32), isC SHm (x0) 8 = true → lv.lookup 0 = some (.ref (B + (x0))) → lv.lookup 1 = some (.int (x1)) → lv.lookup 2 = some (.int (x2)) → lv.lookup 3 = some (.int (x3)) → lv.lookup 5 = some (.int (x5)) → lv.lookup 6 = some (.int (x6)) → lv.lookup 7 = some (.int (x7)) →  rec21 x0 x1 x2 x3 x5 x6 x7 σ = some res → Rn b sc d 94 21 lv [] (HH pre tl SHm B σ) Q) (hQ : Q none (HH pre tl SHm B res)) (lv : LV) (σ : SG) (x0 : Nat) (x1 : Int32) (x2 : Int32) (x3 : Int32) (x5 : Int32) (x6 : Int32) (x7 : Int32) (hx0 : isC SHm (x0) 8 = true) (l0 : lv.lookup 0 = some (.ref (B + (x0)))) (l1 : lv.lookup 1 = some (.int (x1))) (l2 : lv.lookup 2 = some (.int (x2))) (l3 : lv.lookup 3 = some (.int (x3))) (l5 : lv.lookup 5 = some (.int (x5))) (l6 : lv.lookup 6 = some (.int (x6))) (l7 : lv.lookup 7 = some (.int (x7))) (hF : F_Mo_leaveBehind_78 rec21 x0 x1 x2 x3 x5 x6 x7 σ = some res) : Rn b sc d 94 78 lv [] (HH pre tl SHm B σ) Q := by
  obtain ⟨e0, rfl⟩ : ∃ e, d = e + 1 := ⟨d - 1, by omega⟩
  unfold F_Mo_leaveBehind_78 at hF
  refine r_iinc f_Mo_leaveBehind_78 l7 (w := x7 + 1) rfl ?_
  refine r_goto f_Mo_leaveBehind_81 ?_
  exact hr21 _ (σ) (x0) (x1) (x2) (x3) (x5) (x6) ((x7 + 1)) hx0 (lk_put_ne l0 (by decide) (Or.inl rfl)) (lk_put_ne l1 (by decide) (Or.inl rfl)) (lk_put_ne l2 (by decide) (Or.inl rfl)) (lk_put_ne l3 (by decide) (Or.inl rfl)) (lk_put_ne l5 (by decide) (Or.inl rfl)) (lk_put_ne l6 (by decide) (Or.inl rfl)) lk_put hF
def F_Mo_leaveBehind_21  : Nat → Nat → Int32 → Int32 → Int32 → Int32 → Int32 → Int32 → SG → Option (SG)
  | 0, _, _, _, _, _, _, _, _ => none
  | n + 1, x0, x1, x2, x3, x5, x6, x7, σ =>
  if x6 < 0 ∨ 6 ≤ (x6).toNatClampNeg then none else
  if (σ.2.2.2.1 ((cref SHm (x0) 13)) ((x6).toNatClampNeg)) ≤ x7 then
  F_Mo_leaveBehind_84 (x0) (x1) (x2) (x3) (x5) (x6) (x7) σ
  else if (((3 : Int32) * x6) + x7) < 0 ∨ 18 ≤ ((((3 : Int32) * x6) + x7)).toNatClampNeg then none else
  if (zb (σ.2.2.2.1 ((cref SHm (x0) 17)) (((((3 : Int32) * x6) + x7)).toNatClampNeg))) = true then
  match F_Mo_inPart (x0) ((((3 : Int32) * x6) + x7)) (x2) σ with
  | none => none
  | some q13 =>
  if q13.1 = true then
  match F_Mo_inPart (x0) ((((3 : Int32) * x6) + x7)) (x3) q13.2 with
  | none => none
  | some q15 =>
  if q15.1 = true then
  F_Mo_leaveBehind_78 (F_Mo_leaveBehind_21  n) (x0) (x1) (x2) (x3) (x5) (x6) (x7) q15.2
  else F_Mo_leaveBehind_84 (x0) (x1) (x2) (x3) (x5) (x6) (x7) q15.2
  else F_Mo_leaveBehind_78 (F_Mo_leaveBehind_21  n) (x0) (x1) (x2) (x3) (x5) (x6) (x7) q13.2
  else F_Mo_leaveBehind_78 (F_Mo_leaveBehind_21  n) (x0) (x1) (x2) (x3) (x5) (x6) (x7) σ
set_option maxHeartbeats 4000000 in
theorem w_Mo_leaveBehind_21 {b d : Nat} {sc : SC} {pre tl : List PE} {B : Nat} {Q : Option Value → List PE → Prop} {res : SG} (hB : B = b + pre.length) (hd : 3 ≤ d)   (hQ : Q none (HH pre tl SHm B res)) : ∀ (n : Nat) (lv : LV) (σ : SG) (x0 : Nat) (x1 : Int32) (x2 : Int32) (x3 : Int32) (x5 : Int32) (x6 : Int32) (x7 : Int32), isC SHm (x0) 8 = true → lv.lookup 0 = some (.ref (B + (x0))) → lv.lookup 1 = some (.int (x1)) → lv.lookup 2 = some (.int (x2)) → lv.lookup 3 = some (.int (x3)) → lv.lookup 5 = some (.int (x5)) → lv.lookup 6 = some (.int (x6)) → lv.lookup 7 = some (.int (x7)) → F_Mo_leaveBehind_21  n x0 x1 x2 x3 x5 x6 x7 σ = some res → Rn b sc d 94 21 lv [] (HH pre tl SHm B σ) Q := by
  obtain ⟨e0, rfl⟩ : ∃ e, d = e + 1 := ⟨d - 1, by omega⟩
  intro n
  induction n with
  | zero => intro lv σ x0 x1 x2 x3 x5 x6 x7 hx0 l0 l1 l2 l3 l5 l6 l7 hF; cases hF
  | succ n ih =>
    intro lv σ x0 x1 x2 x3 x5 x6 x7 hx0 l0 l1 l2 l3 l5 l6 l7 hF
    unfold F_Mo_leaveBehind_21 at hF
    refine r_iload f_Mo_leaveBehind_21 l7 ?_
    refine r_aload_n f_Mo_leaveBehind_23 l0 ?_
    refine t_getc hB hx0 f_Mo_leaveBehind_24 rfl ?_
    refine r_iload f_Mo_leaveBehind_27 l6 ?_
    by_cases c9 : x6 < 0 ∨ 6 ≤ (x6).toNatClampNeg
    · rw [if_pos c9] at hF; cases hF
    rw [if_neg c9] at hF
    refine t_iald hB (cc_8_13 hx0) f_Mo_leaveBehind_29 c9 ?_
    refine r_icmp_ge f_Mo_leaveBehind_30 (fun c10 => ?_) (fun c10 => ?_)
    · rw [if_pos c10] at hF
      exact w_Mo_leaveBehind_84 hB hd  hQ _ (σ) (x0) (x1) (x2) (x3) (x5) (x6) (x7) hx0 l0 l1 l2 l3 l5 l6 l7 hF
    · rw [if_neg c10] at hF
      refine r_aload_n f_Mo_leaveBehind_33 l0 ?_
      refine t_getc hB hx0 f_Mo_leaveBehind_34 rfl ?_
      refine r_iconst f_Mo_leaveBehind_37 (v := 3) (by decide) ?_
      refine r_iload f_Mo_leaveBehind_38 l6 ?_
      refine r_imul f_Mo_leaveBehind_40 ?_
      refine r_iload f_Mo_leaveBehind_41 l7 ?_
      refine r_iadd f_Mo_leaveBehind_43 ?_
      by_cases c11 : (((3 : Int32) * x6) + x7) < 0 ∨ 18 ≤ ((((3 : Int32) * x6) + x7)).toNatClampNeg
      · rw [if_pos c11] at hF; cases hF
      rw [if_neg c11] at hF
      refine t_bald hB (cc_8_17 hx0) f_Mo_leaveBehind_44 c11 ?_
      refine r_if_eq f_Mo_leaveBehind_45 (fun c12 => ?_) (fun c12 => ?_)
      · rw [if_neg (bz_nt c12)] at hF
        exact w_Mo_leaveBehind_78 hB hd (ih) hQ _ (σ) (x0) (x1) (x2) (x3) (x5) (x6) (x7) hx0 l0 l1 l2 l3 l5 l6 l7 hF
      · rw [if_pos (bz_t c12)] at hF
        refine r_aload_n f_Mo_leaveBehind_48 l0 ?_
        refine r_iconst f_Mo_leaveBehind_49 (v := 3) (by decide) ?_
        refine r_iload f_Mo_leaveBehind_50 l6 ?_
        refine r_imul f_Mo_leaveBehind_52 ?_
        refine r_iload f_Mo_leaveBehind_53 l7 ?_
        refine r_iadd f_Mo_leaveBehind_55 ?_
        refine r_iload_n f_Mo_leaveBehind_56 l2 ?_
        cases hq13 : F_Mo_inPart (x0) ((((3 : Int32) * x6) + x7)) (x2) σ with
        | none => simp only [hq13] at hF; cases hF
        | some q13 =>
          simp only [hq13] at hF
          refine t_V2i hB hx0 rfl rfl f_Mo_leaveBehind_57 (by decide) (Nat.le_of_ble_eq_true rfl) (Nat.le_of_ble_eq_true rfl) (w_Mo_inPart hB  (x0) ((((3 : Int32) * x6) + x7)) (x2) hx0 hq13 ⟨_, rfl, ?_⟩)
          refine r_if_eq f_Mo_leaveBehind_60 (fun c14 => ?_) (fun c14 => ?_)
          · rw [if_neg (bz_nt c14)] at hF
            exact w_Mo_leaveBehind_78 hB hd (ih) hQ _ (q13.2) (x0) (x1) (x2) (x3) (x5) (x6) (x7) hx0 l0 l1 l2 l3 l5 l6 l7 hF
          · rw [if_pos (bz_t c14)] at hF
            refine r_aload_n f_Mo_leaveBehind_63 l0 ?_
            refine r_iconst f_Mo_leaveBehind_64 (v := 3) (by decide) ?_
            refine r_iload f_Mo_leaveBehind_65 l6 ?_
            refine r_imul f_Mo_leaveBehind_67 ?_
            refine r_iload f_Mo_leaveBehind_68 l7 ?_
            refine r_iadd f_Mo_leaveBehind_70 ?_
            refine r_iload_n f_Mo_leaveBehind_71 l3 ?_
            cases hq15 : F_Mo_inPart (x0) ((((3 : Int32) * x6) + x7)) (x3) q13.2 with
            | none => simp only [hq15] at hF; cases hF
            | some q15 =>
              simp only [hq15] at hF
              refine t_V2i hB hx0 rfl rfl f_Mo_leaveBehind_72 (by decide) (Nat.le_of_ble_eq_true rfl) (Nat.le_of_ble_eq_true rfl) (w_Mo_inPart hB  (x0) ((((3 : Int32) * x6) + x7)) (x3) hx0 hq15 ⟨_, rfl, ?_⟩)
              refine r_if_eq f_Mo_leaveBehind_75 (fun c16 => ?_) (fun c16 => ?_)
              · rw [if_neg (bz_nt c16)] at hF
                exact w_Mo_leaveBehind_84 hB hd  hQ _ (q15.2) (x0) (x1) (x2) (x3) (x5) (x6) (x7) hx0 l0 l1 l2 l3 l5 l6 l7 hF
              · rw [if_pos (bz_t c16)] at hF
                exact w_Mo_leaveBehind_78 hB hd (ih) hQ _ (q15.2) (x0) (x1) (x2) (x3) (x5) (x6) (x7) hx0 l0 l1 l2 l3 l5 l6 l7 hF
def F_Mo_leaveBehind (a0 : Nat) (a1 : Int32) (a2 : Int32) (a3 : Int32) (a4 : Int32) (σ : SG) : Option (SG) :=
  if ((σ.1 (a0) 31) - (1 : Int32)) < 0 ∨ 8 ≤ (((σ.1 (a0) 31) - (1 : Int32))).toNatClampNeg then none else
  F_Mo_leaveBehind_21  5000 (a0) (a1) (a2) (a3) (((σ.1 (a0) 31) - (1 : Int32))) ((σ.2.2.2.1 ((cref SHm (a0) 32)) ((((σ.1 (a0) 31) - (1 : Int32))).toNatClampNeg))) (a4) σ
set_option maxHeartbeats 4000000 in
theorem w_Mo_leaveBehind {b d : Nat} {pre tl : List PE} {B : Nat} {Q : Option Value → List PE → Prop} {res : SG} (hB : B = b + pre.length) (hd : 3 ≤ d)  {σ : SG} (a0 : Nat) (a1 : Int32) (a2 : Int32) (a3 : Int32) (a4 : Int32) (ha0 : isC SHm (a0) 8 = true) (hF : F_Mo_leaveBehind a0 a1 a2 a3 a4 σ = some res) (hQ : Q none (HH pre tl SHm B res)) : Cl b d 94 [.ref (B + (a0)), .int (a1), .int (a2), .int (a3), .int (a4)] (HH pre tl SHm B σ) Q := by
  obtain ⟨e0, rfl⟩ : ∃ e, d = e + 1 := ⟨d - 1, by omega⟩
  unfold Cl
  unfold F_Mo_leaveBehind at hF
  refine r_aload_n f_Mo_leaveBehind_0 rfl ?_
  refine t_geti hB ha0 f_Mo_leaveBehind_1 rfl ?_
  refine r_iconst f_Mo_leaveBehind_4 (v := 1) (by decide) ?_
  refine r_isub f_Mo_leaveBehind_5 ?_
  refine r_istore f_Mo_leaveBehind_6 ?_
  refine r_aload_n f_Mo_leaveBehind_8 (lk_put_ne rfl (by decide) (Or.inl rfl)) ?_
  refine t_getc hB ha0 f_Mo_leaveBehind_9 rfl ?_
  refine r_iload f_Mo_leaveBehind_12 lk_put ?_
  by_cases c17 : ((σ.1 (a0) 31) - (1 : Int32)) < 0 ∨ 8 ≤ (((σ.1 (a0) 31) - (1 : Int32))).toNatClampNeg
  · rw [if_pos c17] at hF; cases hF
  rw [if_neg c17] at hF
  refine t_iald hB (cc_8_32 ha0) f_Mo_leaveBehind_14 c17 ?_
  refine r_istore f_Mo_leaveBehind_15 ?_
  refine r_iload f_Mo_leaveBehind_17 (lk_put_ne (lk_put_ne rfl (by decide) (Or.inl rfl)) (by decide) (Or.inl rfl)) ?_
  refine r_istore f_Mo_leaveBehind_19 ?_
  exact w_Mo_leaveBehind_21 hB hd  hQ 5000 _ (σ) (a0) (a1) (a2) (a3) (((σ.1 (a0) 31) - (1 : Int32))) ((σ.2.2.2.1 ((cref SHm (a0) 32)) ((((σ.1 (a0) 31) - (1 : Int32))).toNatClampNeg))) (a4) ha0 (lk_put_ne (lk_put_ne (lk_put_ne rfl (by decide) (Or.inl rfl)) (by decide) (Or.inl rfl)) (by decide) (Or.inl rfl)) (lk_put_ne (lk_put_ne (lk_put_ne rfl (by decide) (Or.inl rfl)) (by decide) (Or.inl rfl)) (by decide) (Or.inl rfl)) (lk_put_ne (lk_put_ne (lk_put_ne rfl (by decide) (Or.inl rfl)) (by decide) (Or.inl rfl)) (by decide) (Or.inl rfl)) (lk_put_ne (lk_put_ne (lk_put_ne rfl (by decide) (Or.inl rfl)) (by decide) (Or.inl rfl)) (by decide) (Or.inl rfl)) (lk_put_ne (lk_put_ne lk_put (by decide) (Or.inl rfl)) (by decide) (Or.inl rfl)) (lk_put_ne lk_put (by decide) (Or.inl rfl)) lk_put hF
theorem f_Mo_leave_0 : fetch 93 0 = some (.aload_n 0, 1, 0, 0, 0) := rfl
theorem f_Mo_leave_1 : fetch 93 1 = some (.iload_n 1, 1, 0, 0, 0) := rfl
theorem f_Mo_leave_2 : fetch 93 2 = some (.iload_n 1, 1, 0, 0, 0) := rfl
theorem f_Mo_leave_3 : fetch 93 3 = some (.iload_n 2, 1, 0, 0, 0) := rfl
theorem f_Mo_leave_4 : fetch 93 4 = some (.iload_n 3, 1, 0, 0, 0) := rfl
theorem f_Mo_leave_5 : fetch 93 5 = some (.invokevirtual 353, 3, 94, 4, 100) := rfl
theorem f_Mo_leave_8 : fetch 93 8 = some (.return_, 1, 0, 0, 0) := rfl
def F_Mo_leave (a0 : Nat) (a1 : Int32) (a2 : Int32) (a3 : Int32) (σ : SG) : Option (SG) :=
  match F_Mo_leaveBehind (a0) (a1) (a1) (a2) (a3) σ with
  | none => none
  | some q1 =>
  some q1
set_option maxHeartbeats 4000000 in
theorem w_Mo_leave {b d : Nat} {pre tl : List PE} {B : Nat} {Q : Option Value → List PE → Prop} {res : SG} (hB : B = b + pre.length) (hd : 4 ≤ d)  {σ : SG} (a0 : Nat) (a1 : Int32) (a2 : Int32) (a3 : Int32) (ha0 : isC SHm (a0) 8 = true) (hF : F_Mo_leave a0 a1 a2 a3 σ = some res) (hQ : Q none (HH pre tl SHm B res)) : Cl b d 93 [.ref (B + (a0)), .int (a1), .int (a2), .int (a3)] (HH pre tl SHm B σ) Q := by
  obtain ⟨e0, rfl⟩ : ∃ e, d = e + 1 := ⟨d - 1, by omega⟩
  unfold Cl
  unfold F_Mo_leave at hF
  refine r_aload_n f_Mo_leave_0 rfl ?_
  refine r_iload_n f_Mo_leave_1 rfl ?_
  refine r_iload_n f_Mo_leave_2 rfl ?_
  refine r_iload_n f_Mo_leave_3 rfl ?_
  refine r_iload_n f_Mo_leave_4 rfl ?_
  cases hq1 : F_Mo_leaveBehind (a0) (a1) (a1) (a2) (a3) σ with
  | none => simp only [hq1] at hF; cases hF
  | some q1 =>
    simp only [hq1] at hF
    refine t_V4v hB ha0 rfl rfl f_Mo_leave_5 (by decide) (Nat.le_of_ble_eq_true rfl) (Nat.le_of_ble_eq_true rfl) (w_Mo_leaveBehind hB (by omega) (a0) (a1) (a1) (a2) (a3) ha0 hq1 ⟨rfl, ?_⟩)
    cases hF
    exact r_return f_Mo_leave_8 hQ
theorem f_Mo_goOn_0 : fetch 95 0 = some (.aload_n 0, 1, 0, 0, 0) := rfl
theorem f_Mo_goOn_1 : fetch 95 1 = some (.iload_n 2, 1, 0, 0, 0) := rfl
theorem f_Mo_goOn_2 : fetch 95 2 = some (.invokevirtual 254, 3, 58, 1, 70) := rfl
theorem f_Mo_goOn_5 : fetch 95 5 = some (.iconst 3, 1, 0, 0, 0) := rfl
theorem f_Mo_goOn_6 : fetch 95 6 = some (.aload_n 0, 1, 0, 0, 0) := rfl
theorem f_Mo_goOn_7 : fetch 95 7 = some (.getfield 154, 3, 8, 24, 65) := rfl
theorem f_Mo_goOn_10 : fetch 95 10 = some (.imul, 1, 0, 0, 0) := rfl
theorem f_Mo_goOn_11 : fetch 95 11 = some (.isub, 1, 0, 0, 0) := rfl
theorem f_Mo_goOn_12 : fetch 95 12 = some (.istore_n 3, 1, 0, 0, 0) := rfl
theorem f_Mo_goOn_13 : fetch 95 13 = some (.iconst 3, 1, 0, 0, 0) := rfl
theorem f_Mo_goOn_14 : fetch 95 14 = some (.iload_n 1, 1, 0, 0, 0) := rfl
theorem f_Mo_goOn_15 : fetch 95 15 = some (.imul, 1, 0, 0, 0) := rfl
theorem f_Mo_goOn_16 : fetch 95 16 = some (.iload_n 3, 1, 0, 0, 0) := rfl
theorem f_Mo_goOn_17 : fetch 95 17 = some (.iadd, 1, 0, 0, 0) := rfl
theorem f_Mo_goOn_18 : fetch 95 18 = some (.istore 4, 2, 0, 0, 0) := rfl
theorem f_Mo_goOn_20 : fetch 95 20 = some (.aload_n 0, 1, 0, 0, 0) := rfl
theorem f_Mo_goOn_21 : fetch 95 21 = some (.getfield 93, 3, 8, 40, 54) := rfl
theorem f_Mo_goOn_24 : fetch 95 24 = some (.iload 4, 2, 0, 0, 0) := rfl
theorem f_Mo_goOn_26 : fetch 95 26 = some (.iaload, 1, 0, 0, 0) := rfl
theorem f_Mo_goOn_27 : fetch 95 27 = some (.istore 5, 2, 0, 0, 0) := rfl
theorem f_Mo_goOn_29 : fetch 95 29 = some (.aload_n 0, 1, 0, 0, 0) := rfl
theorem f_Mo_goOn_30 : fetch 95 30 = some (.getfield 93, 3, 8, 40, 54) := rfl
theorem f_Mo_goOn_33 : fetch 95 33 = some (.iload 4, 2, 0, 0, 0) := rfl
theorem f_Mo_goOn_35 : fetch 95 35 = some (.iconst 0, 1, 0, 0, 0) := rfl
theorem f_Mo_goOn_36 : fetch 95 36 = some (.iastore, 1, 0, 0, 0) := rfl
theorem f_Mo_goOn_37 : fetch 95 37 = some (.iload 5, 2, 0, 0, 0) := rfl
theorem f_Mo_goOn_39 : fetch 95 39 = some (.iconst 1, 1, 0, 0, 0) := rfl
theorem f_Mo_goOn_40 : fetch 95 40 = some (.if_icmp .ne 28, 3, 68, 0, 0) := rfl
theorem f_Mo_goOn_43 : fetch 95 43 = some (.aload_n 0, 1, 0, 0, 0) := rfl
theorem f_Mo_goOn_44 : fetch 95 44 = some (.aload_n 0, 1, 0, 0, 0) := rfl
theorem f_Mo_goOn_45 : fetch 95 45 = some (.getfield 96, 3, 8, 41, 55) := rfl
theorem f_Mo_goOn_48 : fetch 95 48 = some (.iload 4, 2, 0, 0, 0) := rfl
theorem f_Mo_goOn_50 : fetch 95 50 = some (.iaload, 1, 0, 0, 0) := rfl
theorem f_Mo_goOn_51 : fetch 95 51 = some (.iload_n 2, 1, 0, 0, 0) := rfl
theorem f_Mo_goOn_52 : fetch 95 52 = some (.aload_n 0, 1, 0, 0, 0) := rfl
theorem f_Mo_goOn_53 : fetch 95 53 = some (.getfield 99, 3, 8, 42, 56) := rfl
theorem f_Mo_goOn_56 : fetch 95 56 = some (.iload 4, 2, 0, 0, 0) := rfl
theorem f_Mo_goOn_58 : fetch 95 58 = some (.iaload, 1, 0, 0, 0) := rfl
theorem f_Mo_goOn_59 : fetch 95 59 = some (.iload_n 3, 1, 0, 0, 0) := rfl
theorem f_Mo_goOn_60 : fetch 95 60 = some (.iconst 1, 1, 0, 0, 0) := rfl
theorem f_Mo_goOn_61 : fetch 95 61 = some (.iadd, 1, 0, 0, 0) := rfl
theorem f_Mo_goOn_62 : fetch 95 62 = some (.invokevirtual 345, 3, 90, 4, 97) := rfl
theorem f_Mo_goOn_65 : fetch 95 65 = some (.goto 25, 3, 90, 0, 0) := rfl
theorem f_Mo_goOn_68 : fetch 95 68 = some (.aload_n 0, 1, 0, 0, 0) := rfl
theorem f_Mo_goOn_69 : fetch 95 69 = some (.iload_n 2, 1, 0, 0, 0) := rfl
theorem f_Mo_goOn_70 : fetch 95 70 = some (.aload_n 0, 1, 0, 0, 0) := rfl
theorem f_Mo_goOn_71 : fetch 95 71 = some (.getfield 99, 3, 8, 42, 56) := rfl
theorem f_Mo_goOn_74 : fetch 95 74 = some (.iload 4, 2, 0, 0, 0) := rfl
theorem f_Mo_goOn_76 : fetch 95 76 = some (.iaload, 1, 0, 0, 0) := rfl
theorem f_Mo_goOn_77 : fetch 95 77 = some (.aload_n 0, 1, 0, 0, 0) := rfl
theorem f_Mo_goOn_78 : fetch 95 78 = some (.getfield 96, 3, 8, 41, 55) := rfl
theorem f_Mo_goOn_81 : fetch 95 81 = some (.iload 4, 2, 0, 0, 0) := rfl
theorem f_Mo_goOn_83 : fetch 95 83 = some (.iaload, 1, 0, 0, 0) := rfl
theorem f_Mo_goOn_84 : fetch 95 84 = some (.iload_n 3, 1, 0, 0, 0) := rfl
theorem f_Mo_goOn_85 : fetch 95 85 = some (.iconst 1, 1, 0, 0, 0) := rfl
theorem f_Mo_goOn_86 : fetch 95 86 = some (.iadd, 1, 0, 0, 0) := rfl
theorem f_Mo_goOn_87 : fetch 95 87 = some (.invokevirtual 353, 3, 94, 4, 100) := rfl
theorem f_Mo_goOn_90 : fetch 95 90 = some (.return_, 1, 0, 0, 0) := rfl
def F_Mo_goOn_90   (σ : SG) : Option (SG) :=
  some σ
set_option maxHeartbeats 4000000 in
theorem w_Mo_goOn_90 {b d : Nat} {sc : SC} {pre tl : List PE} {B : Nat} {Q : Option Value → List PE → Prop} {res : SG} (hB : B = b + pre.length) (hd : 4 ≤ d)   (hQ : Q none (HH pre tl SHm B res)) (lv : LV) (σ : SG)   (hF : F_Mo_goOn_90   σ = some res) : Rn b sc d 95 90 lv [] (HH pre tl SHm B σ) Q := by
  obtain ⟨e0, rfl⟩ : ∃ e, d = e + 1 := ⟨d - 1, by omega⟩
  unfold F_Mo_goOn_90 at hF
  cases hF
  exact r_return f_Mo_goOn_90 hQ
def F_Mo_goOn (a0 : Nat) (a1 : Int32) (a2 : Int32) (σ : SG) : Option (SG) :=
  match F_Mo_innermost (a0) (a2) σ with
  | none => none
  | some q1 =>
  if (((3 : Int32) * a1) + (q1.1 - ((3 : Int32) * (q1.2.1 (a0) 24)))) < 0 ∨ 24 ≤ ((((3 : Int32) * a1) + (q1.1 - ((3 : Int32) * (q1.2.1 (a0) 24))))).toNatClampNeg then none else
  if (((3 : Int32) * a1) + (q1.1 - ((3 : Int32) * (q1.2.1 (a0) 24)))) < 0 ∨ 24 ≤ ((((3 : Int32) * a1) + (q1.1 - ((3 : Int32) * (q1.2.1 (a0) 24))))).toNatClampNeg then none else
  stl (setA q1.2 ((cref SHm (a0) 40)) (((((3 : Int32) * a1) + (q1.1 - ((3 : Int32) * (q1.2.1 (a0) 24))))).toNatClampNeg) ((0 : Int32))) fun s4 =>
  if (q1.2.2.2.2.1 ((cref SHm (a0) 40)) (((((3 : Int32) * a1) + (q1.1 - ((3 : Int32) * (q1.2.1 (a0) 24))))).toNatClampNeg)) = (1 : Int32) then
  if (((3 : Int32) * a1) + (q1.1 - ((3 : Int32) * (q1.2.1 (a0) 24)))) < 0 ∨ 24 ≤ ((((3 : Int32) * a1) + (q1.1 - ((3 : Int32) * (q1.2.1 (a0) 24))))).toNatClampNeg then none else
  if (((3 : Int32) * a1) + (q1.1 - ((3 : Int32) * (q1.2.1 (a0) 24)))) < 0 ∨ 24 ≤ ((((3 : Int32) * a1) + (q1.1 - ((3 : Int32) * (q1.2.1 (a0) 24))))).toNatClampNeg then none else
  match F_Mo_raiseBehind (a0) ((s4.2.2.2.1 ((cref SHm (a0) 41)) (((((3 : Int32) * a1) + (q1.1 - ((3 : Int32) * (q1.2.1 (a0) 24))))).toNatClampNeg))) (a2) ((s4.2.2.2.1 ((cref SHm (a0) 42)) (((((3 : Int32) * a1) + (q1.1 - ((3 : Int32) * (q1.2.1 (a0) 24))))).toNatClampNeg))) (((q1.1 - ((3 : Int32) * (q1.2.1 (a0) 24))) + (1 : Int32))) s4 with
  | none => none
  | some q11 =>
  F_Mo_goOn_90 q11
  else if (((3 : Int32) * a1) + (q1.1 - ((3 : Int32) * (q1.2.1 (a0) 24)))) < 0 ∨ 24 ≤ ((((3 : Int32) * a1) + (q1.1 - ((3 : Int32) * (q1.2.1 (a0) 24))))).toNatClampNeg then none else
  if (((3 : Int32) * a1) + (q1.1 - ((3 : Int32) * (q1.2.1 (a0) 24)))) < 0 ∨ 24 ≤ ((((3 : Int32) * a1) + (q1.1 - ((3 : Int32) * (q1.2.1 (a0) 24))))).toNatClampNeg then none else
  match F_Mo_leaveBehind (a0) (a2) ((s4.2.2.2.1 ((cref SHm (a0) 42)) (((((3 : Int32) * a1) + (q1.1 - ((3 : Int32) * (q1.2.1 (a0) 24))))).toNatClampNeg))) ((s4.2.2.2.1 ((cref SHm (a0) 41)) (((((3 : Int32) * a1) + (q1.1 - ((3 : Int32) * (q1.2.1 (a0) 24))))).toNatClampNeg))) (((q1.1 - ((3 : Int32) * (q1.2.1 (a0) 24))) + (1 : Int32))) s4 with
  | none => none
  | some q8 =>
  F_Mo_goOn_90 q8
set_option maxHeartbeats 4000000 in
theorem w_Mo_goOn {b d : Nat} {pre tl : List PE} {B : Nat} {Q : Option Value → List PE → Prop} {res : SG} (hB : B = b + pre.length) (hd : 4 ≤ d)  {σ : SG} (a0 : Nat) (a1 : Int32) (a2 : Int32) (ha0 : isC SHm (a0) 8 = true) (hF : F_Mo_goOn a0 a1 a2 σ = some res) (hQ : Q none (HH pre tl SHm B res)) : Cl b d 95 [.ref (B + (a0)), .int (a1), .int (a2)] (HH pre tl SHm B σ) Q := by
  obtain ⟨e0, rfl⟩ : ∃ e, d = e + 1 := ⟨d - 1, by omega⟩
  unfold Cl
  unfold F_Mo_goOn at hF
  refine r_aload_n f_Mo_goOn_0 rfl ?_
  refine r_iload_n f_Mo_goOn_1 rfl ?_
  cases hq1 : F_Mo_innermost (a0) (a2) σ with
  | none => simp only [hq1] at hF; cases hF
  | some q1 =>
    simp only [hq1] at hF
    refine t_V1i hB ha0 rfl rfl f_Mo_goOn_2 (by decide) (Nat.le_of_ble_eq_true rfl) (Nat.le_of_ble_eq_true rfl) (w_Mo_innermost hB  (a0) (a2) ha0 hq1 ⟨_, rfl, ?_⟩)
    refine r_iconst f_Mo_goOn_5 (v := 3) (by decide) ?_
    refine r_aload_n f_Mo_goOn_6 rfl ?_
    refine t_geti hB ha0 f_Mo_goOn_7 rfl ?_
    refine r_imul f_Mo_goOn_10 ?_
    refine r_isub f_Mo_goOn_11 ?_
    refine r_istore_n f_Mo_goOn_12 ?_
    refine r_iconst f_Mo_goOn_13 (v := 3) (by decide) ?_
    refine r_iload_n f_Mo_goOn_14 (lk_put_ne rfl (by decide) (Or.inl rfl)) ?_
    refine r_imul f_Mo_goOn_15 ?_
    refine r_iload_n f_Mo_goOn_16 lk_put ?_
    refine r_iadd f_Mo_goOn_17 ?_
    refine r_istore f_Mo_goOn_18 ?_
    refine r_aload_n f_Mo_goOn_20 (lk_put_ne (lk_put_ne rfl (by decide) (Or.inl rfl)) (by decide) (Or.inl rfl)) ?_
    refine t_getc hB ha0 f_Mo_goOn_21 rfl ?_
    refine r_iload f_Mo_goOn_24 lk_put ?_
    by_cases c2 : (((3 : Int32) * a1) + (q1.1 - ((3 : Int32) * (q1.2.1 (a0) 24)))) < 0 ∨ 24 ≤ ((((3 : Int32) * a1) + (q1.1 - ((3 : Int32) * (q1.2.1 (a0) 24))))).toNatClampNeg
    · rw [if_pos c2] at hF; cases hF
    rw [if_neg c2] at hF
    refine t_iald hB (cc_8_40 ha0) f_Mo_goOn_26 c2 ?_
    refine r_istore f_Mo_goOn_27 ?_
    refine r_aload_n f_Mo_goOn_29 (lk_put_ne (lk_put_ne (lk_put_ne rfl (by decide) (Or.inl rfl)) (by decide) (Or.inl rfl)) (by decide) (Or.inl rfl)) ?_
    refine t_getc hB ha0 f_Mo_goOn_30 rfl ?_
    refine r_iload f_Mo_goOn_33 (lk_put_ne lk_put (by decide) (Or.inl rfl)) ?_
    refine r_iconst f_Mo_goOn_35 (v := 0) (by decide) ?_
    by_cases c3 : (((3 : Int32) * a1) + (q1.1 - ((3 : Int32) * (q1.2.1 (a0) 24)))) < 0 ∨ 24 ≤ ((((3 : Int32) * a1) + (q1.1 - ((3 : Int32) * (q1.2.1 (a0) 24))))).toNatClampNeg
    · rw [if_pos c3] at hF; cases hF
    rw [if_neg c3] at hF
    refine t_iast hB (cc_8_40 ha0) f_Mo_goOn_36 c3 ?_
    generalize hs4 : setA q1.2 ((cref SHm (a0) 40)) (((((3 : Int32) * a1) + (q1.1 - ((3 : Int32) * (q1.2.1 (a0) 24))))).toNatClampNeg) ((0 : Int32)) = s4 at hF ⊢
    rw [stl_eq] at hF
    refine r_iload f_Mo_goOn_37 lk_put ?_
    refine r_iconst f_Mo_goOn_39 (v := 1) (by decide) ?_
    refine r_icmp_ne f_Mo_goOn_40 (fun c5 => ?_) (fun c5 => ?_)
    · rw [if_neg c5] at hF
      refine r_aload_n f_Mo_goOn_68 (lk_put_ne (lk_put_ne (lk_put_ne rfl (by decide) (Or.inl rfl)) (by decide) (Or.inl rfl)) (by decide) (Or.inl rfl)) ?_
      refine r_iload_n f_Mo_goOn_69 (lk_put_ne (lk_put_ne (lk_put_ne rfl (by decide) (Or.inl rfl)) (by decide) (Or.inl rfl)) (by decide) (Or.inl rfl)) ?_
      refine r_aload_n f_Mo_goOn_70 (lk_put_ne (lk_put_ne (lk_put_ne rfl (by decide) (Or.inl rfl)) (by decide) (Or.inl rfl)) (by decide) (Or.inl rfl)) ?_
      refine t_getc hB ha0 f_Mo_goOn_71 rfl ?_
      refine r_iload f_Mo_goOn_74 (lk_put_ne lk_put (by decide) (Or.inl rfl)) ?_
      by_cases c6 : (((3 : Int32) * a1) + (q1.1 - ((3 : Int32) * (q1.2.1 (a0) 24)))) < 0 ∨ 24 ≤ ((((3 : Int32) * a1) + (q1.1 - ((3 : Int32) * (q1.2.1 (a0) 24))))).toNatClampNeg
      · rw [if_pos c6] at hF; cases hF
      rw [if_neg c6] at hF
      refine t_iald hB (cc_8_42 ha0) f_Mo_goOn_76 c6 ?_
      refine r_aload_n f_Mo_goOn_77 (lk_put_ne (lk_put_ne (lk_put_ne rfl (by decide) (Or.inl rfl)) (by decide) (Or.inl rfl)) (by decide) (Or.inl rfl)) ?_
      refine t_getc hB ha0 f_Mo_goOn_78 rfl ?_
      refine r_iload f_Mo_goOn_81 (lk_put_ne lk_put (by decide) (Or.inl rfl)) ?_
      by_cases c7 : (((3 : Int32) * a1) + (q1.1 - ((3 : Int32) * (q1.2.1 (a0) 24)))) < 0 ∨ 24 ≤ ((((3 : Int32) * a1) + (q1.1 - ((3 : Int32) * (q1.2.1 (a0) 24))))).toNatClampNeg
      · rw [if_pos c7] at hF; cases hF
      rw [if_neg c7] at hF
      refine t_iald hB (cc_8_41 ha0) f_Mo_goOn_83 c7 ?_
      refine r_iload_n f_Mo_goOn_84 (lk_put_ne (lk_put_ne lk_put (by decide) (Or.inl rfl)) (by decide) (Or.inl rfl)) ?_
      refine r_iconst f_Mo_goOn_85 (v := 1) (by decide) ?_
      refine r_iadd f_Mo_goOn_86 ?_
      cases hq8 : F_Mo_leaveBehind (a0) (a2) ((s4.2.2.2.1 ((cref SHm (a0) 42)) (((((3 : Int32) * a1) + (q1.1 - ((3 : Int32) * (q1.2.1 (a0) 24))))).toNatClampNeg))) ((s4.2.2.2.1 ((cref SHm (a0) 41)) (((((3 : Int32) * a1) + (q1.1 - ((3 : Int32) * (q1.2.1 (a0) 24))))).toNatClampNeg))) (((q1.1 - ((3 : Int32) * (q1.2.1 (a0) 24))) + (1 : Int32))) s4 with
      | none => simp only [hq8] at hF; cases hF
      | some q8 =>
        simp only [hq8] at hF
        refine t_V4v hB ha0 rfl rfl f_Mo_goOn_87 (by decide) (Nat.le_of_ble_eq_true rfl) (Nat.le_of_ble_eq_true rfl) (w_Mo_leaveBehind hB (by omega) (a0) (a2) ((s4.2.2.2.1 ((cref SHm (a0) 42)) (((((3 : Int32) * a1) + (q1.1 - ((3 : Int32) * (q1.2.1 (a0) 24))))).toNatClampNeg))) ((s4.2.2.2.1 ((cref SHm (a0) 41)) (((((3 : Int32) * a1) + (q1.1 - ((3 : Int32) * (q1.2.1 (a0) 24))))).toNatClampNeg))) (((q1.1 - ((3 : Int32) * (q1.2.1 (a0) 24))) + (1 : Int32))) ha0 hq8 ⟨rfl, ?_⟩)
        exact w_Mo_goOn_90 hB hd  hQ _ (q8) hF
    · rw [if_pos (Decidable.not_not.mp c5)] at hF
      refine r_aload_n f_Mo_goOn_43 (lk_put_ne (lk_put_ne (lk_put_ne rfl (by decide) (Or.inl rfl)) (by decide) (Or.inl rfl)) (by decide) (Or.inl rfl)) ?_
      refine r_aload_n f_Mo_goOn_44 (lk_put_ne (lk_put_ne (lk_put_ne rfl (by decide) (Or.inl rfl)) (by decide) (Or.inl rfl)) (by decide) (Or.inl rfl)) ?_
      refine t_getc hB ha0 f_Mo_goOn_45 rfl ?_
      refine r_iload f_Mo_goOn_48 (lk_put_ne lk_put (by decide) (Or.inl rfl)) ?_
      by_cases c9 : (((3 : Int32) * a1) + (q1.1 - ((3 : Int32) * (q1.2.1 (a0) 24)))) < 0 ∨ 24 ≤ ((((3 : Int32) * a1) + (q1.1 - ((3 : Int32) * (q1.2.1 (a0) 24))))).toNatClampNeg
      · rw [if_pos c9] at hF; cases hF
      rw [if_neg c9] at hF
      refine t_iald hB (cc_8_41 ha0) f_Mo_goOn_50 c9 ?_
      refine r_iload_n f_Mo_goOn_51 (lk_put_ne (lk_put_ne (lk_put_ne rfl (by decide) (Or.inl rfl)) (by decide) (Or.inl rfl)) (by decide) (Or.inl rfl)) ?_
      refine r_aload_n f_Mo_goOn_52 (lk_put_ne (lk_put_ne (lk_put_ne rfl (by decide) (Or.inl rfl)) (by decide) (Or.inl rfl)) (by decide) (Or.inl rfl)) ?_
      refine t_getc hB ha0 f_Mo_goOn_53 rfl ?_
      refine r_iload f_Mo_goOn_56 (lk_put_ne lk_put (by decide) (Or.inl rfl)) ?_
      by_cases c10 : (((3 : Int32) * a1) + (q1.1 - ((3 : Int32) * (q1.2.1 (a0) 24)))) < 0 ∨ 24 ≤ ((((3 : Int32) * a1) + (q1.1 - ((3 : Int32) * (q1.2.1 (a0) 24))))).toNatClampNeg
      · rw [if_pos c10] at hF; cases hF
      rw [if_neg c10] at hF
      refine t_iald hB (cc_8_42 ha0) f_Mo_goOn_58 c10 ?_
      refine r_iload_n f_Mo_goOn_59 (lk_put_ne (lk_put_ne lk_put (by decide) (Or.inl rfl)) (by decide) (Or.inl rfl)) ?_
      refine r_iconst f_Mo_goOn_60 (v := 1) (by decide) ?_
      refine r_iadd f_Mo_goOn_61 ?_
      cases hq11 : F_Mo_raiseBehind (a0) ((s4.2.2.2.1 ((cref SHm (a0) 41)) (((((3 : Int32) * a1) + (q1.1 - ((3 : Int32) * (q1.2.1 (a0) 24))))).toNatClampNeg))) (a2) ((s4.2.2.2.1 ((cref SHm (a0) 42)) (((((3 : Int32) * a1) + (q1.1 - ((3 : Int32) * (q1.2.1 (a0) 24))))).toNatClampNeg))) (((q1.1 - ((3 : Int32) * (q1.2.1 (a0) 24))) + (1 : Int32))) s4 with
      | none => simp only [hq11] at hF; cases hF
      | some q11 =>
        simp only [hq11] at hF
        refine t_V4v hB ha0 rfl rfl f_Mo_goOn_62 (by decide) (Nat.le_of_ble_eq_true rfl) (Nat.le_of_ble_eq_true rfl) (w_Mo_raiseBehind hB (by omega) (a0) ((s4.2.2.2.1 ((cref SHm (a0) 41)) (((((3 : Int32) * a1) + (q1.1 - ((3 : Int32) * (q1.2.1 (a0) 24))))).toNatClampNeg))) (a2) ((s4.2.2.2.1 ((cref SHm (a0) 42)) (((((3 : Int32) * a1) + (q1.1 - ((3 : Int32) * (q1.2.1 (a0) 24))))).toNatClampNeg))) (((q1.1 - ((3 : Int32) * (q1.2.1 (a0) 24))) + (1 : Int32))) ha0 hq11 ⟨rfl, ?_⟩)
        refine r_goto f_Mo_goOn_65 ?_
        exact w_Mo_goOn_90 hB hd  hQ _ (q11) hF
