theorem f_Rw_without_0 : fetch 157 0 = some (.iload_n 0, 1, 0, 0, 0) := rfl
theorem f_Rw_without_1 : fetch 157 1 = some (.invokestatic 11, 3, 156, 1, 161) := rfl
theorem f_Rw_without_4 : fetch 157 4 = some (.iconst 1, 1, 0, 0, 0) := rfl
theorem f_Rw_without_5 : fetch 157 5 = some (.isub, 1, 0, 0, 0) := rfl
theorem f_Rw_without_6 : fetch 157 6 = some (.istore_n 2, 1, 0, 0, 0) := rfl
theorem f_Rw_without_7 : fetch 157 7 = some (.iload_n 0, 1, 0, 0, 0) := rfl
theorem f_Rw_without_8 : fetch 157 8 = some (.iconst (-1), 1, 0, 0, 0) := rfl
theorem f_Rw_without_9 : fetch 157 9 = some (.if_icmp .eq 20, 3, 29, 0, 0) := rfl
theorem f_Rw_without_12 : fetch 157 12 = some (.iload_n 2, 1, 0, 0, 0) := rfl
theorem f_Rw_without_13 : fetch 157 13 = some (.ifCond .lt 16, 3, 29, 0, 0) := rfl
theorem f_Rw_without_16 : fetch 157 16 = some (.iload_n 1, 1, 0, 0, 0) := rfl
theorem f_Rw_without_17 : fetch 157 17 = some (.ifCond .eq 12, 3, 29, 0, 0) := rfl
theorem f_Rw_without_20 : fetch 157 20 = some (.iload_n 0, 1, 0, 0, 0) := rfl
theorem f_Rw_without_21 : fetch 157 21 = some (.iload_n 2, 1, 0, 0, 0) := rfl
theorem f_Rw_without_22 : fetch 157 22 = some (.invokestatic 15, 3, 158, 2, 162) := rfl
theorem f_Rw_without_25 : fetch 157 25 = some (.iload_n 1, 1, 0, 0, 0) := rfl
theorem f_Rw_without_26 : fetch 157 26 = some (.if_icmp .eq 5, 3, 31, 0, 0) := rfl
theorem f_Rw_without_29 : fetch 157 29 = some (.iconst (-1), 1, 0, 0, 0) := rfl
theorem f_Rw_without_30 : fetch 157 30 = some (.ireturn, 1, 0, 0, 0) := rfl
theorem f_Rw_without_31 : fetch 157 31 = some (.iload_n 0, 1, 0, 0, 0) := rfl
theorem f_Rw_without_32 : fetch 157 32 = some (.bipush 15, 2, 0, 0, 0) := rfl
theorem f_Rw_without_34 : fetch 157 34 = some (.iconst 4, 1, 0, 0, 0) := rfl
theorem f_Rw_without_35 : fetch 157 35 = some (.iload_n 2, 1, 0, 0, 0) := rfl
theorem f_Rw_without_36 : fetch 157 36 = some (.imul, 1, 0, 0, 0) := rfl
theorem f_Rw_without_37 : fetch 157 37 = some (.ishl, 1, 0, 0, 0) := rfl
theorem f_Rw_without_38 : fetch 157 38 = some (.iconst (-1), 1, 0, 0, 0) := rfl
theorem f_Rw_without_39 : fetch 157 39 = some (.ixor, 1, 0, 0, 0) := rfl
theorem f_Rw_without_40 : fetch 157 40 = some (.iand, 1, 0, 0, 0) := rfl
theorem f_Rw_without_41 : fetch 157 41 = some (.ireturn, 1, 0, 0, 0) := rfl
def F_Rw_without_29   (σ : SG) : Option (Int32 × SG) :=
  some (((-1) : Int32), σ)
set_option maxHeartbeats 4000000 in
theorem w_Rw_without_29 {b d : Nat} {sc : SC} {pre tl : List PE} {B : Nat} {Q : Option Value → List PE → Prop} {res : Int32 × SG} (hB : B = b + pre.length) (hd : 1 ≤ d)   (hQ : Q (some (.int res.1)) (HH pre tl SHc B res.2)) (lv : LV) (σ : SG)   (hF : F_Rw_without_29   σ = some res) : Rn b sc d 157 29 lv [] (HH pre tl SHc B σ) Q := by
  obtain ⟨e0, rfl⟩ : ∃ e, d = e + 1 := ⟨d - 1, by omega⟩
  unfold F_Rw_without_29 at hF
  refine r_iconst f_Rw_without_29 (v := (-1)) (by decide) ?_
  cases hF
  exact r_ireturn f_Rw_without_30 hQ
def F_Rw_without (a0 : Int32) (a1 : Int32) (σ : SG) : Option (Int32 × SG) :=
  match F_Rw_size (a0) σ with
  | none => none
  | some q1 =>
  if a0 = ((-1) : Int32) then
  F_Rw_without_29 q1.2
  else if (q1.1 - (1 : Int32)) < 0 then
  F_Rw_without_29 q1.2
  else if a1 = 0 then
  F_Rw_without_29 q1.2
  else match F_Rw_typeAt (a0) ((q1.1 - (1 : Int32))) q1.2 with
  | none => none
  | some q5 =>
  if q5.1 = a1 then
  some ((a0 &&& (((15 : Int32) <<< (((4 : Int32) * (q1.1 - (1 : Int32))) &&& 31)) ^^^ ((-1) : Int32))), q5.2)
  else F_Rw_without_29 q5.2
set_option maxHeartbeats 4000000 in
theorem w_Rw_without {b d : Nat} {pre tl : List PE} {B : Nat} {Q : Option Value → List PE → Prop} {res : Int32 × SG} (hB : B = b + pre.length) (hd : 1 ≤ d)  {σ : SG} (a0 : Int32) (a1 : Int32)  (hF : F_Rw_without a0 a1 σ = some res) (hQ : Q (some (.int res.1)) (HH pre tl SHc B res.2)) : Cl b d 157 [.int (a0), .int (a1)] (HH pre tl SHc B σ) Q := by
  obtain ⟨e0, rfl⟩ : ∃ e, d = e + 1 := ⟨d - 1, by omega⟩
  unfold Cl
  unfold F_Rw_without at hF
  refine r_iload_n f_Rw_without_0 rfl ?_
  cases hq1 : F_Rw_size (a0) σ with
  | none => simp only [hq1] at hF; cases hF
  | some q1 =>
    simp only [hq1] at hF
    refine t_S1i f_Rw_without_1 (by decide) (Nat.le_of_ble_eq_true rfl) (Nat.le_of_ble_eq_true rfl) (w_Rw_size hB  (a0)  hq1 ⟨_, rfl, ?_⟩)
    refine r_iconst f_Rw_without_4 (v := 1) (by decide) ?_
    refine r_isub f_Rw_without_5 ?_
    refine r_istore_n f_Rw_without_6 ?_
    refine r_iload_n f_Rw_without_7 (lk_put_ne rfl (by decide) (Or.inl rfl)) ?_
    refine r_iconst f_Rw_without_8 (v := (-1)) (by decide) ?_
    refine r_icmp_eq f_Rw_without_9 (fun c2 => ?_) (fun c2 => ?_)
    · rw [if_pos c2] at hF
      exact w_Rw_without_29 hB hd  hQ _ (q1.2) hF
    · rw [if_neg c2] at hF
      refine r_iload_n f_Rw_without_12 lk_put ?_
      refine r_if_lt f_Rw_without_13 (fun c3 => ?_) (fun c3 => ?_)
      · rw [if_pos c3] at hF
        exact w_Rw_without_29 hB hd  hQ _ (q1.2) hF
      · rw [if_neg c3] at hF
        refine r_iload_n f_Rw_without_16 (lk_put_ne rfl (by decide) (Or.inl rfl)) ?_
        refine r_if_eq f_Rw_without_17 (fun c4 => ?_) (fun c4 => ?_)
        · rw [if_pos c4] at hF
          exact w_Rw_without_29 hB hd  hQ _ (q1.2) hF
        · rw [if_neg c4] at hF
          refine r_iload_n f_Rw_without_20 (lk_put_ne rfl (by decide) (Or.inl rfl)) ?_
          refine r_iload_n f_Rw_without_21 lk_put ?_
          cases hq5 : F_Rw_typeAt (a0) ((q1.1 - (1 : Int32))) q1.2 with
          | none => simp only [hq5] at hF; cases hF
          | some q5 =>
            simp only [hq5] at hF
            refine t_S2i f_Rw_without_22 (by decide) (Nat.le_of_ble_eq_true rfl) (Nat.le_of_ble_eq_true rfl) (w_Rw_typeAt hB  (a0) ((q1.1 - (1 : Int32)))  hq5 ⟨_, rfl, ?_⟩)
            refine r_iload_n f_Rw_without_25 (lk_put_ne rfl (by decide) (Or.inl rfl)) ?_
            refine r_icmp_eq f_Rw_without_26 (fun c6 => ?_) (fun c6 => ?_)
            · rw [if_pos c6] at hF
              refine r_iload_n f_Rw_without_31 (lk_put_ne rfl (by decide) (Or.inl rfl)) ?_
              refine r_bipush f_Rw_without_32 (v := 15) (by decide) ?_
              refine r_iconst f_Rw_without_34 (v := 4) (by decide) ?_
              refine r_iload_n f_Rw_without_35 lk_put ?_
              refine r_imul f_Rw_without_36 ?_
              refine r_ishl f_Rw_without_37 ?_
              refine r_iconst f_Rw_without_38 (v := (-1)) (by decide) ?_
              refine r_ixor f_Rw_without_39 ?_
              refine r_iand f_Rw_without_40 ?_
              cases hF
              exact r_ireturn f_Rw_without_41 hQ
            · rw [if_neg c6] at hF
              exact w_Rw_without_29 hB hd  hQ _ (q5.2) hF
theorem f_Rw_top_0 : fetch 159 0 = some (.iload_n 0, 1, 0, 0, 0) := rfl
theorem f_Rw_top_1 : fetch 159 1 = some (.iload_n 0, 1, 0, 0, 0) := rfl
theorem f_Rw_top_2 : fetch 159 2 = some (.invokestatic 11, 3, 156, 1, 161) := rfl
theorem f_Rw_top_5 : fetch 159 5 = some (.iconst 1, 1, 0, 0, 0) := rfl
theorem f_Rw_top_6 : fetch 159 6 = some (.isub, 1, 0, 0, 0) := rfl
theorem f_Rw_top_7 : fetch 159 7 = some (.invokestatic 15, 3, 158, 2, 162) := rfl
theorem f_Rw_top_10 : fetch 159 10 = some (.ireturn, 1, 0, 0, 0) := rfl
def F_Rw_top (a0 : Int32) (σ : SG) : Option (Int32 × SG) :=
  match F_Rw_size (a0) σ with
  | none => none
  | some q1 =>
  match F_Rw_typeAt (a0) ((q1.1 - (1 : Int32))) q1.2 with
  | none => none
  | some q2 =>
  some (q2.1, q2.2)
set_option maxHeartbeats 4000000 in
theorem w_Rw_top {b d : Nat} {pre tl : List PE} {B : Nat} {Q : Option Value → List PE → Prop} {res : Int32 × SG} (hB : B = b + pre.length) (hd : 1 ≤ d)  {σ : SG} (a0 : Int32)  (hF : F_Rw_top a0 σ = some res) (hQ : Q (some (.int res.1)) (HH pre tl SHc B res.2)) : Cl b d 159 [.int (a0)] (HH pre tl SHc B σ) Q := by
  obtain ⟨e0, rfl⟩ : ∃ e, d = e + 1 := ⟨d - 1, by omega⟩
  unfold Cl
  unfold F_Rw_top at hF
  refine r_iload_n f_Rw_top_0 rfl ?_
  refine r_iload_n f_Rw_top_1 rfl ?_
  cases hq1 : F_Rw_size (a0) σ with
  | none => simp only [hq1] at hF; cases hF
  | some q1 =>
    simp only [hq1] at hF
    refine t_S1i f_Rw_top_2 (by decide) (Nat.le_of_ble_eq_true rfl) (Nat.le_of_ble_eq_true rfl) (w_Rw_size hB  (a0)  hq1 ⟨_, rfl, ?_⟩)
    refine r_iconst f_Rw_top_5 (v := 1) (by decide) ?_
    refine r_isub f_Rw_top_6 ?_
    cases hq2 : F_Rw_typeAt (a0) ((q1.1 - (1 : Int32))) q1.2 with
    | none => simp only [hq2] at hF; cases hF
    | some q2 =>
      simp only [hq2] at hF
      refine t_S2i f_Rw_top_7 (by decide) (Nat.le_of_ble_eq_true rfl) (Nat.le_of_ble_eq_true rfl) (w_Rw_typeAt hB  (a0) ((q1.1 - (1 : Int32)))  hq2 ⟨_, rfl, ?_⟩)
      cases hF
      exact r_ireturn f_Rw_top_10 hQ
theorem f_TE_draft_0 : fetch 161 0 = some (.iload_n 3, 1, 0, 0, 0) := rfl
theorem f_TE_draft_1 : fetch 161 1 = some (.iconst 1, 1, 0, 0, 0) := rfl
theorem f_TE_draft_2 : fetch 161 2 = some (.if_icmp .lt 21, 3, 23, 0, 0) := rfl
theorem f_TE_draft_5 : fetch 161 5 = some (.iload_n 3, 1, 0, 0, 0) := rfl
theorem f_TE_draft_6 : fetch 161 6 = some (.bipush 8, 2, 0, 0, 0) := rfl
theorem f_TE_draft_8 : fetch 161 8 = some (.if_icmp .gt 15, 3, 23, 0, 0) := rfl
theorem f_TE_draft_11 : fetch 161 11 = some (.aload_n 0, 1, 0, 0, 0) := rfl
theorem f_TE_draft_12 : fetch 161 12 = some (.getfield 13, 3, 7, 1, 128) := rfl
theorem f_TE_draft_15 : fetch 161 15 = some (.iload_n 3, 1, 0, 0, 0) := rfl
theorem f_TE_draft_16 : fetch 161 16 = some (.iadd, 1, 0, 0, 0) := rfl
theorem f_TE_draft_17 : fetch 161 17 = some (.sipush 400, 3, 0, 0, 0) := rfl
theorem f_TE_draft_20 : fetch 161 20 = some (.if_icmp .le 5, 3, 25, 0, 0) := rfl
theorem f_TE_draft_23 : fetch 161 23 = some (.iconst 0, 1, 0, 0, 0) := rfl
theorem f_TE_draft_24 : fetch 161 24 = some (.ireturn, 1, 2, 0, 0) := rfl
theorem f_TE_draft_25 : fetch 161 25 = some (.iconst 0, 1, 0, 0, 0) := rfl
theorem f_TE_draft_26 : fetch 161 26 = some (.istore 4, 2, 0, 0, 0) := rfl
theorem f_TE_draft_28 : fetch 161 28 = some (.iload 4, 2, 0, 0, 0) := rfl
theorem f_TE_draft_30 : fetch 161 30 = some (.iload_n 3, 1, 0, 0, 0) := rfl
theorem f_TE_draft_31 : fetch 161 31 = some (.if_icmp .ge 40, 3, 71, 0, 0) := rfl
theorem f_TE_draft_34 : fetch 161 34 = some (.aload_n 0, 1, 0, 0, 0) := rfl
theorem f_TE_draft_35 : fetch 161 35 = some (.getfield 9, 3, 7, 0, 127) := rfl
theorem f_TE_draft_38 : fetch 161 38 = some (.aload_n 0, 1, 0, 0, 0) := rfl
theorem f_TE_draft_39 : fetch 161 39 = some (.getfield 13, 3, 7, 1, 128) := rfl
theorem f_TE_draft_42 : fetch 161 42 = some (.lload_n 1, 1, 0, 0, 0) := rfl
theorem f_TE_draft_43 : fetch 161 43 = some (.bipush 8, 2, 0, 0, 0) := rfl
theorem f_TE_draft_45 : fetch 161 45 = some (.iload 4, 2, 0, 0, 0) := rfl
theorem f_TE_draft_47 : fetch 161 47 = some (.imul, 1, 0, 0, 0) := rfl
theorem f_TE_draft_48 : fetch 161 48 = some (.lushr, 1, 0, 0, 0) := rfl
theorem f_TE_draft_49 : fetch 161 49 = some (.ldc2_w 50, 3, 255, 0, 4) := rfl
theorem f_TE_draft_52 : fetch 161 52 = some (.land, 1, 0, 0, 0) := rfl
theorem f_TE_draft_53 : fetch 161 53 = some (.l2i, 1, 0, 0, 0) := rfl
theorem f_TE_draft_54 : fetch 161 54 = some (.iastore, 1, 0, 0, 0) := rfl
theorem f_TE_draft_55 : fetch 161 55 = some (.aload_n 0, 1, 0, 0, 0) := rfl
theorem f_TE_draft_56 : fetch 161 56 = some (.dup, 1, 0, 0, 0) := rfl
theorem f_TE_draft_57 : fetch 161 57 = some (.getfield 13, 3, 7, 1, 128) := rfl
theorem f_TE_draft_60 : fetch 161 60 = some (.iconst 1, 1, 0, 0, 0) := rfl
theorem f_TE_draft_61 : fetch 161 61 = some (.iadd, 1, 0, 0, 0) := rfl
theorem f_TE_draft_62 : fetch 161 62 = some (.putfield 13, 3, 7, 1, 128) := rfl
theorem f_TE_draft_65 : fetch 161 65 = some (.iinc 4 1, 3, 0, 0, 0) := rfl
theorem f_TE_draft_68 : fetch 161 68 = some (.goto (-40), 3, 28, 0, 0) := rfl
theorem f_TE_draft_71 : fetch 161 71 = some (.iconst 1, 1, 0, 0, 0) := rfl
theorem f_TE_draft_72 : fetch 161 72 = some (.ireturn, 1, 2, 0, 0) := rfl
def F_TE_draft_28  : Nat → Nat → Int64 → Int32 → Int32 → SG → Option (Bool × SG)
  | 0, _, _, _, _, _ => none
  | n + 1, x0, x1, x3, x4, σ =>
  if x3 ≤ x4 then
  some (true, σ)
  else if (σ.1 (x0) 1) < 0 ∨ 400 ≤ ((σ.1 (x0) 1)).toNatClampNeg then none else
  stl (setA σ ((cref SHc (x0) 0)) (((σ.1 (x0) 1)).toNatClampNeg) (((((((x1).toUInt64 >>> ((((8 : Int32) * x4)).toInt64.toUInt64 &&& Int64.toUInt64 63)).toInt64) &&& (255 : Int64)) : Int64).toInt32))) fun s3 =>
  stl (setI s3 (x0) 1 (((s3.1 (x0) 1) + (1 : Int32)))) fun s4 =>
  F_TE_draft_28  n (x0) (x1) (x3) ((x4 + 1)) s4
set_option maxHeartbeats 4000000 in
theorem w_TE_draft_28 {b d : Nat} {sc : SC} {pre tl : List PE} {B : Nat} {Q : Option Value → List PE → Prop} {res : Bool × SG} (hB : B = b + pre.length)   (hQ : Q (some (.int (bz res.1))) (HH pre tl SHc B res.2)) : ∀ (n : Nat) (lv : LV) (σ : SG) (x0 : Nat) (x1 : Int64) (x3 : Int32) (x4 : Int32), isC SHc (x0) 7 = true → lv.lookup 0 = some (.ref (B + (x0))) → lv.lookup 1 = some (.long (x1)) → lv.lookup 3 = some (.int (x3)) → lv.lookup 4 = some (.int (x4)) → F_TE_draft_28  n x0 x1 x3 x4 σ = some res → Rn b sc d 161 28 lv [] (HH pre tl SHc B σ) Q := by
  intro n
  induction n with
  | zero => intro lv σ x0 x1 x3 x4 hx0 l0 l1 l3 l4 hF; cases hF
  | succ n ih =>
    intro lv σ x0 x1 x3 x4 hx0 l0 l1 l3 l4 hF
    unfold F_TE_draft_28 at hF
    refine r_iload f_TE_draft_28 l4 ?_
    refine r_iload_n f_TE_draft_30 l3 ?_
    refine r_icmp_ge f_TE_draft_31 (fun c1 => ?_) (fun c1 => ?_)
    · rw [if_pos c1] at hF
      refine r_iconst f_TE_draft_71 (v := 1) (by decide) ?_
      cases hF
      exact r_zreturn f_TE_draft_72 (bz_or (true)) hQ
    · rw [if_neg c1] at hF
      refine r_aload_n f_TE_draft_34 l0 ?_
      refine t_getc hB hx0 f_TE_draft_35 rfl ?_
      refine r_aload_n f_TE_draft_38 l0 ?_
      refine t_geti hB hx0 f_TE_draft_39 rfl ?_
      refine r_lload_n f_TE_draft_42 l1 ?_
      refine r_bipush f_TE_draft_43 (v := 8) (by decide) ?_
      refine r_iload f_TE_draft_45 l4 ?_
      refine r_imul f_TE_draft_47 ?_
      refine r_lushr f_TE_draft_48 ?_
      refine r_ldc2 f_TE_draft_49 (v := 255) (by decide) ?_
      refine r_land f_TE_draft_52 ?_
      refine r_l2i f_TE_draft_53 ?_
      by_cases c2 : (σ.1 (x0) 1) < 0 ∨ 400 ≤ ((σ.1 (x0) 1)).toNatClampNeg
      · rw [if_pos c2] at hF; cases hF
      rw [if_neg c2] at hF
      refine t_iast hB (cc_7_0 hx0) f_TE_draft_54 c2 ?_
      generalize hs3 : setA σ ((cref SHc (x0) 0)) (((σ.1 (x0) 1)).toNatClampNeg) (((((((x1).toUInt64 >>> ((((8 : Int32) * x4)).toInt64.toUInt64 &&& Int64.toUInt64 63)).toInt64) &&& (255 : Int64)) : Int64).toInt32)) = s3 at hF ⊢
      rw [stl_eq] at hF
      refine r_aload_n f_TE_draft_55 l0 ?_
      refine r_dup f_TE_draft_56 rfl ?_
      refine t_geti hB hx0 f_TE_draft_57 rfl ?_
      refine r_iconst f_TE_draft_60 (v := 1) (by decide) ?_
      refine r_iadd f_TE_draft_61 ?_
      refine t_puti hB hx0 f_TE_draft_62 rfl rfl ?_
      generalize hs4 : setI s3 (x0) 1 (((s3.1 (x0) 1) + (1 : Int32))) = s4 at hF ⊢
      rw [stl_eq] at hF
      refine r_iinc f_TE_draft_65 l4 (w := x4 + 1) rfl ?_
      refine r_goto f_TE_draft_68 ?_
      exact ih _ (s4) (x0) (x1) (x3) ((x4 + 1)) hx0 (lk_put_ne l0 (by decide) (Or.inl rfl)) (lk_put_ne l1 (by decide) (Or.inr (by decide))) (lk_put_ne l3 (by decide) (Or.inl rfl)) lk_put hF
def F_TE_draft_23   (σ : SG) : Option (Bool × SG) :=
  some (false, σ)
set_option maxHeartbeats 4000000 in
theorem w_TE_draft_23 {b d : Nat} {sc : SC} {pre tl : List PE} {B : Nat} {Q : Option Value → List PE → Prop} {res : Bool × SG} (hB : B = b + pre.length)   (hQ : Q (some (.int (bz res.1))) (HH pre tl SHc B res.2)) (lv : LV) (σ : SG)   (hF : F_TE_draft_23   σ = some res) : Rn b sc d 161 23 lv [] (HH pre tl SHc B σ) Q := by
  unfold F_TE_draft_23 at hF
  refine r_iconst f_TE_draft_23 (v := 0) (by decide) ?_
  cases hF
  exact r_zreturn f_TE_draft_24 (bz_or (false)) hQ
def F_TE_draft (a0 : Nat) (a1 : Int64) (a2 : Int32) (σ : SG) : Option (Bool × SG) :=
  if a2 < (1 : Int32) then
  F_TE_draft_23 σ
  else if (8 : Int32) < a2 then
  F_TE_draft_23 σ
  else if ((σ.1 (a0) 1) + a2) ≤ (400 : Int32) then
  F_TE_draft_28  5000 (a0) (a1) (a2) ((0 : Int32)) σ
  else F_TE_draft_23 σ
set_option maxHeartbeats 4000000 in
theorem w_TE_draft {b d : Nat} {pre tl : List PE} {B : Nat} {Q : Option Value → List PE → Prop} {res : Bool × SG} (hB : B = b + pre.length)  {σ : SG} (a0 : Nat) (a1 : Int64) (a2 : Int32) (ha0 : isC SHc (a0) 7 = true) (hF : F_TE_draft a0 a1 a2 σ = some res) (hQ : Q (some (.int (bz res.1))) (HH pre tl SHc B res.2)) : Cl b d 161 [.ref (B + (a0)), .long (a1), .int (a2)] (HH pre tl SHc B σ) Q := by
  unfold Cl
  unfold F_TE_draft at hF
  refine r_iload_n f_TE_draft_0 rfl ?_
  refine r_iconst f_TE_draft_1 (v := 1) (by decide) ?_
  refine r_icmp_lt f_TE_draft_2 (fun c5 => ?_) (fun c5 => ?_)
  · rw [if_pos c5] at hF
    exact w_TE_draft_23 hB   hQ _ (σ) hF
  · rw [if_neg c5] at hF
    refine r_iload_n f_TE_draft_5 rfl ?_
    refine r_bipush f_TE_draft_6 (v := 8) (by decide) ?_
    refine r_icmp_gt f_TE_draft_8 (fun c6 => ?_) (fun c6 => ?_)
    · rw [if_pos c6] at hF
      exact w_TE_draft_23 hB   hQ _ (σ) hF
    · rw [if_neg c6] at hF
      refine r_aload_n f_TE_draft_11 rfl ?_
      refine t_geti hB ha0 f_TE_draft_12 rfl ?_
      refine r_iload_n f_TE_draft_15 rfl ?_
      refine r_iadd f_TE_draft_16 ?_
      refine r_sipush f_TE_draft_17 (v := 400) (by decide) ?_
      refine r_icmp_le f_TE_draft_20 (fun c7 => ?_) (fun c7 => ?_)
      · rw [if_pos c7] at hF
        refine r_iconst f_TE_draft_25 (v := 0) (by decide) ?_
        refine r_istore f_TE_draft_26 ?_
        exact w_TE_draft_28 hB   hQ 5000 _ (σ) (a0) (a1) (a2) ((0 : Int32)) ha0 (lk_put_ne rfl (by decide) (Or.inl rfl)) (lk_put_ne rfl (by decide) (Or.inr (by decide))) (lk_put_ne rfl (by decide) (Or.inl rfl)) lk_put hF
      · rw [if_neg c7] at hF
        exact w_TE_draft_23 hB   hQ _ (σ) hF
theorem f_TE_clear_0 : fetch 162 0 = some (.aload_n 0, 1, 0, 0, 0) := rfl
theorem f_TE_clear_1 : fetch 162 1 = some (.iconst 0, 1, 0, 0, 0) := rfl
theorem f_TE_clear_2 : fetch 162 2 = some (.putfield 13, 3, 7, 1, 128) := rfl
theorem f_TE_clear_5 : fetch 162 5 = some (.return_, 1, 0, 0, 0) := rfl
def F_TE_clear (a0 : Nat) (σ : SG) : Option (SG) :=
  stl (setI σ (a0) 1 ((0 : Int32))) fun s1 =>
  some s1
set_option maxHeartbeats 4000000 in
theorem w_TE_clear {b d : Nat} {pre tl : List PE} {B : Nat} {Q : Option Value → List PE → Prop} {res : SG} (hB : B = b + pre.length)  {σ : SG} (a0 : Nat) (ha0 : isC SHc (a0) 7 = true) (hF : F_TE_clear a0 σ = some res) (hQ : Q none (HH pre tl SHc B res)) : Cl b d 162 [.ref (B + (a0))] (HH pre tl SHc B σ) Q := by
  unfold Cl
  unfold F_TE_clear at hF
  refine r_aload_n f_TE_clear_0 rfl ?_
  refine r_iconst f_TE_clear_1 (v := 0) (by decide) ?_
  refine t_puti hB ha0 f_TE_clear_2 rfl rfl ?_
  generalize hs1 : setI σ (a0) 1 ((0 : Int32)) = s1 at hF ⊢
  rw [stl_eq] at hF
  cases hF
  exact r_return f_TE_clear_5 hQ
theorem f_Vf_findBeginnings_0 : fetch 176 0 = some (.iconst 0, 1, 0, 0, 0) := rfl
theorem f_Vf_findBeginnings_1 : fetch 176 1 = some (.istore_n 1, 1, 0, 0, 0) := rfl
theorem f_Vf_findBeginnings_2 : fetch 176 2 = some (.iload_n 1, 1, 0, 0, 0) := rfl
theorem f_Vf_findBeginnings_3 : fetch 176 3 = some (.aload_n 0, 1, 0, 0, 0) := rfl
theorem f_Vf_findBeginnings_4 : fetch 176 4 = some (.getfield 19, 3, 6, 1, 146) := rfl
theorem f_Vf_findBeginnings_7 : fetch 176 7 = some (.getfield 61, 3, 2, 4, 152) := rfl
theorem f_Vf_findBeginnings_10 : fetch 176 10 = some (.if_icmp .ge 26, 3, 36, 0, 0) := rfl
theorem f_Vf_findBeginnings_13 : fetch 176 13 = some (.aload_n 0, 1, 0, 0, 0) := rfl
theorem f_Vf_findBeginnings_14 : fetch 176 14 = some (.getfield 25, 3, 6, 2, 147) := rfl
theorem f_Vf_findBeginnings_17 : fetch 176 17 = some (.iload_n 1, 1, 0, 0, 0) := rfl
theorem f_Vf_findBeginnings_18 : fetch 176 18 = some (.iconst 0, 1, 0, 0, 0) := rfl
theorem f_Vf_findBeginnings_19 : fetch 176 19 = some (.bastore, 1, 0, 0, 0) := rfl
theorem f_Vf_findBeginnings_20 : fetch 176 20 = some (.aload_n 0, 1, 0, 0, 0) := rfl
theorem f_Vf_findBeginnings_21 : fetch 176 21 = some (.getfield 19, 3, 6, 1, 146) := rfl
theorem f_Vf_findBeginnings_24 : fetch 176 24 = some (.getfield 64, 3, 2, 10, 153) := rfl
theorem f_Vf_findBeginnings_27 : fetch 176 27 = some (.iload_n 1, 1, 0, 0, 0) := rfl
theorem f_Vf_findBeginnings_28 : fetch 176 28 = some (.iconst (-1), 1, 0, 0, 0) := rfl
theorem f_Vf_findBeginnings_29 : fetch 176 29 = some (.iastore, 1, 0, 0, 0) := rfl
theorem f_Vf_findBeginnings_30 : fetch 176 30 = some (.iinc 1 1, 3, 0, 0, 0) := rfl
theorem f_Vf_findBeginnings_33 : fetch 176 33 = some (.goto (-31), 3, 2, 0, 0) := rfl
theorem f_Vf_findBeginnings_36 : fetch 176 36 = some (.iconst 0, 1, 0, 0, 0) := rfl
theorem f_Vf_findBeginnings_37 : fetch 176 37 = some (.istore_n 1, 1, 0, 0, 0) := rfl
theorem f_Vf_findBeginnings_38 : fetch 176 38 = some (.iload_n 1, 1, 0, 0, 0) := rfl
theorem f_Vf_findBeginnings_39 : fetch 176 39 = some (.aload_n 0, 1, 0, 0, 0) := rfl
theorem f_Vf_findBeginnings_40 : fetch 176 40 = some (.getfield 19, 3, 6, 1, 146) := rfl
theorem f_Vf_findBeginnings_43 : fetch 176 43 = some (.getfield 61, 3, 2, 4, 152) := rfl
theorem f_Vf_findBeginnings_46 : fetch 176 46 = some (.if_icmp .ge 39, 3, 85, 0, 0) := rfl
theorem f_Vf_findBeginnings_49 : fetch 176 49 = some (.aload_n 0, 1, 0, 0, 0) := rfl
theorem f_Vf_findBeginnings_50 : fetch 176 50 = some (.getfield 19, 3, 6, 1, 146) := rfl
theorem f_Vf_findBeginnings_53 : fetch 176 53 = some (.getfield 67, 3, 2, 8, 154) := rfl
theorem f_Vf_findBeginnings_56 : fetch 176 56 = some (.iload_n 1, 1, 0, 0, 0) := rfl
theorem f_Vf_findBeginnings_57 : fetch 176 57 = some (.iaload, 1, 0, 0, 0) := rfl
theorem f_Vf_findBeginnings_58 : fetch 176 58 = some (.istore_n 2, 1, 0, 0, 0) := rfl
theorem f_Vf_findBeginnings_59 : fetch 176 59 = some (.iload_n 2, 1, 0, 0, 0) := rfl
theorem f_Vf_findBeginnings_60 : fetch 176 60 = some (.invokestatic 70, 3, 101, 1, 188) := rfl
theorem f_Vf_findBeginnings_63 : fetch 176 63 = some (.ifCond .ne 5, 3, 68, 0, 0) := rfl
theorem f_Vf_findBeginnings_66 : fetch 176 66 = some (.iconst 0, 1, 0, 0, 0) := rfl
theorem f_Vf_findBeginnings_67 : fetch 176 67 = some (.ireturn, 1, 2, 0, 0) := rfl
theorem f_Vf_findBeginnings_68 : fetch 176 68 = some (.aload_n 0, 1, 0, 0, 0) := rfl
theorem f_Vf_findBeginnings_69 : fetch 176 69 = some (.getfield 25, 3, 6, 2, 147) := rfl
theorem f_Vf_findBeginnings_72 : fetch 176 72 = some (.iload_n 1, 1, 0, 0, 0) := rfl
theorem f_Vf_findBeginnings_73 : fetch 176 73 = some (.iconst 1, 1, 0, 0, 0) := rfl
theorem f_Vf_findBeginnings_74 : fetch 176 74 = some (.bastore, 1, 0, 0, 0) := rfl
theorem f_Vf_findBeginnings_75 : fetch 176 75 = some (.iload_n 1, 1, 0, 0, 0) := rfl
theorem f_Vf_findBeginnings_76 : fetch 176 76 = some (.iload_n 2, 1, 0, 0, 0) := rfl
theorem f_Vf_findBeginnings_77 : fetch 176 77 = some (.invokestatic 75, 3, 102, 1, 189) := rfl
theorem f_Vf_findBeginnings_80 : fetch 176 80 = some (.iadd, 1, 0, 0, 0) := rfl
theorem f_Vf_findBeginnings_81 : fetch 176 81 = some (.istore_n 1, 1, 0, 0, 0) := rfl
theorem f_Vf_findBeginnings_82 : fetch 176 82 = some (.goto (-44), 3, 38, 0, 0) := rfl
theorem f_Vf_findBeginnings_85 : fetch 176 85 = some (.iload_n 1, 1, 0, 0, 0) := rfl
theorem f_Vf_findBeginnings_86 : fetch 176 86 = some (.aload_n 0, 1, 0, 0, 0) := rfl
theorem f_Vf_findBeginnings_87 : fetch 176 87 = some (.getfield 19, 3, 6, 1, 146) := rfl
theorem f_Vf_findBeginnings_90 : fetch 176 90 = some (.getfield 61, 3, 2, 4, 152) := rfl
theorem f_Vf_findBeginnings_93 : fetch 176 93 = some (.if_icmp .ne 7, 3, 100, 0, 0) := rfl
theorem f_Vf_findBeginnings_96 : fetch 176 96 = some (.iconst 1, 1, 0, 0, 0) := rfl
theorem f_Vf_findBeginnings_97 : fetch 176 97 = some (.goto 4, 3, 101, 0, 0) := rfl
theorem f_Vf_findBeginnings_100 : fetch 176 100 = some (.iconst 0, 1, 0, 0, 0) := rfl
theorem f_Vf_findBeginnings_101 : fetch 176 101 = some (.ireturn, 1, 2, 0, 0) := rfl
def F_Vf_findBeginnings_101  (y0 : Bool) (σ : SG) : Option (Bool × SG) :=
  some (y0, σ)
set_option maxHeartbeats 4000000 in
theorem w_Vf_findBeginnings_101 {b d : Nat} {sc : SC} {pre tl : List PE} {B : Nat} {Q : Option Value → List PE → Prop} {res : Bool × SG} (hB : B = b + pre.length) (hd : 1 ≤ d)   (hQ : Q (some (.int (bz res.1))) (HH pre tl SHc B res.2)) (lv : LV) (σ : SG) (y0 : Bool)  (hF : F_Vf_findBeginnings_101  y0 σ = some res) : Rn b sc d 176 101 lv [.int (bz (y0))] (HH pre tl SHc B σ) Q := by
  obtain ⟨e0, rfl⟩ : ∃ e, d = e + 1 := ⟨d - 1, by omega⟩
  unfold F_Vf_findBeginnings_101 at hF
  cases hF
  exact r_zreturn f_Vf_findBeginnings_101 (bz_or (y0)) hQ
def F_Vf_findBeginnings_38  : Nat → Nat → Int32 → SG → Option (Bool × SG)
  | 0, _, _, _ => none
  | n + 1, x0, x1, σ =>
  if isC SHc ((σ.2.2.1 (x0) 1)) 2 = true then
  if (σ.1 ((σ.2.2.1 (x0) 1)) 4) ≤ x1 then
  if isC SHc ((σ.2.2.1 (x0) 1)) 2 = true then
  if x1 = (σ.1 ((σ.2.2.1 (x0) 1)) 4) then
  F_Vf_findBeginnings_101 (true) σ
  else F_Vf_findBeginnings_101 (false) σ
  else none
  else if isC SHc ((σ.2.2.1 (x0) 1)) 2 = true then
  if x1 < 0 ∨ 100 ≤ (x1).toNatClampNeg then none else
  match F_Op_isKnown ((σ.2.2.2.1 ((cref SHc ((σ.2.2.1 (x0) 1)) 8)) ((x1).toNatClampNeg))) σ with
  | none => none
  | some q7 =>
  if q7.1 = true then
  if x1 < 0 ∨ 100 ≤ (x1).toNatClampNeg then none else
  stl (setA q7.2 ((cref SHc (x0) 2)) ((x1).toNatClampNeg) (bz (true))) fun s10 =>
  match F_Op_width ((σ.2.2.2.1 ((cref SHc ((σ.2.2.1 (x0) 1)) 8)) ((x1).toNatClampNeg))) s10 with
  | none => none
  | some q11 =>
  F_Vf_findBeginnings_38  n (x0) ((x1 + q11.1)) q11.2
  else some (false, q7.2)
  else none
  else none
set_option maxHeartbeats 4000000 in
theorem w_Vf_findBeginnings_38 {b d : Nat} {sc : SC} {pre tl : List PE} {B : Nat} {Q : Option Value → List PE → Prop} {res : Bool × SG} (hB : B = b + pre.length) (hd : 1 ≤ d)   (hQ : Q (some (.int (bz res.1))) (HH pre tl SHc B res.2)) : ∀ (n : Nat) (lv : LV) (σ : SG) (x0 : Nat) (x1 : Int32), isC SHc (x0) 6 = true → lv.lookup 0 = some (.ref (B + (x0))) → lv.lookup 1 = some (.int (x1)) → F_Vf_findBeginnings_38  n x0 x1 σ = some res → Rn b sc d 176 38 lv [] (HH pre tl SHc B σ) Q := by
  obtain ⟨e0, rfl⟩ : ∃ e, d = e + 1 := ⟨d - 1, by omega⟩
  intro n
  induction n with
  | zero => intro lv σ x0 x1 hx0 l0 l1 hF; cases hF
  | succ n ih =>
    intro lv σ x0 x1 hx0 l0 l1 hF
    unfold F_Vf_findBeginnings_38 at hF
    refine r_iload_n f_Vf_findBeginnings_38 l1 ?_
    refine r_aload_n f_Vf_findBeginnings_39 l0 ?_
    by_cases c1 : isC SHc ((σ.2.2.1 (x0) 1)) 2 = true
    case neg => rw [if_neg c1] at hF; cases hF
    rw [if_pos c1] at hF
    refine t_getm hB hx0 f_Vf_findBeginnings_40 rfl ?_
    refine t_geti hB c1 f_Vf_findBeginnings_43 rfl ?_
    refine r_icmp_ge f_Vf_findBeginnings_46 (fun c2 => ?_) (fun c2 => ?_)
    · rw [if_pos c2] at hF
      refine r_iload_n f_Vf_findBeginnings_85 l1 ?_
      refine r_aload_n f_Vf_findBeginnings_86 l0 ?_
      by_cases c3 : isC SHc ((σ.2.2.1 (x0) 1)) 2 = true
      case neg => rw [if_neg c3] at hF; cases hF
      rw [if_pos c3] at hF
      refine t_getm hB hx0 f_Vf_findBeginnings_87 rfl ?_
      refine t_geti hB c3 f_Vf_findBeginnings_90 rfl ?_
      refine r_icmp_ne f_Vf_findBeginnings_93 (fun c4 => ?_) (fun c4 => ?_)
      · rw [if_neg c4] at hF
        refine r_iconst f_Vf_findBeginnings_100 (v := 0) (by decide) ?_
        exact w_Vf_findBeginnings_101 hB hd  hQ _ (σ) (false) hF
      · rw [if_pos (Decidable.not_not.mp c4)] at hF
        refine r_iconst f_Vf_findBeginnings_96 (v := 1) (by decide) ?_
        refine r_goto f_Vf_findBeginnings_97 ?_
        exact w_Vf_findBeginnings_101 hB hd  hQ _ (σ) (true) hF
    · rw [if_neg c2] at hF
      refine r_aload_n f_Vf_findBeginnings_49 l0 ?_
      by_cases c5 : isC SHc ((σ.2.2.1 (x0) 1)) 2 = true
      case neg => rw [if_neg c5] at hF; cases hF
      rw [if_pos c5] at hF
      refine t_getm hB hx0 f_Vf_findBeginnings_50 rfl ?_
      refine t_getc hB c5 f_Vf_findBeginnings_53 rfl ?_
      refine r_iload_n f_Vf_findBeginnings_56 l1 ?_
      by_cases c6 : x1 < 0 ∨ 100 ≤ (x1).toNatClampNeg
      · rw [if_pos c6] at hF; cases hF
      rw [if_neg c6] at hF
      refine t_iald hB (cc_2_8 c5) f_Vf_findBeginnings_57 c6 ?_
      refine r_istore_n f_Vf_findBeginnings_58 ?_
      refine r_iload_n f_Vf_findBeginnings_59 lk_put ?_
      cases hq7 : F_Op_isKnown ((σ.2.2.2.1 ((cref SHc ((σ.2.2.1 (x0) 1)) 8)) ((x1).toNatClampNeg))) σ with
      | none => simp only [hq7] at hF; cases hF
      | some q7 =>
        simp only [hq7] at hF
        refine t_S1i f_Vf_findBeginnings_60 (by decide) (Nat.le_of_ble_eq_true rfl) (Nat.le_of_ble_eq_true rfl) (w_Op_isKnown hB  ((σ.2.2.2.1 ((cref SHc ((σ.2.2.1 (x0) 1)) 8)) ((x1).toNatClampNeg)))  hq7 ⟨_, rfl, ?_⟩)
        refine r_if_ne f_Vf_findBeginnings_63 (fun c8 => ?_) (fun c8 => ?_)
        · rw [if_pos (bz_t c8)] at hF
          refine r_aload_n f_Vf_findBeginnings_68 (lk_put_ne l0 (by decide) (Or.inl rfl)) ?_
          refine t_getc hB hx0 f_Vf_findBeginnings_69 rfl ?_
          refine r_iload_n f_Vf_findBeginnings_72 (lk_put_ne l1 (by decide) (Or.inl rfl)) ?_
          refine r_iconst f_Vf_findBeginnings_73 (v := 1) (by decide) ?_
          by_cases c9 : x1 < 0 ∨ 100 ≤ (x1).toNatClampNeg
          · rw [if_pos c9] at hF; cases hF
          rw [if_neg c9] at hF
          refine t_bast (v := true) hB (cc_6_2 hx0) f_Vf_findBeginnings_74 c9 ?_
          generalize hs10 : setA q7.2 ((cref SHc (x0) 2)) ((x1).toNatClampNeg) (bz (true)) = s10 at hF ⊢
          rw [stl_eq] at hF
          refine r_iload_n f_Vf_findBeginnings_75 (lk_put_ne l1 (by decide) (Or.inl rfl)) ?_
          refine r_iload_n f_Vf_findBeginnings_76 lk_put ?_
          cases hq11 : F_Op_width ((σ.2.2.2.1 ((cref SHc ((σ.2.2.1 (x0) 1)) 8)) ((x1).toNatClampNeg))) s10 with
          | none => simp only [hq11] at hF; cases hF
          | some q11 =>
            simp only [hq11] at hF
            refine t_S1i f_Vf_findBeginnings_77 (by decide) (Nat.le_of_ble_eq_true rfl) (Nat.le_of_ble_eq_true rfl) (w_Op_width hB  ((σ.2.2.2.1 ((cref SHc ((σ.2.2.1 (x0) 1)) 8)) ((x1).toNatClampNeg)))  hq11 ⟨_, rfl, ?_⟩)
            refine r_iadd f_Vf_findBeginnings_80 ?_
            refine r_istore_n f_Vf_findBeginnings_81 ?_
            refine r_goto f_Vf_findBeginnings_82 ?_
            exact ih _ (q11.2) (x0) ((x1 + q11.1)) hx0 (lk_put_ne (lk_put_ne l0 (by decide) (Or.inl rfl)) (by decide) (Or.inl rfl)) lk_put hF
        · rw [if_neg (bz_nt (Decidable.not_not.mp c8))] at hF
          refine r_iconst f_Vf_findBeginnings_66 (v := 0) (by decide) ?_
          cases hF
          exact r_zreturn f_Vf_findBeginnings_67 (bz_or (false)) hQ
def F_Vf_findBeginnings_2  : Nat → Nat → Int32 → SG → Option (Bool × SG)
  | 0, _, _, _ => none
  | n + 1, x0, x1, σ =>
  if isC SHc ((σ.2.2.1 (x0) 1)) 2 = true then
  if (σ.1 ((σ.2.2.1 (x0) 1)) 4) ≤ x1 then
  F_Vf_findBeginnings_38  5000 (x0) ((0 : Int32)) σ
  else if x1 < 0 ∨ 100 ≤ (x1).toNatClampNeg then none else
  stl (setA σ ((cref SHc (x0) 2)) ((x1).toNatClampNeg) (bz (false))) fun s15 =>
  if isC SHc ((s15.2.2.1 (x0) 1)) 2 = true then
  if x1 < 0 ∨ 100 ≤ (x1).toNatClampNeg then none else
  stl (setA s15 ((cref SHc ((s15.2.2.1 (x0) 1)) 10)) ((x1).toNatClampNeg) (((-1) : Int32))) fun s18 =>
  F_Vf_findBeginnings_2  n (x0) ((x1 + 1)) s18
  else none
  else none
set_option maxHeartbeats 4000000 in
theorem w_Vf_findBeginnings_2 {b d : Nat} {sc : SC} {pre tl : List PE} {B : Nat} {Q : Option Value → List PE → Prop} {res : Bool × SG} (hB : B = b + pre.length) (hd : 1 ≤ d)   (hQ : Q (some (.int (bz res.1))) (HH pre tl SHc B res.2)) : ∀ (n : Nat) (lv : LV) (σ : SG) (x0 : Nat) (x1 : Int32), isC SHc (x0) 6 = true → lv.lookup 0 = some (.ref (B + (x0))) → lv.lookup 1 = some (.int (x1)) → F_Vf_findBeginnings_2  n x0 x1 σ = some res → Rn b sc d 176 2 lv [] (HH pre tl SHc B σ) Q := by
  obtain ⟨e0, rfl⟩ : ∃ e, d = e + 1 := ⟨d - 1, by omega⟩
  intro n
  induction n with
  | zero => intro lv σ x0 x1 hx0 l0 l1 hF; cases hF
  | succ n ih =>
    intro lv σ x0 x1 hx0 l0 l1 hF
    unfold F_Vf_findBeginnings_2 at hF
    refine r_iload_n f_Vf_findBeginnings_2 l1 ?_
    refine r_aload_n f_Vf_findBeginnings_3 l0 ?_
    by_cases c12 : isC SHc ((σ.2.2.1 (x0) 1)) 2 = true
    case neg => rw [if_neg c12] at hF; cases hF
    rw [if_pos c12] at hF
    refine t_getm hB hx0 f_Vf_findBeginnings_4 rfl ?_
    refine t_geti hB c12 f_Vf_findBeginnings_7 rfl ?_
    refine r_icmp_ge f_Vf_findBeginnings_10 (fun c13 => ?_) (fun c13 => ?_)
    · rw [if_pos c13] at hF
      refine r_iconst f_Vf_findBeginnings_36 (v := 0) (by decide) ?_
      refine r_istore_n f_Vf_findBeginnings_37 ?_
      exact w_Vf_findBeginnings_38 hB hd  hQ 5000 _ (σ) (x0) ((0 : Int32)) hx0 (lk_put_ne l0 (by decide) (Or.inl rfl)) lk_put hF
    · rw [if_neg c13] at hF
      refine r_aload_n f_Vf_findBeginnings_13 l0 ?_
      refine t_getc hB hx0 f_Vf_findBeginnings_14 rfl ?_
      refine r_iload_n f_Vf_findBeginnings_17 l1 ?_
      refine r_iconst f_Vf_findBeginnings_18 (v := 0) (by decide) ?_
      by_cases c14 : x1 < 0 ∨ 100 ≤ (x1).toNatClampNeg
      · rw [if_pos c14] at hF; cases hF
      rw [if_neg c14] at hF
      refine t_bast (v := false) hB (cc_6_2 hx0) f_Vf_findBeginnings_19 c14 ?_
      generalize hs15 : setA σ ((cref SHc (x0) 2)) ((x1).toNatClampNeg) (bz (false)) = s15 at hF ⊢
      rw [stl_eq] at hF
      refine r_aload_n f_Vf_findBeginnings_20 l0 ?_
      by_cases c16 : isC SHc ((s15.2.2.1 (x0) 1)) 2 = true
      case neg => rw [if_neg c16] at hF; cases hF
      rw [if_pos c16] at hF
      refine t_getm hB hx0 f_Vf_findBeginnings_21 rfl ?_
      refine t_getc hB c16 f_Vf_findBeginnings_24 rfl ?_
      refine r_iload_n f_Vf_findBeginnings_27 l1 ?_
      refine r_iconst f_Vf_findBeginnings_28 (v := (-1)) (by decide) ?_
      by_cases c17 : x1 < 0 ∨ 100 ≤ (x1).toNatClampNeg
      · rw [if_pos c17] at hF; cases hF
      rw [if_neg c17] at hF
      refine t_iast hB (cc_2_10 c16) f_Vf_findBeginnings_29 c17 ?_
      generalize hs18 : setA s15 ((cref SHc ((s15.2.2.1 (x0) 1)) 10)) ((x1).toNatClampNeg) (((-1) : Int32)) = s18 at hF ⊢
      rw [stl_eq] at hF
      refine r_iinc f_Vf_findBeginnings_30 l1 (w := x1 + 1) rfl ?_
      refine r_goto f_Vf_findBeginnings_33 ?_
      exact ih _ (s18) (x0) ((x1 + 1)) hx0 (lk_put_ne l0 (by decide) (Or.inl rfl)) lk_put hF
def F_Vf_findBeginnings (a0 : Nat) (σ : SG) : Option (Bool × SG) :=
  F_Vf_findBeginnings_2  5000 (a0) ((0 : Int32)) σ
set_option maxHeartbeats 4000000 in
theorem w_Vf_findBeginnings {b d : Nat} {pre tl : List PE} {B : Nat} {Q : Option Value → List PE → Prop} {res : Bool × SG} (hB : B = b + pre.length) (hd : 1 ≤ d)  {σ : SG} (a0 : Nat) (ha0 : isC SHc (a0) 6 = true) (hF : F_Vf_findBeginnings a0 σ = some res) (hQ : Q (some (.int (bz res.1))) (HH pre tl SHc B res.2)) : Cl b d 176 [.ref (B + (a0))] (HH pre tl SHc B σ) Q := by
  obtain ⟨e0, rfl⟩ : ∃ e, d = e + 1 := ⟨d - 1, by omega⟩
  unfold Cl
  unfold F_Vf_findBeginnings at hF
  refine r_iconst f_Vf_findBeginnings_0 (v := 0) (by decide) ?_
  refine r_istore_n f_Vf_findBeginnings_1 ?_
  exact w_Vf_findBeginnings_2 hB hd  hQ 5000 _ (σ) (a0) ((0 : Int32)) ha0 (lk_put_ne rfl (by decide) (Or.inl rfl)) lk_put hF
theorem f_Vf_beginsAt_0 : fetch 179 0 = some (.iload_n 1, 1, 0, 0, 0) := rfl
theorem f_Vf_beginsAt_1 : fetch 179 1 = some (.ifCond .lt 27, 3, 28, 0, 0) := rfl
theorem f_Vf_beginsAt_4 : fetch 179 4 = some (.iload_n 1, 1, 0, 0, 0) := rfl
theorem f_Vf_beginsAt_5 : fetch 179 5 = some (.aload_n 0, 1, 0, 0, 0) := rfl
theorem f_Vf_beginsAt_6 : fetch 179 6 = some (.getfield 19, 3, 6, 1, 146) := rfl
theorem f_Vf_beginsAt_9 : fetch 179 9 = some (.getfield 61, 3, 2, 4, 152) := rfl
theorem f_Vf_beginsAt_12 : fetch 179 12 = some (.if_icmp .ge 16, 3, 28, 0, 0) := rfl
theorem f_Vf_beginsAt_15 : fetch 179 15 = some (.aload_n 0, 1, 0, 0, 0) := rfl
theorem f_Vf_beginsAt_16 : fetch 179 16 = some (.getfield 25, 3, 6, 2, 147) := rfl
theorem f_Vf_beginsAt_19 : fetch 179 19 = some (.iload_n 1, 1, 0, 0, 0) := rfl
theorem f_Vf_beginsAt_20 : fetch 179 20 = some (.baload, 1, 0, 0, 0) := rfl
theorem f_Vf_beginsAt_21 : fetch 179 21 = some (.ifCond .eq 7, 3, 28, 0, 0) := rfl
theorem f_Vf_beginsAt_24 : fetch 179 24 = some (.iconst 1, 1, 0, 0, 0) := rfl
theorem f_Vf_beginsAt_25 : fetch 179 25 = some (.goto 4, 3, 29, 0, 0) := rfl
theorem f_Vf_beginsAt_28 : fetch 179 28 = some (.iconst 0, 1, 0, 0, 0) := rfl
theorem f_Vf_beginsAt_29 : fetch 179 29 = some (.ireturn, 1, 2, 0, 0) := rfl
def F_Vf_beginsAt_29  (y0 : Bool) (σ : SG) : Option (Bool × SG) :=
  some (y0, σ)
set_option maxHeartbeats 4000000 in
theorem w_Vf_beginsAt_29 {b d : Nat} {sc : SC} {pre tl : List PE} {B : Nat} {Q : Option Value → List PE → Prop} {res : Bool × SG} (hB : B = b + pre.length)   (hQ : Q (some (.int (bz res.1))) (HH pre tl SHc B res.2)) (lv : LV) (σ : SG) (y0 : Bool)  (hF : F_Vf_beginsAt_29  y0 σ = some res) : Rn b sc d 179 29 lv [.int (bz (y0))] (HH pre tl SHc B σ) Q := by
  unfold F_Vf_beginsAt_29 at hF
  cases hF
  exact r_zreturn f_Vf_beginsAt_29 (bz_or (y0)) hQ
def F_Vf_beginsAt_28   (σ : SG) : Option (Bool × SG) :=
  F_Vf_beginsAt_29 (false) σ
set_option maxHeartbeats 4000000 in
theorem w_Vf_beginsAt_28 {b d : Nat} {sc : SC} {pre tl : List PE} {B : Nat} {Q : Option Value → List PE → Prop} {res : Bool × SG} (hB : B = b + pre.length)   (hQ : Q (some (.int (bz res.1))) (HH pre tl SHc B res.2)) (lv : LV) (σ : SG)   (hF : F_Vf_beginsAt_28   σ = some res) : Rn b sc d 179 28 lv [] (HH pre tl SHc B σ) Q := by
  unfold F_Vf_beginsAt_28 at hF
  refine r_iconst f_Vf_beginsAt_28 (v := 0) (by decide) ?_
  exact w_Vf_beginsAt_29 hB   hQ _ (σ) (false) hF
def F_Vf_beginsAt (a0 : Nat) (a1 : Int32) (σ : SG) : Option (Bool × SG) :=
  if a1 < 0 then
  F_Vf_beginsAt_28 σ
  else if isC SHc ((σ.2.2.1 (a0) 1)) 2 = true then
  if (σ.1 ((σ.2.2.1 (a0) 1)) 4) ≤ a1 then
  F_Vf_beginsAt_28 σ
  else if a1 < 0 ∨ 100 ≤ (a1).toNatClampNeg then none else
  if (zb (σ.2.2.2.1 ((cref SHc (a0) 2)) ((a1).toNatClampNeg))) = true then
  F_Vf_beginsAt_29 (true) σ
  else F_Vf_beginsAt_28 σ
  else none
set_option maxHeartbeats 4000000 in
theorem w_Vf_beginsAt {b d : Nat} {pre tl : List PE} {B : Nat} {Q : Option Value → List PE → Prop} {res : Bool × SG} (hB : B = b + pre.length)  {σ : SG} (a0 : Nat) (a1 : Int32) (ha0 : isC SHc (a0) 6 = true) (hF : F_Vf_beginsAt a0 a1 σ = some res) (hQ : Q (some (.int (bz res.1))) (HH pre tl SHc B res.2)) : Cl b d 179 [.ref (B + (a0)), .int (a1)] (HH pre tl SHc B σ) Q := by
  unfold Cl
  unfold F_Vf_beginsAt at hF
  refine r_iload_n f_Vf_beginsAt_0 rfl ?_
  refine r_if_lt f_Vf_beginsAt_1 (fun c1 => ?_) (fun c1 => ?_)
  · rw [if_pos c1] at hF
    exact w_Vf_beginsAt_28 hB   hQ _ (σ) hF
  · rw [if_neg c1] at hF
    refine r_iload_n f_Vf_beginsAt_4 rfl ?_
    refine r_aload_n f_Vf_beginsAt_5 rfl ?_
    by_cases c2 : isC SHc ((σ.2.2.1 (a0) 1)) 2 = true
    case neg => rw [if_neg c2] at hF; cases hF
    rw [if_pos c2] at hF
    refine t_getm hB ha0 f_Vf_beginsAt_6 rfl ?_
    refine t_geti hB c2 f_Vf_beginsAt_9 rfl ?_
    refine r_icmp_ge f_Vf_beginsAt_12 (fun c3 => ?_) (fun c3 => ?_)
    · rw [if_pos c3] at hF
      exact w_Vf_beginsAt_28 hB   hQ _ (σ) hF
    · rw [if_neg c3] at hF
      refine r_aload_n f_Vf_beginsAt_15 rfl ?_
      refine t_getc hB ha0 f_Vf_beginsAt_16 rfl ?_
      refine r_iload_n f_Vf_beginsAt_19 rfl ?_
      by_cases c4 : a1 < 0 ∨ 100 ≤ (a1).toNatClampNeg
      · rw [if_pos c4] at hF; cases hF
      rw [if_neg c4] at hF
      refine t_bald hB (cc_6_2 ha0) f_Vf_beginsAt_20 c4 ?_
      refine r_if_eq f_Vf_beginsAt_21 (fun c5 => ?_) (fun c5 => ?_)
      · rw [if_neg (bz_nt c5)] at hF
        exact w_Vf_beginsAt_28 hB   hQ _ (σ) hF
      · rw [if_pos (bz_t c5)] at hF
        refine r_iconst f_Vf_beginsAt_24 (v := 1) (by decide) ?_
        refine r_goto f_Vf_beginsAt_25 ?_
        exact w_Vf_beginsAt_29 hB   hQ _ (σ) (true) hF
theorem f_Vf_isWellMade_0 : fetch 178 0 = some (.aload_n 1, 1, 0, 0, 0) := rfl
theorem f_Vf_isWellMade_1 : fetch 178 1 = some (.getfield 95, 3, 4, 0, 157) := rfl
theorem f_Vf_isWellMade_4 : fetch 178 4 = some (.aload_n 1, 1, 0, 0, 0) := rfl
theorem f_Vf_isWellMade_5 : fetch 178 5 = some (.getfield 98, 3, 4, 1, 158) := rfl
theorem f_Vf_isWellMade_8 : fetch 178 8 = some (.if_icmp .ge 18, 3, 26, 0, 0) := rfl
theorem f_Vf_isWellMade_11 : fetch 178 11 = some (.aload_n 1, 1, 0, 0, 0) := rfl
theorem f_Vf_isWellMade_12 : fetch 178 12 = some (.getfield 98, 3, 4, 1, 158) := rfl
theorem f_Vf_isWellMade_15 : fetch 178 15 = some (.aload_n 1, 1, 0, 0, 0) := rfl
theorem f_Vf_isWellMade_16 : fetch 178 16 = some (.getfield 101, 3, 4, 2, 159) := rfl
theorem f_Vf_isWellMade_19 : fetch 178 19 = some (.if_icmp .ge 7, 3, 26, 0, 0) := rfl
theorem f_Vf_isWellMade_22 : fetch 178 22 = some (.iconst 1, 1, 0, 0, 0) := rfl
theorem f_Vf_isWellMade_23 : fetch 178 23 = some (.goto 4, 3, 27, 0, 0) := rfl
theorem f_Vf_isWellMade_26 : fetch 178 26 = some (.iconst 0, 1, 0, 0, 0) := rfl
theorem f_Vf_isWellMade_27 : fetch 178 27 = some (.istore_n 2, 1, 0, 0, 0) := rfl
theorem f_Vf_isWellMade_28 : fetch 178 28 = some (.aload_n 1, 1, 0, 0, 0) := rfl
theorem f_Vf_isWellMade_29 : fetch 178 29 = some (.getfield 101, 3, 4, 2, 159) := rfl
theorem f_Vf_isWellMade_32 : fetch 178 32 = some (.aload_n 0, 1, 0, 0, 0) := rfl
theorem f_Vf_isWellMade_33 : fetch 178 33 = some (.getfield 19, 3, 6, 1, 146) := rfl
theorem f_Vf_isWellMade_36 : fetch 178 36 = some (.getfield 61, 3, 2, 4, 152) := rfl
theorem f_Vf_isWellMade_39 : fetch 178 39 = some (.if_icmp .eq 14, 3, 53, 0, 0) := rfl
theorem f_Vf_isWellMade_42 : fetch 178 42 = some (.aload_n 0, 1, 0, 0, 0) := rfl
theorem f_Vf_isWellMade_43 : fetch 178 43 = some (.aload_n 1, 1, 0, 0, 0) := rfl
theorem f_Vf_isWellMade_44 : fetch 178 44 = some (.getfield 101, 3, 4, 2, 159) := rfl
theorem f_Vf_isWellMade_47 : fetch 178 47 = some (.invokevirtual 104, 3, 179, 1, 192) := rfl
theorem f_Vf_isWellMade_50 : fetch 178 50 = some (.ifCond .eq 7, 3, 57, 0, 0) := rfl
theorem f_Vf_isWellMade_53 : fetch 178 53 = some (.iconst 1, 1, 0, 0, 0) := rfl
theorem f_Vf_isWellMade_54 : fetch 178 54 = some (.goto 4, 3, 58, 0, 0) := rfl
theorem f_Vf_isWellMade_57 : fetch 178 57 = some (.iconst 0, 1, 0, 0, 0) := rfl
theorem f_Vf_isWellMade_58 : fetch 178 58 = some (.istore_n 3, 1, 0, 0, 0) := rfl
theorem f_Vf_isWellMade_59 : fetch 178 59 = some (.iload_n 2, 1, 0, 0, 0) := rfl
theorem f_Vf_isWellMade_60 : fetch 178 60 = some (.ifCond .eq 33, 3, 93, 0, 0) := rfl
theorem f_Vf_isWellMade_63 : fetch 178 63 = some (.iload_n 3, 1, 0, 0, 0) := rfl
theorem f_Vf_isWellMade_64 : fetch 178 64 = some (.ifCond .eq 29, 3, 93, 0, 0) := rfl
theorem f_Vf_isWellMade_67 : fetch 178 67 = some (.aload_n 0, 1, 0, 0, 0) := rfl
theorem f_Vf_isWellMade_68 : fetch 178 68 = some (.aload_n 1, 1, 0, 0, 0) := rfl
theorem f_Vf_isWellMade_69 : fetch 178 69 = some (.getfield 95, 3, 4, 0, 157) := rfl
theorem f_Vf_isWellMade_72 : fetch 178 72 = some (.invokevirtual 104, 3, 179, 1, 192) := rfl
theorem f_Vf_isWellMade_75 : fetch 178 75 = some (.ifCond .eq 18, 3, 93, 0, 0) := rfl
theorem f_Vf_isWellMade_78 : fetch 178 78 = some (.aload_n 0, 1, 0, 0, 0) := rfl
theorem f_Vf_isWellMade_79 : fetch 178 79 = some (.aload_n 1, 1, 0, 0, 0) := rfl
theorem f_Vf_isWellMade_80 : fetch 178 80 = some (.getfield 98, 3, 4, 1, 158) := rfl
theorem f_Vf_isWellMade_83 : fetch 178 83 = some (.invokevirtual 104, 3, 179, 1, 192) := rfl
theorem f_Vf_isWellMade_86 : fetch 178 86 = some (.ifCond .eq 7, 3, 93, 0, 0) := rfl
theorem f_Vf_isWellMade_89 : fetch 178 89 = some (.iconst 1, 1, 0, 0, 0) := rfl
theorem f_Vf_isWellMade_90 : fetch 178 90 = some (.goto 4, 3, 94, 0, 0) := rfl
theorem f_Vf_isWellMade_93 : fetch 178 93 = some (.iconst 0, 1, 0, 0, 0) := rfl
theorem f_Vf_isWellMade_94 : fetch 178 94 = some (.ireturn, 1, 2, 0, 0) := rfl
def F_Vf_isWellMade_94  (y0 : Bool) (σ : SG) : Option (Bool × SG) :=
  some (y0, σ)
set_option maxHeartbeats 4000000 in
theorem w_Vf_isWellMade_94 {b d : Nat} {sc : SC} {pre tl : List PE} {B : Nat} {Q : Option Value → List PE → Prop} {res : Bool × SG} (hB : B = b + pre.length) (hd : 1 ≤ d)   (hQ : Q (some (.int (bz res.1))) (HH pre tl SHc B res.2)) (lv : LV) (σ : SG) (y0 : Bool)  (hF : F_Vf_isWellMade_94  y0 σ = some res) : Rn b sc d 178 94 lv [.int (bz (y0))] (HH pre tl SHc B σ) Q := by
  obtain ⟨e0, rfl⟩ : ∃ e, d = e + 1 := ⟨d - 1, by omega⟩
  unfold F_Vf_isWellMade_94 at hF
  cases hF
  exact r_zreturn f_Vf_isWellMade_94 (bz_or (y0)) hQ
def F_Vf_isWellMade_93   (σ : SG) : Option (Bool × SG) :=
  F_Vf_isWellMade_94 (false) σ
set_option maxHeartbeats 4000000 in
theorem w_Vf_isWellMade_93 {b d : Nat} {sc : SC} {pre tl : List PE} {B : Nat} {Q : Option Value → List PE → Prop} {res : Bool × SG} (hB : B = b + pre.length) (hd : 1 ≤ d)   (hQ : Q (some (.int (bz res.1))) (HH pre tl SHc B res.2)) (lv : LV) (σ : SG)   (hF : F_Vf_isWellMade_93   σ = some res) : Rn b sc d 178 93 lv [] (HH pre tl SHc B σ) Q := by
  obtain ⟨e0, rfl⟩ : ∃ e, d = e + 1 := ⟨d - 1, by omega⟩
  unfold F_Vf_isWellMade_93 at hF
  refine r_iconst f_Vf_isWellMade_93 (v := 0) (by decide) ?_
  exact w_Vf_isWellMade_94 hB hd  hQ _ (σ) (false) hF
def F_Vf_isWellMade_58  (x0 : Nat) (x1 : Nat) (x2 : Bool) (y0 : Bool) (σ : SG) : Option (Bool × SG) :=
  if x2 = true then
  if y0 = true then
  match F_Vf_beginsAt (x0) ((σ.1 (x1) 0)) σ with
  | none => none
  | some q3 =>
  if q3.1 = true then
  match F_Vf_beginsAt (x0) ((q3.2.1 (x1) 1)) q3.2 with
  | none => none
  | some q5 =>
  if q5.1 = true then
  F_Vf_isWellMade_94 (true) q5.2
  else F_Vf_isWellMade_93 q5.2
  else F_Vf_isWellMade_93 q3.2
  else F_Vf_isWellMade_93 σ
  else F_Vf_isWellMade_93 σ
set_option maxHeartbeats 4000000 in
theorem w_Vf_isWellMade_58 {b d : Nat} {sc : SC} {pre tl : List PE} {B : Nat} {Q : Option Value → List PE → Prop} {res : Bool × SG} (hB : B = b + pre.length) (hd : 1 ≤ d)   (hQ : Q (some (.int (bz res.1))) (HH pre tl SHc B res.2)) (lv : LV) (σ : SG) (x0 : Nat) (x1 : Nat) (x2 : Bool) (y0 : Bool) (hx0 : isC SHc (x0) 6 = true) (hx1 : isC SHc (x1) 4 = true) (l0 : lv.lookup 0 = some (.ref (B + (x0)))) (l1 : lv.lookup 1 = some (.ref (B + (x1)))) (l2 : lv.lookup 2 = some (.int (bz (x2)))) (hF : F_Vf_isWellMade_58  x0 x1 x2 y0 σ = some res) : Rn b sc d 178 58 lv [.int (bz (y0))] (HH pre tl SHc B σ) Q := by
  obtain ⟨e0, rfl⟩ : ∃ e, d = e + 1 := ⟨d - 1, by omega⟩
  unfold F_Vf_isWellMade_58 at hF
  refine r_istore_n f_Vf_isWellMade_58 ?_
  refine r_iload_n f_Vf_isWellMade_59 (lk_put_ne l2 (by decide) (Or.inl rfl)) ?_
  refine r_if_eq f_Vf_isWellMade_60 (fun c1 => ?_) (fun c1 => ?_)
  · rw [if_neg (bz_nt c1)] at hF
    exact w_Vf_isWellMade_93 hB hd  hQ _ (σ) hF
  · rw [if_pos (bz_t c1)] at hF
    refine r_iload_n f_Vf_isWellMade_63 lk_put ?_
    refine r_if_eq f_Vf_isWellMade_64 (fun c2 => ?_) (fun c2 => ?_)
    · rw [if_neg (bz_nt c2)] at hF
      exact w_Vf_isWellMade_93 hB hd  hQ _ (σ) hF
    · rw [if_pos (bz_t c2)] at hF
      refine r_aload_n f_Vf_isWellMade_67 (lk_put_ne l0 (by decide) (Or.inl rfl)) ?_
      refine r_aload_n f_Vf_isWellMade_68 (lk_put_ne l1 (by decide) (Or.inl rfl)) ?_
      refine t_geti hB hx1 f_Vf_isWellMade_69 rfl ?_
      cases hq3 : F_Vf_beginsAt (x0) ((σ.1 (x1) 0)) σ with
      | none => simp only [hq3] at hF; cases hF
      | some q3 =>
        simp only [hq3] at hF
        refine t_V1i hB hx0 rfl rfl f_Vf_isWellMade_72 (by decide) (Nat.le_of_ble_eq_true rfl) (Nat.le_of_ble_eq_true rfl) (w_Vf_beginsAt hB  (x0) ((σ.1 (x1) 0)) hx0 hq3 ⟨_, rfl, ?_⟩)
        refine r_if_eq f_Vf_isWellMade_75 (fun c4 => ?_) (fun c4 => ?_)
        · rw [if_neg (bz_nt c4)] at hF
          exact w_Vf_isWellMade_93 hB hd  hQ _ (q3.2) hF
        · rw [if_pos (bz_t c4)] at hF
          refine r_aload_n f_Vf_isWellMade_78 (lk_put_ne l0 (by decide) (Or.inl rfl)) ?_
          refine r_aload_n f_Vf_isWellMade_79 (lk_put_ne l1 (by decide) (Or.inl rfl)) ?_
          refine t_geti hB hx1 f_Vf_isWellMade_80 rfl ?_
          cases hq5 : F_Vf_beginsAt (x0) ((q3.2.1 (x1) 1)) q3.2 with
          | none => simp only [hq5] at hF; cases hF
          | some q5 =>
            simp only [hq5] at hF
            refine t_V1i hB hx0 rfl rfl f_Vf_isWellMade_83 (by decide) (Nat.le_of_ble_eq_true rfl) (Nat.le_of_ble_eq_true rfl) (w_Vf_beginsAt hB  (x0) ((q3.2.1 (x1) 1)) hx0 hq5 ⟨_, rfl, ?_⟩)
            refine r_if_eq f_Vf_isWellMade_86 (fun c6 => ?_) (fun c6 => ?_)
            · rw [if_neg (bz_nt c6)] at hF
              exact w_Vf_isWellMade_93 hB hd  hQ _ (q5.2) hF
            · rw [if_pos (bz_t c6)] at hF
              refine r_iconst f_Vf_isWellMade_89 (v := 1) (by decide) ?_
              refine r_goto f_Vf_isWellMade_90 ?_
              exact w_Vf_isWellMade_94 hB hd  hQ _ (q5.2) (true) hF
def F_Vf_isWellMade_53  (x0 : Nat) (x1 : Nat) (x2 : Bool) (σ : SG) : Option (Bool × SG) :=
  F_Vf_isWellMade_58 (x0) (x1) (x2) (true) σ
set_option maxHeartbeats 4000000 in
theorem w_Vf_isWellMade_53 {b d : Nat} {sc : SC} {pre tl : List PE} {B : Nat} {Q : Option Value → List PE → Prop} {res : Bool × SG} (hB : B = b + pre.length) (hd : 1 ≤ d)   (hQ : Q (some (.int (bz res.1))) (HH pre tl SHc B res.2)) (lv : LV) (σ : SG) (x0 : Nat) (x1 : Nat) (x2 : Bool) (hx0 : isC SHc (x0) 6 = true) (hx1 : isC SHc (x1) 4 = true) (l0 : lv.lookup 0 = some (.ref (B + (x0)))) (l1 : lv.lookup 1 = some (.ref (B + (x1)))) (l2 : lv.lookup 2 = some (.int (bz (x2)))) (hF : F_Vf_isWellMade_53  x0 x1 x2 σ = some res) : Rn b sc d 178 53 lv [] (HH pre tl SHc B σ) Q := by
  obtain ⟨e0, rfl⟩ : ∃ e, d = e + 1 := ⟨d - 1, by omega⟩
  unfold F_Vf_isWellMade_53 at hF
  refine r_iconst f_Vf_isWellMade_53 (v := 1) (by decide) ?_
  refine r_goto f_Vf_isWellMade_54 ?_
  exact w_Vf_isWellMade_58 hB hd  hQ _ (σ) (x0) (x1) (x2) (true) hx0 hx1 l0 l1 l2 hF
def F_Vf_isWellMade_27  (x0 : Nat) (x1 : Nat) (y0 : Bool) (σ : SG) : Option (Bool × SG) :=
  if isC SHc ((σ.2.2.1 (x0) 1)) 2 = true then
  if (σ.1 (x1) 2) = (σ.1 ((σ.2.2.1 (x0) 1)) 4) then
  F_Vf_isWellMade_53 (x0) (x1) (y0) σ
  else match F_Vf_beginsAt (x0) ((σ.1 (x1) 2)) σ with
  | none => none
  | some q9 =>
  if q9.1 = true then
  F_Vf_isWellMade_53 (x0) (x1) (y0) q9.2
  else F_Vf_isWellMade_58 (x0) (x1) (y0) (false) q9.2
  else none
set_option maxHeartbeats 4000000 in
theorem w_Vf_isWellMade_27 {b d : Nat} {sc : SC} {pre tl : List PE} {B : Nat} {Q : Option Value → List PE → Prop} {res : Bool × SG} (hB : B = b + pre.length) (hd : 1 ≤ d)   (hQ : Q (some (.int (bz res.1))) (HH pre tl SHc B res.2)) (lv : LV) (σ : SG) (x0 : Nat) (x1 : Nat) (y0 : Bool) (hx0 : isC SHc (x0) 6 = true) (hx1 : isC SHc (x1) 4 = true) (l0 : lv.lookup 0 = some (.ref (B + (x0)))) (l1 : lv.lookup 1 = some (.ref (B + (x1)))) (hF : F_Vf_isWellMade_27  x0 x1 y0 σ = some res) : Rn b sc d 178 27 lv [.int (bz (y0))] (HH pre tl SHc B σ) Q := by
  obtain ⟨e0, rfl⟩ : ∃ e, d = e + 1 := ⟨d - 1, by omega⟩
  unfold F_Vf_isWellMade_27 at hF
  refine r_istore_n f_Vf_isWellMade_27 ?_
  refine r_aload_n f_Vf_isWellMade_28 (lk_put_ne l1 (by decide) (Or.inl rfl)) ?_
  refine t_geti hB hx1 f_Vf_isWellMade_29 rfl ?_
  refine r_aload_n f_Vf_isWellMade_32 (lk_put_ne l0 (by decide) (Or.inl rfl)) ?_
  by_cases c7 : isC SHc ((σ.2.2.1 (x0) 1)) 2 = true
  case neg => rw [if_neg c7] at hF; cases hF
  rw [if_pos c7] at hF
  refine t_getm hB hx0 f_Vf_isWellMade_33 rfl ?_
  refine t_geti hB c7 f_Vf_isWellMade_36 rfl ?_
  refine r_icmp_eq f_Vf_isWellMade_39 (fun c8 => ?_) (fun c8 => ?_)
  · rw [if_pos c8] at hF
    exact w_Vf_isWellMade_53 hB hd  hQ _ (σ) (x0) (x1) (y0) hx0 hx1 (lk_put_ne l0 (by decide) (Or.inl rfl)) (lk_put_ne l1 (by decide) (Or.inl rfl)) lk_put hF
  · rw [if_neg c8] at hF
    refine r_aload_n f_Vf_isWellMade_42 (lk_put_ne l0 (by decide) (Or.inl rfl)) ?_
    refine r_aload_n f_Vf_isWellMade_43 (lk_put_ne l1 (by decide) (Or.inl rfl)) ?_
    refine t_geti hB hx1 f_Vf_isWellMade_44 rfl ?_
    cases hq9 : F_Vf_beginsAt (x0) ((σ.1 (x1) 2)) σ with
    | none => simp only [hq9] at hF; cases hF
    | some q9 =>
      simp only [hq9] at hF
      refine t_V1i hB hx0 rfl rfl f_Vf_isWellMade_47 (by decide) (Nat.le_of_ble_eq_true rfl) (Nat.le_of_ble_eq_true rfl) (w_Vf_beginsAt hB  (x0) ((σ.1 (x1) 2)) hx0 hq9 ⟨_, rfl, ?_⟩)
      refine r_if_eq f_Vf_isWellMade_50 (fun c10 => ?_) (fun c10 => ?_)
      · rw [if_neg (bz_nt c10)] at hF
        refine r_iconst f_Vf_isWellMade_57 (v := 0) (by decide) ?_
        exact w_Vf_isWellMade_58 hB hd  hQ _ (q9.2) (x0) (x1) (y0) (false) hx0 hx1 (lk_put_ne l0 (by decide) (Or.inl rfl)) (lk_put_ne l1 (by decide) (Or.inl rfl)) lk_put hF
      · rw [if_pos (bz_t c10)] at hF
        exact w_Vf_isWellMade_53 hB hd  hQ _ (q9.2) (x0) (x1) (y0) hx0 hx1 (lk_put_ne l0 (by decide) (Or.inl rfl)) (lk_put_ne l1 (by decide) (Or.inl rfl)) lk_put hF
def F_Vf_isWellMade_26  (x0 : Nat) (x1 : Nat) (σ : SG) : Option (Bool × SG) :=
  F_Vf_isWellMade_27 (x0) (x1) (false) σ
set_option maxHeartbeats 4000000 in
theorem w_Vf_isWellMade_26 {b d : Nat} {sc : SC} {pre tl : List PE} {B : Nat} {Q : Option Value → List PE → Prop} {res : Bool × SG} (hB : B = b + pre.length) (hd : 1 ≤ d)   (hQ : Q (some (.int (bz res.1))) (HH pre tl SHc B res.2)) (lv : LV) (σ : SG) (x0 : Nat) (x1 : Nat) (hx0 : isC SHc (x0) 6 = true) (hx1 : isC SHc (x1) 4 = true) (l0 : lv.lookup 0 = some (.ref (B + (x0)))) (l1 : lv.lookup 1 = some (.ref (B + (x1)))) (hF : F_Vf_isWellMade_26  x0 x1 σ = some res) : Rn b sc d 178 26 lv [] (HH pre tl SHc B σ) Q := by
  obtain ⟨e0, rfl⟩ : ∃ e, d = e + 1 := ⟨d - 1, by omega⟩
  unfold F_Vf_isWellMade_26 at hF
  refine r_iconst f_Vf_isWellMade_26 (v := 0) (by decide) ?_
  exact w_Vf_isWellMade_27 hB hd  hQ _ (σ) (x0) (x1) (false) hx0 hx1 l0 l1 hF
def F_Vf_isWellMade (a0 : Nat) (a1 : Nat) (σ : SG) : Option (Bool × SG) :=
  if (σ.1 (a1) 1) ≤ (σ.1 (a1) 0) then
  F_Vf_isWellMade_26 (a0) (a1) σ
  else if (σ.1 (a1) 2) ≤ (σ.1 (a1) 1) then
  F_Vf_isWellMade_26 (a0) (a1) σ
  else F_Vf_isWellMade_27 (a0) (a1) (true) σ
set_option maxHeartbeats 4000000 in
theorem w_Vf_isWellMade {b d : Nat} {pre tl : List PE} {B : Nat} {Q : Option Value → List PE → Prop} {res : Bool × SG} (hB : B = b + pre.length) (hd : 1 ≤ d)  {σ : SG} (a0 : Nat) (a1 : Nat) (ha0 : isC SHc (a0) 6 = true) (ha1 : isC SHc (a1) 4 = true) (hF : F_Vf_isWellMade a0 a1 σ = some res) (hQ : Q (some (.int (bz res.1))) (HH pre tl SHc B res.2)) : Cl b d 178 [.ref (B + (a0)), .ref (B + (a1))] (HH pre tl SHc B σ) Q := by
  obtain ⟨e0, rfl⟩ : ∃ e, d = e + 1 := ⟨d - 1, by omega⟩
  unfold Cl
  unfold F_Vf_isWellMade at hF
  refine r_aload_n f_Vf_isWellMade_0 rfl ?_
  refine t_geti hB ha1 f_Vf_isWellMade_1 rfl ?_
  refine r_aload_n f_Vf_isWellMade_4 rfl ?_
  refine t_geti hB ha1 f_Vf_isWellMade_5 rfl ?_
  refine r_icmp_ge f_Vf_isWellMade_8 (fun c11 => ?_) (fun c11 => ?_)
  · rw [if_pos c11] at hF
    exact w_Vf_isWellMade_26 hB hd  hQ _ (σ) (a0) (a1) ha0 ha1 rfl rfl hF
  · rw [if_neg c11] at hF
    refine r_aload_n f_Vf_isWellMade_11 rfl ?_
    refine t_geti hB ha1 f_Vf_isWellMade_12 rfl ?_
    refine r_aload_n f_Vf_isWellMade_15 rfl ?_
    refine t_geti hB ha1 f_Vf_isWellMade_16 rfl ?_
    refine r_icmp_ge f_Vf_isWellMade_19 (fun c12 => ?_) (fun c12 => ?_)
    · rw [if_pos c12] at hF
      exact w_Vf_isWellMade_26 hB hd  hQ _ (σ) (a0) (a1) ha0 ha1 rfl rfl hF
    · rw [if_neg c12] at hF
      refine r_iconst f_Vf_isWellMade_22 (v := 1) (by decide) ?_
      refine r_goto f_Vf_isWellMade_23 ?_
      exact w_Vf_isWellMade_27 hB hd  hQ _ (σ) (a0) (a1) (true) ha0 ha1 rfl rfl hF
theorem f_Vf_areRegionsWellMade_0 : fetch 177 0 = some (.iconst 0, 1, 0, 0, 0) := rfl
theorem f_Vf_areRegionsWellMade_1 : fetch 177 1 = some (.istore_n 1, 1, 0, 0, 0) := rfl
theorem f_Vf_areRegionsWellMade_2 : fetch 177 2 = some (.iload_n 1, 1, 0, 0, 0) := rfl
theorem f_Vf_areRegionsWellMade_3 : fetch 177 3 = some (.aload_n 0, 1, 0, 0, 0) := rfl
theorem f_Vf_areRegionsWellMade_4 : fetch 177 4 = some (.getfield 19, 3, 6, 1, 146) := rfl
theorem f_Vf_areRegionsWellMade_7 : fetch 177 7 = some (.getfield 79, 3, 2, 3, 155) := rfl
theorem f_Vf_areRegionsWellMade_10 : fetch 177 10 = some (.if_icmp .ge 68, 3, 78, 0, 0) := rfl
theorem f_Vf_areRegionsWellMade_13 : fetch 177 13 = some (.aload_n 0, 1, 0, 0, 0) := rfl
theorem f_Vf_areRegionsWellMade_14 : fetch 177 14 = some (.getfield 19, 3, 6, 1, 146) := rfl
theorem f_Vf_areRegionsWellMade_17 : fetch 177 17 = some (.getfield 82, 3, 2, 7, 156) := rfl
theorem f_Vf_areRegionsWellMade_20 : fetch 177 20 = some (.iload_n 1, 1, 0, 0, 0) := rfl
theorem f_Vf_areRegionsWellMade_21 : fetch 177 21 = some (.aaload, 1, 0, 0, 0) := rfl
theorem f_Vf_areRegionsWellMade_22 : fetch 177 22 = some (.astore_n 2, 1, 0, 0, 0) := rfl
theorem f_Vf_areRegionsWellMade_23 : fetch 177 23 = some (.aload_n 0, 1, 0, 0, 0) := rfl
theorem f_Vf_areRegionsWellMade_24 : fetch 177 24 = some (.aload_n 2, 1, 0, 0, 0) := rfl
theorem f_Vf_areRegionsWellMade_25 : fetch 177 25 = some (.invokevirtual 86, 3, 178, 1, 190) := rfl
theorem f_Vf_areRegionsWellMade_28 : fetch 177 28 = some (.ifCond .ne 5, 3, 33, 0, 0) := rfl
theorem f_Vf_areRegionsWellMade_31 : fetch 177 31 = some (.iconst 0, 1, 0, 0, 0) := rfl
theorem f_Vf_areRegionsWellMade_32 : fetch 177 32 = some (.ireturn, 1, 2, 0, 0) := rfl
theorem f_Vf_areRegionsWellMade_33 : fetch 177 33 = some (.iload_n 1, 1, 0, 0, 0) := rfl
theorem f_Vf_areRegionsWellMade_34 : fetch 177 34 = some (.iconst 1, 1, 0, 0, 0) := rfl
theorem f_Vf_areRegionsWellMade_35 : fetch 177 35 = some (.iadd, 1, 0, 0, 0) := rfl
theorem f_Vf_areRegionsWellMade_36 : fetch 177 36 = some (.istore_n 3, 1, 0, 0, 0) := rfl
theorem f_Vf_areRegionsWellMade_37 : fetch 177 37 = some (.iload_n 3, 1, 0, 0, 0) := rfl
theorem f_Vf_areRegionsWellMade_38 : fetch 177 38 = some (.aload_n 0, 1, 0, 0, 0) := rfl
theorem f_Vf_areRegionsWellMade_39 : fetch 177 39 = some (.getfield 19, 3, 6, 1, 146) := rfl
theorem f_Vf_areRegionsWellMade_42 : fetch 177 42 = some (.getfield 79, 3, 2, 3, 155) := rfl
theorem f_Vf_areRegionsWellMade_45 : fetch 177 45 = some (.if_icmp .ge 27, 3, 72, 0, 0) := rfl
theorem f_Vf_areRegionsWellMade_48 : fetch 177 48 = some (.aload_n 2, 1, 0, 0, 0) := rfl
theorem f_Vf_areRegionsWellMade_49 : fetch 177 49 = some (.aload_n 0, 1, 0, 0, 0) := rfl
theorem f_Vf_areRegionsWellMade_50 : fetch 177 50 = some (.getfield 19, 3, 6, 1, 146) := rfl
theorem f_Vf_areRegionsWellMade_53 : fetch 177 53 = some (.getfield 82, 3, 2, 7, 156) := rfl
theorem f_Vf_areRegionsWellMade_56 : fetch 177 56 = some (.iload_n 3, 1, 0, 0, 0) := rfl
theorem f_Vf_areRegionsWellMade_57 : fetch 177 57 = some (.aaload, 1, 0, 0, 0) := rfl
theorem f_Vf_areRegionsWellMade_58 : fetch 177 58 = some (.invokevirtual 90, 3, 115, 1, 191) := rfl
theorem f_Vf_areRegionsWellMade_61 : fetch 177 61 = some (.ifCond .ne 5, 3, 66, 0, 0) := rfl
theorem f_Vf_areRegionsWellMade_64 : fetch 177 64 = some (.iconst 0, 1, 0, 0, 0) := rfl
theorem f_Vf_areRegionsWellMade_65 : fetch 177 65 = some (.ireturn, 1, 2, 0, 0) := rfl
theorem f_Vf_areRegionsWellMade_66 : fetch 177 66 = some (.iinc 3 1, 3, 0, 0, 0) := rfl
theorem f_Vf_areRegionsWellMade_69 : fetch 177 69 = some (.goto (-32), 3, 37, 0, 0) := rfl
theorem f_Vf_areRegionsWellMade_72 : fetch 177 72 = some (.iinc 1 1, 3, 0, 0, 0) := rfl
theorem f_Vf_areRegionsWellMade_75 : fetch 177 75 = some (.goto (-73), 3, 2, 0, 0) := rfl
theorem f_Vf_areRegionsWellMade_78 : fetch 177 78 = some (.iconst 1, 1, 0, 0, 0) := rfl
theorem f_Vf_areRegionsWellMade_79 : fetch 177 79 = some (.ireturn, 1, 2, 0, 0) := rfl
def F_Vf_areRegionsWellMade_37 (rec2 : Nat → Int32 → SG → Option (Bool × SG)) : Nat → Nat → Int32 → Nat → Int32 → SG → Option (Bool × SG)
  | 0, _, _, _, _, _ => none
  | n + 1, x0, x1, x2, x3, σ =>
  if isC SHc ((σ.2.2.1 (x0) 1)) 2 = true then
  if (σ.1 ((σ.2.2.1 (x0) 1)) 3) ≤ x3 then
  rec2 (x0) ((x1 + 1)) σ
  else if isC SHc ((σ.2.2.1 (x0) 1)) 2 = true then
  if x3 < 0 ∨ 3 ≤ (x3).toNatClampNeg then none else
  match F_Rg_isApartFromOrWithin (x2) ((relem SHc ((cref SHc ((σ.2.2.1 (x0) 1)) 7)) ((x3).toNatClampNeg))) σ with
  | none => none
  | some q5 =>
  if q5.1 = true then
  F_Vf_areRegionsWellMade_37 rec2 n (x0) (x1) (x2) ((x3 + 1)) q5.2
  else some (false, q5.2)
  else none
  else none
set_option maxHeartbeats 4000000 in
theorem w_Vf_areRegionsWellMade_37 {b d : Nat} {sc : SC} {pre tl : List PE} {B : Nat} {Q : Option Value → List PE → Prop} {res : Bool × SG} (hB : B = b + pre.length) (hd : 2 ≤ d) {rec2 : Nat → Int32 → SG → Option (Bool × SG)} (hr2 : ∀ (lv : LV) (σ : SG) (x0 : Nat) (x1 : Int32), isC SHc (x0) 6 = true → lv.lookup 0 = some (.ref (B + (x0))) → lv.lookup 1 = some (.int (x1)) →  rec2 x0 x1 σ = some res → Rn b sc d 177 2 lv [] (HH pre tl SHc B σ) Q) (hQ : Q (some (.int (bz res.1))) (HH pre tl SHc B res.2)) : ∀ (n : Nat) (lv : LV) (σ : SG) (x0 : Nat) (x1 : Int32) (x2 : Nat) (x3 : Int32), isC SHc (x0) 6 = true → isC SHc (x2) 4 = true → lv.lookup 0 = some (.ref (B + (x0))) → lv.lookup 1 = some (.int (x1)) → lv.lookup 2 = some (.ref (B + (x2))) → lv.lookup 3 = some (.int (x3)) → F_Vf_areRegionsWellMade_37 rec2 n x0 x1 x2 x3 σ = some res → Rn b sc d 177 37 lv [] (HH pre tl SHc B σ) Q := by
  obtain ⟨e0, rfl⟩ : ∃ e, d = e + 1 := ⟨d - 1, by omega⟩
  intro n
  induction n with
  | zero => intro lv σ x0 x1 x2 x3 hx0 hx2 l0 l1 l2 l3 hF; cases hF
  | succ n ih =>
    intro lv σ x0 x1 x2 x3 hx0 hx2 l0 l1 l2 l3 hF
    unfold F_Vf_areRegionsWellMade_37 at hF
    refine r_iload_n f_Vf_areRegionsWellMade_37 l3 ?_
    refine r_aload_n f_Vf_areRegionsWellMade_38 l0 ?_
    by_cases c1 : isC SHc ((σ.2.2.1 (x0) 1)) 2 = true
    case neg => rw [if_neg c1] at hF; cases hF
    rw [if_pos c1] at hF
    refine t_getm hB hx0 f_Vf_areRegionsWellMade_39 rfl ?_
    refine t_geti hB c1 f_Vf_areRegionsWellMade_42 rfl ?_
    refine r_icmp_ge f_Vf_areRegionsWellMade_45 (fun c2 => ?_) (fun c2 => ?_)
    · rw [if_pos c2] at hF
      refine r_iinc f_Vf_areRegionsWellMade_72 l1 (w := x1 + 1) rfl ?_
      refine r_goto f_Vf_areRegionsWellMade_75 ?_
      exact hr2 _ (σ) (x0) ((x1 + 1)) hx0 (lk_put_ne l0 (by decide) (Or.inl rfl)) lk_put hF
    · rw [if_neg c2] at hF
      refine r_aload_n f_Vf_areRegionsWellMade_48 l2 ?_
      refine r_aload_n f_Vf_areRegionsWellMade_49 l0 ?_
      by_cases c3 : isC SHc ((σ.2.2.1 (x0) 1)) 2 = true
      case neg => rw [if_neg c3] at hF; cases hF
      rw [if_pos c3] at hF
      refine t_getm hB hx0 f_Vf_areRegionsWellMade_50 rfl ?_
      refine t_getc hB c3 f_Vf_areRegionsWellMade_53 rfl ?_
      refine r_iload_n f_Vf_areRegionsWellMade_56 l3 ?_
      by_cases c4 : x3 < 0 ∨ 3 ≤ (x3).toNatClampNeg
      · rw [if_pos c4] at hF; cases hF
      rw [if_neg c4] at hF
      refine t_aald hB (cc_2_7 c3) (by decide) f_Vf_areRegionsWellMade_57 c4 ?_
      cases hq5 : F_Rg_isApartFromOrWithin (x2) ((relem SHc ((cref SHc ((σ.2.2.1 (x0) 1)) 7)) ((x3).toNatClampNeg))) σ with
      | none => simp only [hq5] at hF; cases hF
      | some q5 =>
        simp only [hq5] at hF
        refine t_V1i hB hx2 rfl rfl f_Vf_areRegionsWellMade_58 (by decide) (Nat.le_of_ble_eq_true rfl) (Nat.le_of_ble_eq_true rfl) (w_Rg_isApartFromOrWithin hB  (x2) ((relem SHc ((cref SHc ((σ.2.2.1 (x0) 1)) 7)) ((x3).toNatClampNeg))) hx2 (re_4 (cc_2_7 c3) (nlt c4)) hq5 ⟨_, rfl, ?_⟩)
        refine r_if_ne f_Vf_areRegionsWellMade_61 (fun c6 => ?_) (fun c6 => ?_)
        · rw [if_pos (bz_t c6)] at hF
          refine r_iinc f_Vf_areRegionsWellMade_66 l3 (w := x3 + 1) rfl ?_
          refine r_goto f_Vf_areRegionsWellMade_69 ?_
          exact ih _ (q5.2) (x0) (x1) (x2) ((x3 + 1)) hx0 hx2 (lk_put_ne l0 (by decide) (Or.inl rfl)) (lk_put_ne l1 (by decide) (Or.inl rfl)) (lk_put_ne l2 (by decide) (Or.inl rfl)) lk_put hF
        · rw [if_neg (bz_nt (Decidable.not_not.mp c6))] at hF
          refine r_iconst f_Vf_areRegionsWellMade_64 (v := 0) (by decide) ?_
          cases hF
          exact r_zreturn f_Vf_areRegionsWellMade_65 (bz_or (false)) hQ
def F_Vf_areRegionsWellMade_2  : Nat → Nat → Int32 → SG → Option (Bool × SG)
  | 0, _, _, _ => none
  | n + 1, x0, x1, σ =>
  if isC SHc ((σ.2.2.1 (x0) 1)) 2 = true then
  if (σ.1 ((σ.2.2.1 (x0) 1)) 3) ≤ x1 then
  some (true, σ)
  else if isC SHc ((σ.2.2.1 (x0) 1)) 2 = true then
  if x1 < 0 ∨ 3 ≤ (x1).toNatClampNeg then none else
  match F_Vf_isWellMade (x0) ((relem SHc ((cref SHc ((σ.2.2.1 (x0) 1)) 7)) ((x1).toNatClampNeg))) σ with
  | none => none
  | some q11 =>
  if q11.1 = true then
  F_Vf_areRegionsWellMade_37 (F_Vf_areRegionsWellMade_2  n) 5000 (x0) (x1) ((relem SHc ((cref SHc ((σ.2.2.1 (x0) 1)) 7)) ((x1).toNatClampNeg))) ((x1 + (1 : Int32))) q11.2
  else some (false, q11.2)
  else none
  else none
set_option maxHeartbeats 4000000 in
theorem w_Vf_areRegionsWellMade_2 {b d : Nat} {sc : SC} {pre tl : List PE} {B : Nat} {Q : Option Value → List PE → Prop} {res : Bool × SG} (hB : B = b + pre.length) (hd : 2 ≤ d)   (hQ : Q (some (.int (bz res.1))) (HH pre tl SHc B res.2)) : ∀ (n : Nat) (lv : LV) (σ : SG) (x0 : Nat) (x1 : Int32), isC SHc (x0) 6 = true → lv.lookup 0 = some (.ref (B + (x0))) → lv.lookup 1 = some (.int (x1)) → F_Vf_areRegionsWellMade_2  n x0 x1 σ = some res → Rn b sc d 177 2 lv [] (HH pre tl SHc B σ) Q := by
  obtain ⟨e0, rfl⟩ : ∃ e, d = e + 1 := ⟨d - 1, by omega⟩
  intro n
  induction n with
  | zero => intro lv σ x0 x1 hx0 l0 l1 hF; cases hF
  | succ n ih =>
    intro lv σ x0 x1 hx0 l0 l1 hF
    unfold F_Vf_areRegionsWellMade_2 at hF
    refine r_iload_n f_Vf_areRegionsWellMade_2 l1 ?_
    refine r_aload_n f_Vf_areRegionsWellMade_3 l0 ?_
    by_cases c7 : isC SHc ((σ.2.2.1 (x0) 1)) 2 = true
    case neg => rw [if_neg c7] at hF; cases hF
    rw [if_pos c7] at hF
    refine t_getm hB hx0 f_Vf_areRegionsWellMade_4 rfl ?_
    refine t_geti hB c7 f_Vf_areRegionsWellMade_7 rfl ?_
    refine r_icmp_ge f_Vf_areRegionsWellMade_10 (fun c8 => ?_) (fun c8 => ?_)
    · rw [if_pos c8] at hF
      refine r_iconst f_Vf_areRegionsWellMade_78 (v := 1) (by decide) ?_
      cases hF
      exact r_zreturn f_Vf_areRegionsWellMade_79 (bz_or (true)) hQ
    · rw [if_neg c8] at hF
      refine r_aload_n f_Vf_areRegionsWellMade_13 l0 ?_
      by_cases c9 : isC SHc ((σ.2.2.1 (x0) 1)) 2 = true
      case neg => rw [if_neg c9] at hF; cases hF
      rw [if_pos c9] at hF
      refine t_getm hB hx0 f_Vf_areRegionsWellMade_14 rfl ?_
      refine t_getc hB c9 f_Vf_areRegionsWellMade_17 rfl ?_
      refine r_iload_n f_Vf_areRegionsWellMade_20 l1 ?_
      by_cases c10 : x1 < 0 ∨ 3 ≤ (x1).toNatClampNeg
      · rw [if_pos c10] at hF; cases hF
      rw [if_neg c10] at hF
      refine t_aald hB (cc_2_7 c9) (by decide) f_Vf_areRegionsWellMade_21 c10 ?_
      refine r_astore_n f_Vf_areRegionsWellMade_22 ?_
      refine r_aload_n f_Vf_areRegionsWellMade_23 (lk_put_ne l0 (by decide) (Or.inl rfl)) ?_
      refine r_aload_n f_Vf_areRegionsWellMade_24 lk_put ?_
      cases hq11 : F_Vf_isWellMade (x0) ((relem SHc ((cref SHc ((σ.2.2.1 (x0) 1)) 7)) ((x1).toNatClampNeg))) σ with
      | none => simp only [hq11] at hF; cases hF
      | some q11 =>
        simp only [hq11] at hF
        refine t_V1i hB hx0 rfl rfl f_Vf_areRegionsWellMade_25 (by decide) (Nat.le_of_ble_eq_true rfl) (Nat.le_of_ble_eq_true rfl) (w_Vf_isWellMade hB (by omega) (x0) ((relem SHc ((cref SHc ((σ.2.2.1 (x0) 1)) 7)) ((x1).toNatClampNeg))) hx0 (re_4 (cc_2_7 c9) (nlt c10)) hq11 ⟨_, rfl, ?_⟩)
        refine r_if_ne f_Vf_areRegionsWellMade_28 (fun c12 => ?_) (fun c12 => ?_)
        · rw [if_pos (bz_t c12)] at hF
          refine r_iload_n f_Vf_areRegionsWellMade_33 (lk_put_ne l1 (by decide) (Or.inl rfl)) ?_
          refine r_iconst f_Vf_areRegionsWellMade_34 (v := 1) (by decide) ?_
          refine r_iadd f_Vf_areRegionsWellMade_35 ?_
          refine r_istore_n f_Vf_areRegionsWellMade_36 ?_
          exact w_Vf_areRegionsWellMade_37 hB hd (ih) hQ 5000 _ (q11.2) (x0) (x1) ((relem SHc ((cref SHc ((σ.2.2.1 (x0) 1)) 7)) ((x1).toNatClampNeg))) ((x1 + (1 : Int32))) hx0 (re_4 (cc_2_7 c9) (nlt c10)) (lk_put_ne (lk_put_ne l0 (by decide) (Or.inl rfl)) (by decide) (Or.inl rfl)) (lk_put_ne (lk_put_ne l1 (by decide) (Or.inl rfl)) (by decide) (Or.inl rfl)) (lk_put_ne lk_put (by decide) (Or.inl rfl)) lk_put hF
        · rw [if_neg (bz_nt (Decidable.not_not.mp c12))] at hF
          refine r_iconst f_Vf_areRegionsWellMade_31 (v := 0) (by decide) ?_
          cases hF
          exact r_zreturn f_Vf_areRegionsWellMade_32 (bz_or (false)) hQ
def F_Vf_areRegionsWellMade (a0 : Nat) (σ : SG) : Option (Bool × SG) :=
  F_Vf_areRegionsWellMade_2  5000 (a0) ((0 : Int32)) σ
set_option maxHeartbeats 4000000 in
theorem w_Vf_areRegionsWellMade {b d : Nat} {pre tl : List PE} {B : Nat} {Q : Option Value → List PE → Prop} {res : Bool × SG} (hB : B = b + pre.length) (hd : 2 ≤ d)  {σ : SG} (a0 : Nat) (ha0 : isC SHc (a0) 6 = true) (hF : F_Vf_areRegionsWellMade a0 σ = some res) (hQ : Q (some (.int (bz res.1))) (HH pre tl SHc B res.2)) : Cl b d 177 [.ref (B + (a0))] (HH pre tl SHc B σ) Q := by
  obtain ⟨e0, rfl⟩ : ∃ e, d = e + 1 := ⟨d - 1, by omega⟩
  unfold Cl
  unfold F_Vf_areRegionsWellMade at hF
  refine r_iconst f_Vf_areRegionsWellMade_0 (v := 0) (by decide) ?_
  refine r_istore_n f_Vf_areRegionsWellMade_1 ?_
  exact w_Vf_areRegionsWellMade_2 hB hd  hQ 5000 _ (σ) (a0) ((0 : Int32)) ha0 (lk_put_ne rfl (by decide) (Or.inl rfl)) lk_put hF
theorem f_Vf_reach_0 : fetch 180 0 = some (.aload_n 0, 1, 0, 0, 0) := rfl
theorem f_Vf_reach_1 : fetch 180 1 = some (.iload_n 1, 1, 0, 0, 0) := rfl
theorem f_Vf_reach_2 : fetch 180 2 = some (.invokevirtual 104, 3, 179, 1, 192) := rfl
theorem f_Vf_reach_5 : fetch 180 5 = some (.ifCond .eq 8, 3, 13, 0, 0) := rfl
theorem f_Vf_reach_8 : fetch 180 8 = some (.iload_n 2, 1, 0, 0, 0) := rfl
theorem f_Vf_reach_9 : fetch 180 9 = some (.iconst (-1), 1, 0, 0, 0) := rfl
theorem f_Vf_reach_10 : fetch 180 10 = some (.if_icmp .ne 5, 3, 15, 0, 0) := rfl
theorem f_Vf_reach_13 : fetch 180 13 = some (.iconst 0, 1, 0, 0, 0) := rfl
theorem f_Vf_reach_14 : fetch 180 14 = some (.ireturn, 1, 2, 0, 0) := rfl
theorem f_Vf_reach_15 : fetch 180 15 = some (.aload_n 0, 1, 0, 0, 0) := rfl
theorem f_Vf_reach_16 : fetch 180 16 = some (.getfield 19, 3, 6, 1, 146) := rfl
theorem f_Vf_reach_19 : fetch 180 19 = some (.getfield 64, 3, 2, 10, 153) := rfl
theorem f_Vf_reach_22 : fetch 180 22 = some (.iload_n 1, 1, 0, 0, 0) := rfl
theorem f_Vf_reach_23 : fetch 180 23 = some (.iaload, 1, 0, 0, 0) := rfl
theorem f_Vf_reach_24 : fetch 180 24 = some (.iconst (-1), 1, 0, 0, 0) := rfl
theorem f_Vf_reach_25 : fetch 180 25 = some (.if_icmp .eq 22, 3, 47, 0, 0) := rfl
theorem f_Vf_reach_28 : fetch 180 28 = some (.aload_n 0, 1, 0, 0, 0) := rfl
theorem f_Vf_reach_29 : fetch 180 29 = some (.getfield 19, 3, 6, 1, 146) := rfl
theorem f_Vf_reach_32 : fetch 180 32 = some (.getfield 64, 3, 2, 10, 153) := rfl
theorem f_Vf_reach_35 : fetch 180 35 = some (.iload_n 1, 1, 0, 0, 0) := rfl
theorem f_Vf_reach_36 : fetch 180 36 = some (.iaload, 1, 0, 0, 0) := rfl
theorem f_Vf_reach_37 : fetch 180 37 = some (.iload_n 2, 1, 0, 0, 0) := rfl
theorem f_Vf_reach_38 : fetch 180 38 = some (.if_icmp .ne 7, 3, 45, 0, 0) := rfl
theorem f_Vf_reach_41 : fetch 180 41 = some (.iconst 1, 1, 0, 0, 0) := rfl
theorem f_Vf_reach_42 : fetch 180 42 = some (.goto 4, 3, 46, 0, 0) := rfl
theorem f_Vf_reach_45 : fetch 180 45 = some (.iconst 0, 1, 0, 0, 0) := rfl
theorem f_Vf_reach_46 : fetch 180 46 = some (.ireturn, 1, 2, 0, 0) := rfl
theorem f_Vf_reach_47 : fetch 180 47 = some (.aload_n 0, 1, 0, 0, 0) := rfl
theorem f_Vf_reach_48 : fetch 180 48 = some (.getfield 37, 3, 6, 4, 150) := rfl
theorem f_Vf_reach_51 : fetch 180 51 = some (.bipush 100, 2, 0, 0, 0) := rfl
theorem f_Vf_reach_53 : fetch 180 53 = some (.if_icmp .lt 5, 3, 58, 0, 0) := rfl
theorem f_Vf_reach_56 : fetch 180 56 = some (.iconst 0, 1, 0, 0, 0) := rfl
theorem f_Vf_reach_57 : fetch 180 57 = some (.ireturn, 1, 2, 0, 0) := rfl
theorem f_Vf_reach_58 : fetch 180 58 = some (.aload_n 0, 1, 0, 0, 0) := rfl
theorem f_Vf_reach_59 : fetch 180 59 = some (.getfield 19, 3, 6, 1, 146) := rfl
theorem f_Vf_reach_62 : fetch 180 62 = some (.getfield 64, 3, 2, 10, 153) := rfl
theorem f_Vf_reach_65 : fetch 180 65 = some (.iload_n 1, 1, 0, 0, 0) := rfl
theorem f_Vf_reach_66 : fetch 180 66 = some (.iload_n 2, 1, 0, 0, 0) := rfl
theorem f_Vf_reach_67 : fetch 180 67 = some (.iastore, 1, 0, 0, 0) := rfl
theorem f_Vf_reach_68 : fetch 180 68 = some (.aload_n 0, 1, 0, 0, 0) := rfl
theorem f_Vf_reach_69 : fetch 180 69 = some (.getfield 29, 3, 6, 3, 148) := rfl
theorem f_Vf_reach_72 : fetch 180 72 = some (.aload_n 0, 1, 0, 0, 0) := rfl
theorem f_Vf_reach_73 : fetch 180 73 = some (.getfield 37, 3, 6, 4, 150) := rfl
theorem f_Vf_reach_76 : fetch 180 76 = some (.iload_n 1, 1, 0, 0, 0) := rfl
theorem f_Vf_reach_77 : fetch 180 77 = some (.iastore, 1, 0, 0, 0) := rfl
theorem f_Vf_reach_78 : fetch 180 78 = some (.aload_n 0, 1, 0, 0, 0) := rfl
theorem f_Vf_reach_79 : fetch 180 79 = some (.dup, 1, 0, 0, 0) := rfl
theorem f_Vf_reach_80 : fetch 180 80 = some (.getfield 37, 3, 6, 4, 150) := rfl
theorem f_Vf_reach_83 : fetch 180 83 = some (.iconst 1, 1, 0, 0, 0) := rfl
theorem f_Vf_reach_84 : fetch 180 84 = some (.iadd, 1, 0, 0, 0) := rfl
theorem f_Vf_reach_85 : fetch 180 85 = some (.putfield 37, 3, 6, 4, 150) := rfl
theorem f_Vf_reach_88 : fetch 180 88 = some (.iconst 1, 1, 0, 0, 0) := rfl
theorem f_Vf_reach_89 : fetch 180 89 = some (.ireturn, 1, 2, 0, 0) := rfl
def F_Vf_reach_46  (y0 : Bool) (σ : SG) : Option (Bool × SG) :=
  some (y0, σ)
set_option maxHeartbeats 4000000 in
theorem w_Vf_reach_46 {b d : Nat} {sc : SC} {pre tl : List PE} {B : Nat} {Q : Option Value → List PE → Prop} {res : Bool × SG} (hB : B = b + pre.length) (hd : 1 ≤ d)   (hQ : Q (some (.int (bz res.1))) (HH pre tl SHc B res.2)) (lv : LV) (σ : SG) (y0 : Bool)  (hF : F_Vf_reach_46  y0 σ = some res) : Rn b sc d 180 46 lv [.int (bz (y0))] (HH pre tl SHc B σ) Q := by
  obtain ⟨e0, rfl⟩ : ∃ e, d = e + 1 := ⟨d - 1, by omega⟩
  unfold F_Vf_reach_46 at hF
  cases hF
  exact r_zreturn f_Vf_reach_46 (bz_or (y0)) hQ
def F_Vf_reach_13   (σ : SG) : Option (Bool × SG) :=
  some (false, σ)
set_option maxHeartbeats 4000000 in
theorem w_Vf_reach_13 {b d : Nat} {sc : SC} {pre tl : List PE} {B : Nat} {Q : Option Value → List PE → Prop} {res : Bool × SG} (hB : B = b + pre.length) (hd : 1 ≤ d)   (hQ : Q (some (.int (bz res.1))) (HH pre tl SHc B res.2)) (lv : LV) (σ : SG)   (hF : F_Vf_reach_13   σ = some res) : Rn b sc d 180 13 lv [] (HH pre tl SHc B σ) Q := by
  obtain ⟨e0, rfl⟩ : ∃ e, d = e + 1 := ⟨d - 1, by omega⟩
  unfold F_Vf_reach_13 at hF
  refine r_iconst f_Vf_reach_13 (v := 0) (by decide) ?_
  cases hF
  exact r_zreturn f_Vf_reach_14 (bz_or (false)) hQ
def F_Vf_reach (a0 : Nat) (a1 : Int32) (a2 : Int32) (σ : SG) : Option (Bool × SG) :=
  match F_Vf_beginsAt (a0) (a1) σ with
  | none => none
  | some q1 =>
  if q1.1 = true then
  if a2 = ((-1) : Int32) then
  F_Vf_reach_13 q1.2
  else if isC SHc ((q1.2.2.2.1 (a0) 1)) 2 = true then
  if a1 < 0 ∨ 100 ≤ (a1).toNatClampNeg then none else
  if (q1.2.2.2.2.1 ((cref SHc ((q1.2.2.2.1 (a0) 1)) 10)) ((a1).toNatClampNeg)) = ((-1) : Int32) then
  if (q1.2.1 (a0) 4) < (100 : Int32) then
  if isC SHc ((q1.2.2.2.1 (a0) 1)) 2 = true then
  if a1 < 0 ∨ 100 ≤ (a1).toNatClampNeg then none else
  stl (setA q1.2 ((cref SHc ((q1.2.2.2.1 (a0) 1)) 10)) ((a1).toNatClampNeg) (a2)) fun s10 =>
  if (s10.1 (a0) 4) < 0 ∨ 100 ≤ ((s10.1 (a0) 4)).toNatClampNeg then none else
  stl (setA s10 ((cref SHc (a0) 3)) (((s10.1 (a0) 4)).toNatClampNeg) (a1)) fun s12 =>
  stl (setI s12 (a0) 4 (((s12.1 (a0) 4) + (1 : Int32)))) fun s13 =>
  some (true, s13)
  else none
  else some (false, q1.2)
  else if isC SHc ((q1.2.2.2.1 (a0) 1)) 2 = true then
  if a1 < 0 ∨ 100 ≤ (a1).toNatClampNeg then none else
  if (q1.2.2.2.2.1 ((cref SHc ((q1.2.2.2.1 (a0) 1)) 10)) ((a1).toNatClampNeg)) = a2 then
  F_Vf_reach_46 (true) q1.2
  else F_Vf_reach_46 (false) q1.2
  else none
  else none
  else F_Vf_reach_13 q1.2
set_option maxHeartbeats 4000000 in
theorem w_Vf_reach {b d : Nat} {pre tl : List PE} {B : Nat} {Q : Option Value → List PE → Prop} {res : Bool × SG} (hB : B = b + pre.length) (hd : 1 ≤ d)  {σ : SG} (a0 : Nat) (a1 : Int32) (a2 : Int32) (ha0 : isC SHc (a0) 6 = true) (hF : F_Vf_reach a0 a1 a2 σ = some res) (hQ : Q (some (.int (bz res.1))) (HH pre tl SHc B res.2)) : Cl b d 180 [.ref (B + (a0)), .int (a1), .int (a2)] (HH pre tl SHc B σ) Q := by
  obtain ⟨e0, rfl⟩ : ∃ e, d = e + 1 := ⟨d - 1, by omega⟩
  unfold Cl
  unfold F_Vf_reach at hF
  refine r_aload_n f_Vf_reach_0 rfl ?_
  refine r_iload_n f_Vf_reach_1 rfl ?_
  cases hq1 : F_Vf_beginsAt (a0) (a1) σ with
  | none => simp only [hq1] at hF; cases hF
  | some q1 =>
    simp only [hq1] at hF
    refine t_V1i hB ha0 rfl rfl f_Vf_reach_2 (by decide) (Nat.le_of_ble_eq_true rfl) (Nat.le_of_ble_eq_true rfl) (w_Vf_beginsAt hB  (a0) (a1) ha0 hq1 ⟨_, rfl, ?_⟩)
    refine r_if_eq f_Vf_reach_5 (fun c2 => ?_) (fun c2 => ?_)
    · rw [if_neg (bz_nt c2)] at hF
      exact w_Vf_reach_13 hB hd  hQ _ (q1.2) hF
    · rw [if_pos (bz_t c2)] at hF
      refine r_iload_n f_Vf_reach_8 rfl ?_
      refine r_iconst f_Vf_reach_9 (v := (-1)) (by decide) ?_
      refine r_icmp_ne f_Vf_reach_10 (fun c3 => ?_) (fun c3 => ?_)
      · rw [if_neg c3] at hF
        refine r_aload_n f_Vf_reach_15 rfl ?_
        by_cases c4 : isC SHc ((q1.2.2.2.1 (a0) 1)) 2 = true
        case neg => rw [if_neg c4] at hF; cases hF
        rw [if_pos c4] at hF
        refine t_getm hB ha0 f_Vf_reach_16 rfl ?_
        refine t_getc hB c4 f_Vf_reach_19 rfl ?_
        refine r_iload_n f_Vf_reach_22 rfl ?_
        by_cases c5 : a1 < 0 ∨ 100 ≤ (a1).toNatClampNeg
        · rw [if_pos c5] at hF; cases hF
        rw [if_neg c5] at hF
        refine t_iald hB (cc_2_10 c4) f_Vf_reach_23 c5 ?_
        refine r_iconst f_Vf_reach_24 (v := (-1)) (by decide) ?_
        refine r_icmp_eq f_Vf_reach_25 (fun c6 => ?_) (fun c6 => ?_)
        · rw [if_pos c6] at hF
          refine r_aload_n f_Vf_reach_47 rfl ?_
          refine t_geti hB ha0 f_Vf_reach_48 rfl ?_
          refine r_bipush f_Vf_reach_51 (v := 100) (by decide) ?_
          refine r_icmp_lt f_Vf_reach_53 (fun c7 => ?_) (fun c7 => ?_)
          · rw [if_pos c7] at hF
            refine r_aload_n f_Vf_reach_58 rfl ?_
            by_cases c8 : isC SHc ((q1.2.2.2.1 (a0) 1)) 2 = true
            case neg => rw [if_neg c8] at hF; cases hF
            rw [if_pos c8] at hF
            refine t_getm hB ha0 f_Vf_reach_59 rfl ?_
            refine t_getc hB c8 f_Vf_reach_62 rfl ?_
            refine r_iload_n f_Vf_reach_65 rfl ?_
            refine r_iload_n f_Vf_reach_66 rfl ?_
            by_cases c9 : a1 < 0 ∨ 100 ≤ (a1).toNatClampNeg
            · rw [if_pos c9] at hF; cases hF
            rw [if_neg c9] at hF
            refine t_iast hB (cc_2_10 c8) f_Vf_reach_67 c9 ?_
            generalize hs10 : setA q1.2 ((cref SHc ((q1.2.2.2.1 (a0) 1)) 10)) ((a1).toNatClampNeg) (a2) = s10 at hF ⊢
            rw [stl_eq] at hF
            refine r_aload_n f_Vf_reach_68 rfl ?_
            refine t_getc hB ha0 f_Vf_reach_69 rfl ?_
            refine r_aload_n f_Vf_reach_72 rfl ?_
            refine t_geti hB ha0 f_Vf_reach_73 rfl ?_
            refine r_iload_n f_Vf_reach_76 rfl ?_
            by_cases c11 : (s10.1 (a0) 4) < 0 ∨ 100 ≤ ((s10.1 (a0) 4)).toNatClampNeg
            · rw [if_pos c11] at hF; cases hF
            rw [if_neg c11] at hF
            refine t_iast hB (cc_6_3 ha0) f_Vf_reach_77 c11 ?_
            generalize hs12 : setA s10 ((cref SHc (a0) 3)) (((s10.1 (a0) 4)).toNatClampNeg) (a1) = s12 at hF ⊢
            rw [stl_eq] at hF
            refine r_aload_n f_Vf_reach_78 rfl ?_
            refine r_dup f_Vf_reach_79 rfl ?_
            refine t_geti hB ha0 f_Vf_reach_80 rfl ?_
            refine r_iconst f_Vf_reach_83 (v := 1) (by decide) ?_
            refine r_iadd f_Vf_reach_84 ?_
            refine t_puti hB ha0 f_Vf_reach_85 rfl rfl ?_
            generalize hs13 : setI s12 (a0) 4 (((s12.1 (a0) 4) + (1 : Int32))) = s13 at hF ⊢
            rw [stl_eq] at hF
            refine r_iconst f_Vf_reach_88 (v := 1) (by decide) ?_
            cases hF
            exact r_zreturn f_Vf_reach_89 (bz_or (true)) hQ
          · rw [if_neg c7] at hF
            refine r_iconst f_Vf_reach_56 (v := 0) (by decide) ?_
            cases hF
            exact r_zreturn f_Vf_reach_57 (bz_or (false)) hQ
        · rw [if_neg c6] at hF
          refine r_aload_n f_Vf_reach_28 rfl ?_
          by_cases c14 : isC SHc ((q1.2.2.2.1 (a0) 1)) 2 = true
          case neg => rw [if_neg c14] at hF; cases hF
          rw [if_pos c14] at hF
          refine t_getm hB ha0 f_Vf_reach_29 rfl ?_
          refine t_getc hB c14 f_Vf_reach_32 rfl ?_
          refine r_iload_n f_Vf_reach_35 rfl ?_
          by_cases c15 : a1 < 0 ∨ 100 ≤ (a1).toNatClampNeg
          · rw [if_pos c15] at hF; cases hF
          rw [if_neg c15] at hF
          refine t_iald hB (cc_2_10 c14) f_Vf_reach_36 c15 ?_
          refine r_iload_n f_Vf_reach_37 rfl ?_
          refine r_icmp_ne f_Vf_reach_38 (fun c16 => ?_) (fun c16 => ?_)
          · rw [if_neg c16] at hF
            refine r_iconst f_Vf_reach_45 (v := 0) (by decide) ?_
            exact w_Vf_reach_46 hB hd  hQ _ (q1.2) (false) hF
          · rw [if_pos (Decidable.not_not.mp c16)] at hF
            refine r_iconst f_Vf_reach_41 (v := 1) (by decide) ?_
            refine r_goto f_Vf_reach_42 ?_
            exact w_Vf_reach_46 hB hd  hQ _ (q1.2) (true) hF
      · rw [if_pos (Decidable.not_not.mp c3)] at hF
        exact w_Vf_reach_13 hB hd  hQ _ (q1.2) hF
theorem f_Vf_placeOf_0 : fetch 183 0 = some (.iload_n 0, 1, 0, 0, 0) := rfl
theorem f_Vf_placeOf_1 : fetch 183 1 = some (.iconst 1, 1, 0, 0, 0) := rfl
theorem f_Vf_placeOf_2 : fetch 183 2 = some (.if_icmp .ne 7, 3, 9, 0, 0) := rfl
theorem f_Vf_placeOf_5 : fetch 183 5 = some (.iconst 3, 1, 0, 0, 0) := rfl
theorem f_Vf_placeOf_6 : fetch 183 6 = some (.goto 4, 3, 10, 0, 0) := rfl
theorem f_Vf_placeOf_9 : fetch 183 9 = some (.iconst 0, 1, 0, 0, 0) := rfl
theorem f_Vf_placeOf_10 : fetch 183 10 = some (.ireturn, 1, 0, 0, 0) := rfl
def F_Vf_placeOf_10  (y0 : Int32) (σ : SG) : Option (Int32 × SG) :=
  some (y0, σ)
set_option maxHeartbeats 4000000 in
theorem w_Vf_placeOf_10 {b d : Nat} {sc : SC} {pre tl : List PE} {B : Nat} {Q : Option Value → List PE → Prop} {res : Int32 × SG} (hB : B = b + pre.length)   (hQ : Q (some (.int res.1)) (HH pre tl SHc B res.2)) (lv : LV) (σ : SG) (y0 : Int32)  (hF : F_Vf_placeOf_10  y0 σ = some res) : Rn b sc d 183 10 lv [.int (y0)] (HH pre tl SHc B σ) Q := by
  unfold F_Vf_placeOf_10 at hF
  cases hF
  exact r_ireturn f_Vf_placeOf_10 hQ
def F_Vf_placeOf (a0 : Int32) (σ : SG) : Option (Int32 × SG) :=
  if a0 = (1 : Int32) then
  F_Vf_placeOf_10 ((3 : Int32)) σ
  else F_Vf_placeOf_10 ((0 : Int32)) σ
set_option maxHeartbeats 4000000 in
theorem w_Vf_placeOf {b d : Nat} {pre tl : List PE} {B : Nat} {Q : Option Value → List PE → Prop} {res : Int32 × SG} (hB : B = b + pre.length)  {σ : SG} (a0 : Int32)  (hF : F_Vf_placeOf a0 σ = some res) (hQ : Q (some (.int res.1)) (HH pre tl SHc B res.2)) : Cl b d 183 [.int (a0)] (HH pre tl SHc B σ) Q := by
  unfold Cl
  unfold F_Vf_placeOf at hF
  refine r_iload_n f_Vf_placeOf_0 rfl ?_
  refine r_iconst f_Vf_placeOf_1 (v := 1) (by decide) ?_
  refine r_icmp_ne f_Vf_placeOf_2 (fun c1 => ?_) (fun c1 => ?_)
  · rw [if_neg c1] at hF
    refine r_iconst f_Vf_placeOf_9 (v := 0) (by decide) ?_
    exact w_Vf_placeOf_10 hB   hQ _ (σ) ((0 : Int32)) hF
  · rw [if_pos (Decidable.not_not.mp c1)] at hF
    refine r_iconst f_Vf_placeOf_5 (v := 3) (by decide) ?_
    refine r_goto f_Vf_placeOf_6 ?_
    exact w_Vf_placeOf_10 hB   hQ _ (σ) ((3 : Int32)) hF
theorem f_Vf_withoutNumbers_0 : fetch 184 0 = some (.iload_n 0, 1, 0, 0, 0) := rfl
theorem f_Vf_withoutNumbers_1 : fetch 184 1 = some (.istore_n 2, 1, 0, 0, 0) := rfl
theorem f_Vf_withoutNumbers_2 : fetch 184 2 = some (.iconst 0, 1, 0, 0, 0) := rfl
theorem f_Vf_withoutNumbers_3 : fetch 184 3 = some (.istore_n 3, 1, 0, 0, 0) := rfl
theorem f_Vf_withoutNumbers_4 : fetch 184 4 = some (.iload_n 3, 1, 0, 0, 0) := rfl
theorem f_Vf_withoutNumbers_5 : fetch 184 5 = some (.iload_n 1, 1, 0, 0, 0) := rfl
theorem f_Vf_withoutNumbers_6 : fetch 184 6 = some (.if_icmp .ge 15, 3, 21, 0, 0) := rfl
theorem f_Vf_withoutNumbers_9 : fetch 184 9 = some (.iload_n 2, 1, 0, 0, 0) := rfl
theorem f_Vf_withoutNumbers_10 : fetch 184 10 = some (.iconst 1, 1, 0, 0, 0) := rfl
theorem f_Vf_withoutNumbers_11 : fetch 184 11 = some (.invokestatic 176, 3, 157, 2, 204) := rfl
theorem f_Vf_withoutNumbers_14 : fetch 184 14 = some (.istore_n 2, 1, 0, 0, 0) := rfl
theorem f_Vf_withoutNumbers_15 : fetch 184 15 = some (.iinc 3 1, 3, 0, 0, 0) := rfl
theorem f_Vf_withoutNumbers_18 : fetch 184 18 = some (.goto (-14), 3, 4, 0, 0) := rfl
theorem f_Vf_withoutNumbers_21 : fetch 184 21 = some (.iload_n 2, 1, 0, 0, 0) := rfl
theorem f_Vf_withoutNumbers_22 : fetch 184 22 = some (.ireturn, 1, 0, 0, 0) := rfl
def F_Vf_withoutNumbers_4  : Nat → Int32 → Int32 → Int32 → SG → Option (Int32 × SG)
  | 0, _, _, _, _ => none
  | n + 1, x1, x2, x3, σ =>
  if x1 ≤ x3 then
  some (x2, σ)
  else match F_Rw_without (x2) ((1 : Int32)) σ with
  | none => none
  | some q2 =>
  F_Vf_withoutNumbers_4  n (x1) (q2.1) ((x3 + 1)) q2.2
set_option maxHeartbeats 4000000 in
theorem w_Vf_withoutNumbers_4 {b d : Nat} {sc : SC} {pre tl : List PE} {B : Nat} {Q : Option Value → List PE → Prop} {res : Int32 × SG} (hB : B = b + pre.length) (hd : 2 ≤ d)   (hQ : Q (some (.int res.1)) (HH pre tl SHc B res.2)) : ∀ (n : Nat) (lv : LV) (σ : SG) (x1 : Int32) (x2 : Int32) (x3 : Int32), lv.lookup 1 = some (.int (x1)) → lv.lookup 2 = some (.int (x2)) → lv.lookup 3 = some (.int (x3)) → F_Vf_withoutNumbers_4  n x1 x2 x3 σ = some res → Rn b sc d 184 4 lv [] (HH pre tl SHc B σ) Q := by
  obtain ⟨e0, rfl⟩ : ∃ e, d = e + 1 := ⟨d - 1, by omega⟩
  intro n
  induction n with
  | zero => intro lv σ x1 x2 x3 l1 l2 l3 hF; cases hF
  | succ n ih =>
    intro lv σ x1 x2 x3 l1 l2 l3 hF
    unfold F_Vf_withoutNumbers_4 at hF
    refine r_iload_n f_Vf_withoutNumbers_4 l3 ?_
    refine r_iload_n f_Vf_withoutNumbers_5 l1 ?_
    refine r_icmp_ge f_Vf_withoutNumbers_6 (fun c1 => ?_) (fun c1 => ?_)
    · rw [if_pos c1] at hF
      refine r_iload_n f_Vf_withoutNumbers_21 l2 ?_
      cases hF
      exact r_ireturn f_Vf_withoutNumbers_22 hQ
    · rw [if_neg c1] at hF
      refine r_iload_n f_Vf_withoutNumbers_9 l2 ?_
      refine r_iconst f_Vf_withoutNumbers_10 (v := 1) (by decide) ?_
      cases hq2 : F_Rw_without (x2) ((1 : Int32)) σ with
      | none => simp only [hq2] at hF; cases hF
      | some q2 =>
        simp only [hq2] at hF
        refine t_S2i f_Vf_withoutNumbers_11 (by decide) (Nat.le_of_ble_eq_true rfl) (Nat.le_of_ble_eq_true rfl) (w_Rw_without hB (by omega) (x2) ((1 : Int32))  hq2 ⟨_, rfl, ?_⟩)
        refine r_istore_n f_Vf_withoutNumbers_14 ?_
        refine r_iinc f_Vf_withoutNumbers_15 (lk_put_ne l3 (by decide) (Or.inl rfl)) (w := x3 + 1) rfl ?_
        refine r_goto f_Vf_withoutNumbers_18 ?_
        exact ih _ (q2.2) (x1) (q2.1) ((x3 + 1)) (lk_put_ne (lk_put_ne l1 (by decide) (Or.inl rfl)) (by decide) (Or.inl rfl)) (lk_put_ne lk_put (by decide) (Or.inl rfl)) lk_put hF
def F_Vf_withoutNumbers (a0 : Int32) (a1 : Int32) (σ : SG) : Option (Int32 × SG) :=
  F_Vf_withoutNumbers_4  5000 (a1) (a0) ((0 : Int32)) σ
set_option maxHeartbeats 4000000 in
theorem w_Vf_withoutNumbers {b d : Nat} {pre tl : List PE} {B : Nat} {Q : Option Value → List PE → Prop} {res : Int32 × SG} (hB : B = b + pre.length) (hd : 2 ≤ d)  {σ : SG} (a0 : Int32) (a1 : Int32)  (hF : F_Vf_withoutNumbers a0 a1 σ = some res) (hQ : Q (some (.int res.1)) (HH pre tl SHc B res.2)) : Cl b d 184 [.int (a0), .int (a1)] (HH pre tl SHc B σ) Q := by
  obtain ⟨e0, rfl⟩ : ∃ e, d = e + 1 := ⟨d - 1, by omega⟩
  unfold Cl
  unfold F_Vf_withoutNumbers at hF
  refine r_iload_n f_Vf_withoutNumbers_0 rfl ?_
  refine r_istore_n f_Vf_withoutNumbers_1 ?_
  refine r_iconst f_Vf_withoutNumbers_2 (v := 0) (by decide) ?_
  refine r_istore_n f_Vf_withoutNumbers_3 ?_
  exact w_Vf_withoutNumbers_4 hB hd  hQ 5000 _ (σ) (a1) (a0) ((0 : Int32)) (lk_put_ne (lk_put_ne rfl (by decide) (Or.inl rfl)) (by decide) (Or.inl rfl)) (lk_put_ne lk_put (by decide) (Or.inl rfl)) lk_put hF
theorem f_Vf_rowBehindSimple_0 : fetch 182 0 = some (.iload_n 1, 1, 0, 0, 0) := rfl
theorem f_Vf_rowBehindSimple_1 : fetch 182 1 = some (.tableswitch 189 1 15 #[75, 81, 94, 107, 123, 136, 149, 149, 149, 149, 159, 168, 189, 177, 183], 75, 190, 0, 0) := rfl
theorem f_Vf_rowBehindSimple_76 : fetch 182 76 = some (.iload_n 3, 1, 0, 0, 0) := rfl
theorem f_Vf_rowBehindSimple_77 : fetch 182 77 = some (.iconst 1, 1, 0, 0, 0) := rfl
theorem f_Vf_rowBehindSimple_78 : fetch 182 78 = some (.invokestatic 167, 3, 155, 2, 202) := rfl
theorem f_Vf_rowBehindSimple_81 : fetch 182 81 = some (.ireturn, 1, 0, 0, 0) := rfl
theorem f_Vf_rowBehindSimple_82 : fetch 182 82 = some (.iload_n 3, 1, 0, 0, 0) := rfl
theorem f_Vf_rowBehindSimple_83 : fetch 182 83 = some (.aload_n 0, 1, 0, 0, 0) := rfl
theorem f_Vf_rowBehindSimple_84 : fetch 182 84 = some (.getfield 19, 3, 6, 1, 146) := rfl
theorem f_Vf_rowBehindSimple_87 : fetch 182 87 = some (.iload_n 2, 1, 0, 0, 0) := rfl
theorem f_Vf_rowBehindSimple_88 : fetch 182 88 = some (.invokevirtual 173, 3, 21, 1, 203) := rfl
theorem f_Vf_rowBehindSimple_91 : fetch 182 91 = some (.invokestatic 167, 3, 155, 2, 202) := rfl
theorem f_Vf_rowBehindSimple_94 : fetch 182 94 = some (.ireturn, 1, 0, 0, 0) := rfl
theorem f_Vf_rowBehindSimple_95 : fetch 182 95 = some (.iload_n 3, 1, 0, 0, 0) := rfl
theorem f_Vf_rowBehindSimple_96 : fetch 182 96 = some (.aload_n 0, 1, 0, 0, 0) := rfl
theorem f_Vf_rowBehindSimple_97 : fetch 182 97 = some (.getfield 19, 3, 6, 1, 146) := rfl
theorem f_Vf_rowBehindSimple_100 : fetch 182 100 = some (.iload_n 2, 1, 0, 0, 0) := rfl
theorem f_Vf_rowBehindSimple_101 : fetch 182 101 = some (.invokevirtual 173, 3, 21, 1, 203) := rfl
theorem f_Vf_rowBehindSimple_104 : fetch 182 104 = some (.invokestatic 176, 3, 157, 2, 204) := rfl
theorem f_Vf_rowBehindSimple_107 : fetch 182 107 = some (.ireturn, 1, 0, 0, 0) := rfl
theorem f_Vf_rowBehindSimple_108 : fetch 182 108 = some (.iload_n 3, 1, 0, 0, 0) := rfl
theorem f_Vf_rowBehindSimple_109 : fetch 182 109 = some (.aload_n 0, 1, 0, 0, 0) := rfl
theorem f_Vf_rowBehindSimple_110 : fetch 182 110 = some (.getfield 19, 3, 6, 1, 146) := rfl
theorem f_Vf_rowBehindSimple_113 : fetch 182 113 = some (.iload_n 2, 1, 0, 0, 0) := rfl
theorem f_Vf_rowBehindSimple_114 : fetch 182 114 = some (.invokevirtual 173, 3, 21, 1, 203) := rfl
theorem f_Vf_rowBehindSimple_117 : fetch 182 117 = some (.invokestatic 179, 3, 183, 1, 205) := rfl
theorem f_Vf_rowBehindSimple_120 : fetch 182 120 = some (.invokestatic 167, 3, 155, 2, 202) := rfl
theorem f_Vf_rowBehindSimple_123 : fetch 182 123 = some (.ireturn, 1, 0, 0, 0) := rfl
theorem f_Vf_rowBehindSimple_124 : fetch 182 124 = some (.iload_n 3, 1, 0, 0, 0) := rfl
theorem f_Vf_rowBehindSimple_125 : fetch 182 125 = some (.aload_n 0, 1, 0, 0, 0) := rfl
theorem f_Vf_rowBehindSimple_126 : fetch 182 126 = some (.getfield 19, 3, 6, 1, 146) := rfl
theorem f_Vf_rowBehindSimple_129 : fetch 182 129 = some (.iload_n 2, 1, 0, 0, 0) := rfl
theorem f_Vf_rowBehindSimple_130 : fetch 182 130 = some (.invokevirtual 182, 3, 22, 1, 206) := rfl
theorem f_Vf_rowBehindSimple_133 : fetch 182 133 = some (.invokestatic 167, 3, 155, 2, 202) := rfl
theorem f_Vf_rowBehindSimple_136 : fetch 182 136 = some (.ireturn, 1, 0, 0, 0) := rfl
theorem f_Vf_rowBehindSimple_137 : fetch 182 137 = some (.iload_n 3, 1, 0, 0, 0) := rfl
theorem f_Vf_rowBehindSimple_138 : fetch 182 138 = some (.aload_n 0, 1, 0, 0, 0) := rfl
theorem f_Vf_rowBehindSimple_139 : fetch 182 139 = some (.getfield 19, 3, 6, 1, 146) := rfl
theorem f_Vf_rowBehindSimple_142 : fetch 182 142 = some (.iload_n 2, 1, 0, 0, 0) := rfl
theorem f_Vf_rowBehindSimple_143 : fetch 182 143 = some (.invokevirtual 182, 3, 22, 1, 206) := rfl
theorem f_Vf_rowBehindSimple_146 : fetch 182 146 = some (.invokestatic 176, 3, 157, 2, 204) := rfl
theorem f_Vf_rowBehindSimple_149 : fetch 182 149 = some (.ireturn, 1, 0, 0, 0) := rfl
theorem f_Vf_rowBehindSimple_150 : fetch 182 150 = some (.iload_n 3, 1, 0, 0, 0) := rfl
theorem f_Vf_rowBehindSimple_151 : fetch 182 151 = some (.iconst 2, 1, 0, 0, 0) := rfl
theorem f_Vf_rowBehindSimple_152 : fetch 182 152 = some (.invokestatic 185, 3, 184, 2, 207) := rfl
theorem f_Vf_rowBehindSimple_155 : fetch 182 155 = some (.iconst 1, 1, 0, 0, 0) := rfl
theorem f_Vf_rowBehindSimple_156 : fetch 182 156 = some (.invokestatic 167, 3, 155, 2, 202) := rfl
theorem f_Vf_rowBehindSimple_159 : fetch 182 159 = some (.ireturn, 1, 0, 0, 0) := rfl
theorem f_Vf_rowBehindSimple_160 : fetch 182 160 = some (.iload_n 3, 1, 0, 0, 0) := rfl
theorem f_Vf_rowBehindSimple_161 : fetch 182 161 = some (.iload_n 3, 1, 0, 0, 0) := rfl
theorem f_Vf_rowBehindSimple_162 : fetch 182 162 = some (.invokestatic 188, 3, 159, 1, 208) := rfl
theorem f_Vf_rowBehindSimple_165 : fetch 182 165 = some (.invokestatic 167, 3, 155, 2, 202) := rfl
theorem f_Vf_rowBehindSimple_168 : fetch 182 168 = some (.ireturn, 1, 0, 0, 0) := rfl
theorem f_Vf_rowBehindSimple_169 : fetch 182 169 = some (.iload_n 3, 1, 0, 0, 0) := rfl
theorem f_Vf_rowBehindSimple_170 : fetch 182 170 = some (.iload_n 3, 1, 0, 0, 0) := rfl
theorem f_Vf_rowBehindSimple_171 : fetch 182 171 = some (.invokestatic 188, 3, 159, 1, 208) := rfl
theorem f_Vf_rowBehindSimple_174 : fetch 182 174 = some (.invokestatic 176, 3, 157, 2, 204) := rfl
theorem f_Vf_rowBehindSimple_177 : fetch 182 177 = some (.ireturn, 1, 0, 0, 0) := rfl
theorem f_Vf_rowBehindSimple_178 : fetch 182 178 = some (.iload_n 3, 1, 0, 0, 0) := rfl
theorem f_Vf_rowBehindSimple_179 : fetch 182 179 = some (.iconst 1, 1, 0, 0, 0) := rfl
theorem f_Vf_rowBehindSimple_180 : fetch 182 180 = some (.invokestatic 185, 3, 184, 2, 207) := rfl
theorem f_Vf_rowBehindSimple_183 : fetch 182 183 = some (.ireturn, 1, 0, 0, 0) := rfl
theorem f_Vf_rowBehindSimple_184 : fetch 182 184 = some (.iload_n 3, 1, 0, 0, 0) := rfl
theorem f_Vf_rowBehindSimple_185 : fetch 182 185 = some (.iconst 2, 1, 0, 0, 0) := rfl
theorem f_Vf_rowBehindSimple_186 : fetch 182 186 = some (.invokestatic 185, 3, 184, 2, 207) := rfl
theorem f_Vf_rowBehindSimple_189 : fetch 182 189 = some (.ireturn, 1, 0, 0, 0) := rfl
theorem f_Vf_rowBehindSimple_190 : fetch 182 190 = some (.iload_n 3, 1, 0, 0, 0) := rfl
theorem f_Vf_rowBehindSimple_191 : fetch 182 191 = some (.ireturn, 1, 0, 0, 0) := rfl
def F_Vf_rowBehindSimple_190  (x3 : Int32) (σ : SG) : Option (Int32 × SG) :=
  some (x3, σ)
set_option maxHeartbeats 4000000 in
theorem w_Vf_rowBehindSimple_190 {b d : Nat} {sc : SC} {pre tl : List PE} {B : Nat} {Q : Option Value → List PE → Prop} {res : Int32 × SG} (hB : B = b + pre.length) (hd : 3 ≤ d)   (hQ : Q (some (.int res.1)) (HH pre tl SHc B res.2)) (lv : LV) (σ : SG) (x3 : Int32) (l3 : lv.lookup 3 = some (.int (x3))) (hF : F_Vf_rowBehindSimple_190  x3 σ = some res) : Rn b sc d 182 190 lv [] (HH pre tl SHc B σ) Q := by
  obtain ⟨e0, rfl⟩ : ∃ e, d = e + 1 := ⟨d - 1, by omega⟩
  unfold F_Vf_rowBehindSimple_190 at hF
  refine r_iload_n f_Vf_rowBehindSimple_190 l3 ?_
  cases hF
  exact r_ireturn f_Vf_rowBehindSimple_191 hQ
def F_Vf_rowBehindSimple_150  (x3 : Int32) (σ : SG) : Option (Int32 × SG) :=
  match F_Vf_withoutNumbers (x3) ((2 : Int32)) σ with
  | none => none
  | some q1 =>
  match F_Rw_with (q1.1) ((1 : Int32)) q1.2 with
  | none => none
  | some q2 =>
  some (q2.1, q2.2)
set_option maxHeartbeats 4000000 in
theorem w_Vf_rowBehindSimple_150 {b d : Nat} {sc : SC} {pre tl : List PE} {B : Nat} {Q : Option Value → List PE → Prop} {res : Int32 × SG} (hB : B = b + pre.length) (hd : 3 ≤ d)   (hQ : Q (some (.int res.1)) (HH pre tl SHc B res.2)) (lv : LV) (σ : SG) (x3 : Int32) (l3 : lv.lookup 3 = some (.int (x3))) (hF : F_Vf_rowBehindSimple_150  x3 σ = some res) : Rn b sc d 182 150 lv [] (HH pre tl SHc B σ) Q := by
  obtain ⟨e0, rfl⟩ : ∃ e, d = e + 1 := ⟨d - 1, by omega⟩
  unfold F_Vf_rowBehindSimple_150 at hF
  refine r_iload_n f_Vf_rowBehindSimple_150 l3 ?_
  refine r_iconst f_Vf_rowBehindSimple_151 (v := 2) (by decide) ?_
  cases hq1 : F_Vf_withoutNumbers (x3) ((2 : Int32)) σ with
  | none => simp only [hq1] at hF; cases hF
  | some q1 =>
    simp only [hq1] at hF
    refine t_S2i f_Vf_rowBehindSimple_152 (by decide) (Nat.le_of_ble_eq_true rfl) (Nat.le_of_ble_eq_true rfl) (w_Vf_withoutNumbers hB (by omega) (x3) ((2 : Int32))  hq1 ⟨_, rfl, ?_⟩)
    refine r_iconst f_Vf_rowBehindSimple_155 (v := 1) (by decide) ?_
    cases hq2 : F_Rw_with (q1.1) ((1 : Int32)) q1.2 with
    | none => simp only [hq2] at hF; cases hF
    | some q2 =>
      simp only [hq2] at hF
      refine t_S2i f_Vf_rowBehindSimple_156 (by decide) (Nat.le_of_ble_eq_true rfl) (Nat.le_of_ble_eq_true rfl) (w_Rw_with hB (by omega) (q1.1) ((1 : Int32))  hq2 ⟨_, rfl, ?_⟩)
      cases hF
      exact r_ireturn f_Vf_rowBehindSimple_159 hQ
def F_Vf_rowBehindSimple (a0 : Nat) (a1 : Int32) (a2 : Int32) (a3 : Int32) (σ : SG) : Option (Int32 × SG) :=
  if a1 = 1 then
  match F_Rw_with (a3) ((1 : Int32)) σ with
  | none => none
  | some q4 =>
  some (q4.1, q4.2)
  else if a1 = 2 then
  if isC SHc ((σ.2.2.1 (a0) 1)) 2 = true then
  match F_Me_localType ((σ.2.2.1 (a0) 1)) (a2) σ with
  | none => none
  | some q7 =>
  match F_Rw_with (a3) (q7.1) q7.2 with
  | none => none
  | some q8 =>
  some (q8.1, q8.2)
  else none
  else if a1 = 3 then
  if isC SHc ((σ.2.2.1 (a0) 1)) 2 = true then
  match F_Me_localType ((σ.2.2.1 (a0) 1)) (a2) σ with
  | none => none
  | some q11 =>
  match F_Rw_without (a3) (q11.1) q11.2 with
  | none => none
  | some q12 =>
  some (q12.1, q12.2)
  else none
  else if a1 = 4 then
  if isC SHc ((σ.2.2.1 (a0) 1)) 2 = true then
  match F_Me_localType ((σ.2.2.1 (a0) 1)) (a2) σ with
  | none => none
  | some q15 =>
  match F_Vf_placeOf (q15.1) q15.2 with
  | none => none
  | some q16 =>
  match F_Rw_with (a3) (q16.1) q16.2 with
  | none => none
  | some q17 =>
  some (q17.1, q17.2)
  else none
  else if a1 = 5 then
  if isC SHc ((σ.2.2.1 (a0) 1)) 2 = true then
  match F_Me_argumentType ((σ.2.2.1 (a0) 1)) (a2) σ with
  | none => none
  | some q20 =>
  match F_Rw_with (a3) (q20.1) q20.2 with
  | none => none
  | some q21 =>
  some (q21.1, q21.2)
  else none
  else if a1 = 6 then
  if isC SHc ((σ.2.2.1 (a0) 1)) 2 = true then
  match F_Me_argumentType ((σ.2.2.1 (a0) 1)) (a2) σ with
  | none => none
  | some q24 =>
  match F_Rw_without (a3) (q24.1) q24.2 with
  | none => none
  | some q25 =>
  some (q25.1, q25.2)
  else none
  else if a1 = 7 then
  F_Vf_rowBehindSimple_150 (a3) σ
  else if a1 = 8 then
  F_Vf_rowBehindSimple_150 (a3) σ
  else if a1 = 9 then
  F_Vf_rowBehindSimple_150 (a3) σ
  else if a1 = 10 then
  F_Vf_rowBehindSimple_150 (a3) σ
  else if a1 = 11 then
  match F_Rw_top (a3) σ with
  | none => none
  | some q31 =>
  match F_Rw_with (a3) (q31.1) q31.2 with
  | none => none
  | some q32 =>
  some (q32.1, q32.2)
  else if a1 = 12 then
  match F_Rw_top (a3) σ with
  | none => none
  | some q34 =>
  match F_Rw_without (a3) (q34.1) q34.2 with
  | none => none
  | some q35 =>
  some (q35.1, q35.2)
  else if a1 = 13 then
  F_Vf_rowBehindSimple_190 (a3) σ
  else if a1 = 14 then
  match F_Vf_withoutNumbers (a3) ((1 : Int32)) σ with
  | none => none
  | some q38 =>
  some (q38.1, q38.2)
  else if a1 = 15 then
  match F_Vf_withoutNumbers (a3) ((2 : Int32)) σ with
  | none => none
  | some q40 =>
  some (q40.1, q40.2)
  else F_Vf_rowBehindSimple_190 (a3) σ
set_option maxHeartbeats 4000000 in
theorem w_Vf_rowBehindSimple {b d : Nat} {pre tl : List PE} {B : Nat} {Q : Option Value → List PE → Prop} {res : Int32 × SG} (hB : B = b + pre.length) (hd : 3 ≤ d)  {σ : SG} (a0 : Nat) (a1 : Int32) (a2 : Int32) (a3 : Int32) (ha0 : isC SHc (a0) 6 = true) (hF : F_Vf_rowBehindSimple a0 a1 a2 a3 σ = some res) (hQ : Q (some (.int res.1)) (HH pre tl SHc B res.2)) : Cl b d 182 [.ref (B + (a0)), .int (a1), .int (a2), .int (a3)] (HH pre tl SHc B σ) Q := by
  obtain ⟨e0, rfl⟩ : ∃ e, d = e + 1 := ⟨d - 1, by omega⟩
  unfold Cl
  unfold F_Vf_rowBehindSimple at hF
  refine r_iload_n f_Vf_rowBehindSimple_0 rfl ?_
  by_cases c3 : a1 = 1
  · rw [if_pos c3] at hF
    refine r_tswI (t := 76) (off := 75) 0 f_Vf_rowBehindSimple_1 (by rw [c3]; decide) (by rw [c3]; decide) (by rfl) (by decide) ?_
    refine r_iload_n f_Vf_rowBehindSimple_76 rfl ?_
    refine r_iconst f_Vf_rowBehindSimple_77 (v := 1) (by decide) ?_
    cases hq4 : F_Rw_with (a3) ((1 : Int32)) σ with
    | none => simp only [hq4] at hF; cases hF
    | some q4 =>
      simp only [hq4] at hF
      refine t_S2i f_Vf_rowBehindSimple_78 (by decide) (Nat.le_of_ble_eq_true rfl) (Nat.le_of_ble_eq_true rfl) (w_Rw_with hB (by omega) (a3) ((1 : Int32))  hq4 ⟨_, rfl, ?_⟩)
      cases hF
      exact r_ireturn f_Vf_rowBehindSimple_81 hQ
  rw [if_neg c3] at hF
  by_cases c5 : a1 = 2
  · rw [if_pos c5] at hF
    refine r_tswI (t := 82) (off := 81) 1 f_Vf_rowBehindSimple_1 (by rw [c5]; decide) (by rw [c5]; decide) (by rfl) (by decide) ?_
    refine r_iload_n f_Vf_rowBehindSimple_82 rfl ?_
    refine r_aload_n f_Vf_rowBehindSimple_83 rfl ?_
    by_cases c6 : isC SHc ((σ.2.2.1 (a0) 1)) 2 = true
    case neg => rw [if_neg c6] at hF; cases hF
    rw [if_pos c6] at hF
    refine t_getm hB ha0 f_Vf_rowBehindSimple_84 rfl ?_
    refine r_iload_n f_Vf_rowBehindSimple_87 rfl ?_
    cases hq7 : F_Me_localType ((σ.2.2.1 (a0) 1)) (a2) σ with
    | none => simp only [hq7] at hF; cases hF
    | some q7 =>
      simp only [hq7] at hF
      refine t_V1i hB c6 rfl rfl f_Vf_rowBehindSimple_88 (by decide) (Nat.le_of_ble_eq_true rfl) (Nat.le_of_ble_eq_true rfl) (w_Me_localType hB  ((σ.2.2.1 (a0) 1)) (a2) c6 hq7 ⟨_, rfl, ?_⟩)
      cases hq8 : F_Rw_with (a3) (q7.1) q7.2 with
      | none => simp only [hq8] at hF; cases hF
      | some q8 =>
        simp only [hq8] at hF
        refine t_S2i f_Vf_rowBehindSimple_91 (by decide) (Nat.le_of_ble_eq_true rfl) (Nat.le_of_ble_eq_true rfl) (w_Rw_with hB (by omega) (a3) (q7.1)  hq8 ⟨_, rfl, ?_⟩)
        cases hF
        exact r_ireturn f_Vf_rowBehindSimple_94 hQ
  rw [if_neg c5] at hF
  by_cases c9 : a1 = 3
  · rw [if_pos c9] at hF
    refine r_tswI (t := 95) (off := 94) 2 f_Vf_rowBehindSimple_1 (by rw [c9]; decide) (by rw [c9]; decide) (by rfl) (by decide) ?_
    refine r_iload_n f_Vf_rowBehindSimple_95 rfl ?_
    refine r_aload_n f_Vf_rowBehindSimple_96 rfl ?_
    by_cases c10 : isC SHc ((σ.2.2.1 (a0) 1)) 2 = true
    case neg => rw [if_neg c10] at hF; cases hF
    rw [if_pos c10] at hF
    refine t_getm hB ha0 f_Vf_rowBehindSimple_97 rfl ?_
    refine r_iload_n f_Vf_rowBehindSimple_100 rfl ?_
    cases hq11 : F_Me_localType ((σ.2.2.1 (a0) 1)) (a2) σ with
    | none => simp only [hq11] at hF; cases hF
    | some q11 =>
      simp only [hq11] at hF
      refine t_V1i hB c10 rfl rfl f_Vf_rowBehindSimple_101 (by decide) (Nat.le_of_ble_eq_true rfl) (Nat.le_of_ble_eq_true rfl) (w_Me_localType hB  ((σ.2.2.1 (a0) 1)) (a2) c10 hq11 ⟨_, rfl, ?_⟩)
      cases hq12 : F_Rw_without (a3) (q11.1) q11.2 with
      | none => simp only [hq12] at hF; cases hF
      | some q12 =>
        simp only [hq12] at hF
        refine t_S2i f_Vf_rowBehindSimple_104 (by decide) (Nat.le_of_ble_eq_true rfl) (Nat.le_of_ble_eq_true rfl) (w_Rw_without hB (by omega) (a3) (q11.1)  hq12 ⟨_, rfl, ?_⟩)
        cases hF
        exact r_ireturn f_Vf_rowBehindSimple_107 hQ
  rw [if_neg c9] at hF
  by_cases c13 : a1 = 4
  · rw [if_pos c13] at hF
    refine r_tswI (t := 108) (off := 107) 3 f_Vf_rowBehindSimple_1 (by rw [c13]; decide) (by rw [c13]; decide) (by rfl) (by decide) ?_
    refine r_iload_n f_Vf_rowBehindSimple_108 rfl ?_
    refine r_aload_n f_Vf_rowBehindSimple_109 rfl ?_
    by_cases c14 : isC SHc ((σ.2.2.1 (a0) 1)) 2 = true
    case neg => rw [if_neg c14] at hF; cases hF
    rw [if_pos c14] at hF
    refine t_getm hB ha0 f_Vf_rowBehindSimple_110 rfl ?_
    refine r_iload_n f_Vf_rowBehindSimple_113 rfl ?_
    cases hq15 : F_Me_localType ((σ.2.2.1 (a0) 1)) (a2) σ with
    | none => simp only [hq15] at hF; cases hF
    | some q15 =>
      simp only [hq15] at hF
      refine t_V1i hB c14 rfl rfl f_Vf_rowBehindSimple_114 (by decide) (Nat.le_of_ble_eq_true rfl) (Nat.le_of_ble_eq_true rfl) (w_Me_localType hB  ((σ.2.2.1 (a0) 1)) (a2) c14 hq15 ⟨_, rfl, ?_⟩)
      cases hq16 : F_Vf_placeOf (q15.1) q15.2 with
      | none => simp only [hq16] at hF; cases hF
      | some q16 =>
        simp only [hq16] at hF
        refine t_S1i f_Vf_rowBehindSimple_117 (by decide) (Nat.le_of_ble_eq_true rfl) (Nat.le_of_ble_eq_true rfl) (w_Vf_placeOf hB  (q15.1)  hq16 ⟨_, rfl, ?_⟩)
        cases hq17 : F_Rw_with (a3) (q16.1) q16.2 with
        | none => simp only [hq17] at hF; cases hF
        | some q17 =>
          simp only [hq17] at hF
          refine t_S2i f_Vf_rowBehindSimple_120 (by decide) (Nat.le_of_ble_eq_true rfl) (Nat.le_of_ble_eq_true rfl) (w_Rw_with hB (by omega) (a3) (q16.1)  hq17 ⟨_, rfl, ?_⟩)
          cases hF
          exact r_ireturn f_Vf_rowBehindSimple_123 hQ
  rw [if_neg c13] at hF
  by_cases c18 : a1 = 5
  · rw [if_pos c18] at hF
    refine r_tswI (t := 124) (off := 123) 4 f_Vf_rowBehindSimple_1 (by rw [c18]; decide) (by rw [c18]; decide) (by rfl) (by decide) ?_
    refine r_iload_n f_Vf_rowBehindSimple_124 rfl ?_
    refine r_aload_n f_Vf_rowBehindSimple_125 rfl ?_
    by_cases c19 : isC SHc ((σ.2.2.1 (a0) 1)) 2 = true
    case neg => rw [if_neg c19] at hF; cases hF
    rw [if_pos c19] at hF
    refine t_getm hB ha0 f_Vf_rowBehindSimple_126 rfl ?_
    refine r_iload_n f_Vf_rowBehindSimple_129 rfl ?_
    cases hq20 : F_Me_argumentType ((σ.2.2.1 (a0) 1)) (a2) σ with
    | none => simp only [hq20] at hF; cases hF
    | some q20 =>
      simp only [hq20] at hF
      refine t_V1i hB c19 rfl rfl f_Vf_rowBehindSimple_130 (by decide) (Nat.le_of_ble_eq_true rfl) (Nat.le_of_ble_eq_true rfl) (w_Me_argumentType hB  ((σ.2.2.1 (a0) 1)) (a2) c19 hq20 ⟨_, rfl, ?_⟩)
      cases hq21 : F_Rw_with (a3) (q20.1) q20.2 with
      | none => simp only [hq21] at hF; cases hF
      | some q21 =>
        simp only [hq21] at hF
        refine t_S2i f_Vf_rowBehindSimple_133 (by decide) (Nat.le_of_ble_eq_true rfl) (Nat.le_of_ble_eq_true rfl) (w_Rw_with hB (by omega) (a3) (q20.1)  hq21 ⟨_, rfl, ?_⟩)
        cases hF
        exact r_ireturn f_Vf_rowBehindSimple_136 hQ
  rw [if_neg c18] at hF
  by_cases c22 : a1 = 6
  · rw [if_pos c22] at hF
    refine r_tswI (t := 137) (off := 136) 5 f_Vf_rowBehindSimple_1 (by rw [c22]; decide) (by rw [c22]; decide) (by rfl) (by decide) ?_
    refine r_iload_n f_Vf_rowBehindSimple_137 rfl ?_
    refine r_aload_n f_Vf_rowBehindSimple_138 rfl ?_
    by_cases c23 : isC SHc ((σ.2.2.1 (a0) 1)) 2 = true
    case neg => rw [if_neg c23] at hF; cases hF
    rw [if_pos c23] at hF
    refine t_getm hB ha0 f_Vf_rowBehindSimple_139 rfl ?_
    refine r_iload_n f_Vf_rowBehindSimple_142 rfl ?_
    cases hq24 : F_Me_argumentType ((σ.2.2.1 (a0) 1)) (a2) σ with
    | none => simp only [hq24] at hF; cases hF
    | some q24 =>
      simp only [hq24] at hF
      refine t_V1i hB c23 rfl rfl f_Vf_rowBehindSimple_143 (by decide) (Nat.le_of_ble_eq_true rfl) (Nat.le_of_ble_eq_true rfl) (w_Me_argumentType hB  ((σ.2.2.1 (a0) 1)) (a2) c23 hq24 ⟨_, rfl, ?_⟩)
      cases hq25 : F_Rw_without (a3) (q24.1) q24.2 with
      | none => simp only [hq25] at hF; cases hF
      | some q25 =>
        simp only [hq25] at hF
        refine t_S2i f_Vf_rowBehindSimple_146 (by decide) (Nat.le_of_ble_eq_true rfl) (Nat.le_of_ble_eq_true rfl) (w_Rw_without hB (by omega) (a3) (q24.1)  hq25 ⟨_, rfl, ?_⟩)
        cases hF
        exact r_ireturn f_Vf_rowBehindSimple_149 hQ
  rw [if_neg c22] at hF
  by_cases c26 : a1 = 7
  · rw [if_pos c26] at hF
    refine r_tswI (t := 150) (off := 149) 6 f_Vf_rowBehindSimple_1 (by rw [c26]; decide) (by rw [c26]; decide) (by rfl) (by decide) ?_
    exact w_Vf_rowBehindSimple_150 hB hd  hQ _ (σ) (a3) rfl hF
  rw [if_neg c26] at hF
  by_cases c27 : a1 = 8
  · rw [if_pos c27] at hF
    refine r_tswI (t := 150) (off := 149) 7 f_Vf_rowBehindSimple_1 (by rw [c27]; decide) (by rw [c27]; decide) (by rfl) (by decide) ?_
    exact w_Vf_rowBehindSimple_150 hB hd  hQ _ (σ) (a3) rfl hF
  rw [if_neg c27] at hF
  by_cases c28 : a1 = 9
  · rw [if_pos c28] at hF
    refine r_tswI (t := 150) (off := 149) 8 f_Vf_rowBehindSimple_1 (by rw [c28]; decide) (by rw [c28]; decide) (by rfl) (by decide) ?_
    exact w_Vf_rowBehindSimple_150 hB hd  hQ _ (σ) (a3) rfl hF
  rw [if_neg c28] at hF
  by_cases c29 : a1 = 10
  · rw [if_pos c29] at hF
    refine r_tswI (t := 150) (off := 149) 9 f_Vf_rowBehindSimple_1 (by rw [c29]; decide) (by rw [c29]; decide) (by rfl) (by decide) ?_
    exact w_Vf_rowBehindSimple_150 hB hd  hQ _ (σ) (a3) rfl hF
  rw [if_neg c29] at hF
  by_cases c30 : a1 = 11
  · rw [if_pos c30] at hF
    refine r_tswI (t := 160) (off := 159) 10 f_Vf_rowBehindSimple_1 (by rw [c30]; decide) (by rw [c30]; decide) (by rfl) (by decide) ?_
    refine r_iload_n f_Vf_rowBehindSimple_160 rfl ?_
    refine r_iload_n f_Vf_rowBehindSimple_161 rfl ?_
    cases hq31 : F_Rw_top (a3) σ with
    | none => simp only [hq31] at hF; cases hF
    | some q31 =>
      simp only [hq31] at hF
      refine t_S1i f_Vf_rowBehindSimple_162 (by decide) (Nat.le_of_ble_eq_true rfl) (Nat.le_of_ble_eq_true rfl) (w_Rw_top hB (by omega) (a3)  hq31 ⟨_, rfl, ?_⟩)
      cases hq32 : F_Rw_with (a3) (q31.1) q31.2 with
      | none => simp only [hq32] at hF; cases hF
      | some q32 =>
        simp only [hq32] at hF
        refine t_S2i f_Vf_rowBehindSimple_165 (by decide) (Nat.le_of_ble_eq_true rfl) (Nat.le_of_ble_eq_true rfl) (w_Rw_with hB (by omega) (a3) (q31.1)  hq32 ⟨_, rfl, ?_⟩)
        cases hF
        exact r_ireturn f_Vf_rowBehindSimple_168 hQ
  rw [if_neg c30] at hF
  by_cases c33 : a1 = 12
  · rw [if_pos c33] at hF
    refine r_tswI (t := 169) (off := 168) 11 f_Vf_rowBehindSimple_1 (by rw [c33]; decide) (by rw [c33]; decide) (by rfl) (by decide) ?_
    refine r_iload_n f_Vf_rowBehindSimple_169 rfl ?_
    refine r_iload_n f_Vf_rowBehindSimple_170 rfl ?_
    cases hq34 : F_Rw_top (a3) σ with
    | none => simp only [hq34] at hF; cases hF
    | some q34 =>
      simp only [hq34] at hF
      refine t_S1i f_Vf_rowBehindSimple_171 (by decide) (Nat.le_of_ble_eq_true rfl) (Nat.le_of_ble_eq_true rfl) (w_Rw_top hB (by omega) (a3)  hq34 ⟨_, rfl, ?_⟩)
      cases hq35 : F_Rw_without (a3) (q34.1) q34.2 with
      | none => simp only [hq35] at hF; cases hF
      | some q35 =>
        simp only [hq35] at hF
        refine t_S2i f_Vf_rowBehindSimple_174 (by decide) (Nat.le_of_ble_eq_true rfl) (Nat.le_of_ble_eq_true rfl) (w_Rw_without hB (by omega) (a3) (q34.1)  hq35 ⟨_, rfl, ?_⟩)
        cases hF
        exact r_ireturn f_Vf_rowBehindSimple_177 hQ
  rw [if_neg c33] at hF
  by_cases c36 : a1 = 13
  · rw [if_pos c36] at hF
    refine r_tswI (t := 190) (off := 189) 12 f_Vf_rowBehindSimple_1 (by rw [c36]; decide) (by rw [c36]; decide) (by rfl) (by decide) ?_
    exact w_Vf_rowBehindSimple_190 hB hd  hQ _ (σ) (a3) rfl hF
  rw [if_neg c36] at hF
  by_cases c37 : a1 = 14
  · rw [if_pos c37] at hF
    refine r_tswI (t := 178) (off := 177) 13 f_Vf_rowBehindSimple_1 (by rw [c37]; decide) (by rw [c37]; decide) (by rfl) (by decide) ?_
    refine r_iload_n f_Vf_rowBehindSimple_178 rfl ?_
    refine r_iconst f_Vf_rowBehindSimple_179 (v := 1) (by decide) ?_
    cases hq38 : F_Vf_withoutNumbers (a3) ((1 : Int32)) σ with
    | none => simp only [hq38] at hF; cases hF
    | some q38 =>
      simp only [hq38] at hF
      refine t_S2i f_Vf_rowBehindSimple_180 (by decide) (Nat.le_of_ble_eq_true rfl) (Nat.le_of_ble_eq_true rfl) (w_Vf_withoutNumbers hB (by omega) (a3) ((1 : Int32))  hq38 ⟨_, rfl, ?_⟩)
      cases hF
      exact r_ireturn f_Vf_rowBehindSimple_183 hQ
  rw [if_neg c37] at hF
  by_cases c39 : a1 = 15
  · rw [if_pos c39] at hF
    refine r_tswI (t := 184) (off := 183) 14 f_Vf_rowBehindSimple_1 (by rw [c39]; decide) (by rw [c39]; decide) (by rfl) (by decide) ?_
    refine r_iload_n f_Vf_rowBehindSimple_184 rfl ?_
    refine r_iconst f_Vf_rowBehindSimple_185 (v := 2) (by decide) ?_
    cases hq40 : F_Vf_withoutNumbers (a3) ((2 : Int32)) σ with
    | none => simp only [hq40] at hF; cases hF
    | some q40 =>
      simp only [hq40] at hF
      refine t_S2i f_Vf_rowBehindSimple_186 (by decide) (Nat.le_of_ble_eq_true rfl) (Nat.le_of_ble_eq_true rfl) (w_Vf_withoutNumbers hB (by omega) (a3) ((2 : Int32))  hq40 ⟨_, rfl, ?_⟩)
      cases hF
      exact r_ireturn f_Vf_rowBehindSimple_189 hQ
  rw [if_neg c39] at hF
  refine r_tswO f_Vf_rowBehindSimple_1 (by have zc3 := lv_neT c3 (by decide : (1 : Int32).toInt = 1); have zc5 := lv_neT c5 (by decide : (2 : Int32).toInt = 2); have zc9 := lv_neT c9 (by decide : (3 : Int32).toInt = 3); have zc13 := lv_neT c13 (by decide : (4 : Int32).toInt = 4); have zc18 := lv_neT c18 (by decide : (5 : Int32).toInt = 5); have zc22 := lv_neT c22 (by decide : (6 : Int32).toInt = 6); have zc26 := lv_neT c26 (by decide : (7 : Int32).toInt = 7); have zc27 := lv_neT c27 (by decide : (8 : Int32).toInt = 8); have zc28 := lv_neT c28 (by decide : (9 : Int32).toInt = 9); have zc29 := lv_neT c29 (by decide : (10 : Int32).toInt = 10); have zc30 := lv_neT c30 (by decide : (11 : Int32).toInt = 11); have zc33 := lv_neT c33 (by decide : (12 : Int32).toInt = 12); have zc36 := lv_neT c36 (by decide : (13 : Int32).toInt = 13); have zc37 := lv_neT c37 (by decide : (14 : Int32).toInt = 14); have zc39 := lv_neT c39 (by decide : (15 : Int32).toInt = 15); omega) ?_
  exact w_Vf_rowBehindSimple_190 hB hd  hQ _ (σ) (a3) rfl hF
theorem f_Vf_rowBehindThing_0 : fetch 185 0 = some (.aload_n 0, 1, 0, 0, 0) := rfl
theorem f_Vf_rowBehindThing_1 : fetch 185 1 = some (.getfield 7, 3, 6, 0, 144) := rfl
theorem f_Vf_rowBehindThing_4 : fetch 185 4 = some (.iload_n 2, 1, 0, 0, 0) := rfl
theorem f_Vf_rowBehindThing_5 : fetch 185 5 = some (.invokevirtual 191, 3, 14, 1, 209) := rfl
theorem f_Vf_rowBehindThing_8 : fetch 185 8 = some (.istore 4, 2, 0, 0, 0) := rfl
theorem f_Vf_rowBehindThing_10 : fetch 185 10 = some (.iload 4, 2, 0, 0, 0) := rfl
theorem f_Vf_rowBehindThing_12 : fetch 185 12 = some (.ifCond .ne 7, 3, 19, 0, 0) := rfl
theorem f_Vf_rowBehindThing_15 : fetch 185 15 = some (.iconst 0, 1, 0, 0, 0) := rfl
theorem f_Vf_rowBehindThing_16 : fetch 185 16 = some (.goto 9, 3, 25, 0, 0) := rfl
theorem f_Vf_rowBehindThing_19 : fetch 185 19 = some (.bipush 8, 2, 0, 0, 0) := rfl
theorem f_Vf_rowBehindThing_21 : fetch 185 21 = some (.iload_n 2, 1, 0, 0, 0) := rfl
theorem f_Vf_rowBehindThing_22 : fetch 185 22 = some (.iconst 4, 1, 0, 0, 0) := rfl
theorem f_Vf_rowBehindThing_23 : fetch 185 23 = some (.idiv, 1, 0, 0, 0) := rfl
theorem f_Vf_rowBehindThing_24 : fetch 185 24 = some (.iadd, 1, 0, 0, 0) := rfl
theorem f_Vf_rowBehindThing_25 : fetch 185 25 = some (.istore 5, 2, 0, 0, 0) := rfl
theorem f_Vf_rowBehindThing_27 : fetch 185 27 = some (.iload_n 1, 1, 0, 0, 0) := rfl
theorem f_Vf_rowBehindThing_28 : fetch 185 28 = some (.tableswitch 198 16 25 #[56, 77, 101, 113, 125, 140, 150, 164, 174, 188], 56, 226, 0, 0) := rfl
theorem f_Vf_rowBehindThing_84 : fetch 185 84 = some (.iload_n 3, 1, 0, 0, 0) := rfl
theorem f_Vf_rowBehindThing_85 : fetch 185 85 = some (.aload_n 0, 1, 0, 0, 0) := rfl
theorem f_Vf_rowBehindThing_86 : fetch 185 86 = some (.getfield 7, 3, 6, 0, 144) := rfl
theorem f_Vf_rowBehindThing_89 : fetch 185 89 = some (.iload_n 2, 1, 0, 0, 0) := rfl
theorem f_Vf_rowBehindThing_90 : fetch 185 90 = some (.invokevirtual 194, 3, 12, 1, 210) := rfl
theorem f_Vf_rowBehindThing_93 : fetch 185 93 = some (.ifCond .eq 7, 3, 100, 0, 0) := rfl
theorem f_Vf_rowBehindThing_96 : fetch 185 96 = some (.iload_n 2, 1, 0, 0, 0) := rfl
theorem f_Vf_rowBehindThing_97 : fetch 185 97 = some (.goto 4, 3, 101, 0, 0) := rfl
theorem f_Vf_rowBehindThing_100 : fetch 185 100 = some (.iconst 0, 1, 0, 0, 0) := rfl
theorem f_Vf_rowBehindThing_101 : fetch 185 101 = some (.invokestatic 167, 3, 155, 2, 202) := rfl
theorem f_Vf_rowBehindThing_104 : fetch 185 104 = some (.ireturn, 1, 0, 0, 0) := rfl
theorem f_Vf_rowBehindThing_105 : fetch 185 105 = some (.iload_n 3, 1, 0, 0, 0) := rfl
theorem f_Vf_rowBehindThing_106 : fetch 185 106 = some (.aload_n 0, 1, 0, 0, 0) := rfl
theorem f_Vf_rowBehindThing_107 : fetch 185 107 = some (.getfield 7, 3, 6, 0, 144) := rfl
theorem f_Vf_rowBehindThing_110 : fetch 185 110 = some (.iload_n 2, 1, 0, 0, 0) := rfl
theorem f_Vf_rowBehindThing_111 : fetch 185 111 = some (.invokevirtual 197, 3, 13, 1, 211) := rfl
theorem f_Vf_rowBehindThing_114 : fetch 185 114 = some (.ifCond .eq 10, 3, 124, 0, 0) := rfl
theorem f_Vf_rowBehindThing_117 : fetch 185 117 = some (.bipush 8, 2, 0, 0, 0) := rfl
theorem f_Vf_rowBehindThing_119 : fetch 185 119 = some (.iload_n 2, 1, 0, 0, 0) := rfl
theorem f_Vf_rowBehindThing_120 : fetch 185 120 = some (.iadd, 1, 0, 0, 0) := rfl
theorem f_Vf_rowBehindThing_121 : fetch 185 121 = some (.goto 4, 3, 125, 0, 0) := rfl
theorem f_Vf_rowBehindThing_124 : fetch 185 124 = some (.iconst 0, 1, 0, 0, 0) := rfl
theorem f_Vf_rowBehindThing_125 : fetch 185 125 = some (.invokestatic 167, 3, 155, 2, 202) := rfl
theorem f_Vf_rowBehindThing_128 : fetch 185 128 = some (.ireturn, 1, 0, 0, 0) := rfl
theorem f_Vf_rowBehindThing_129 : fetch 185 129 = some (.iload_n 3, 1, 0, 0, 0) := rfl
theorem f_Vf_rowBehindThing_130 : fetch 185 130 = some (.iload 5, 2, 0, 0, 0) := rfl
theorem f_Vf_rowBehindThing_132 : fetch 185 132 = some (.invokestatic 176, 3, 157, 2, 204) := rfl
theorem f_Vf_rowBehindThing_135 : fetch 185 135 = some (.iload 4, 2, 0, 0, 0) := rfl
theorem f_Vf_rowBehindThing_137 : fetch 185 137 = some (.invokestatic 167, 3, 155, 2, 202) := rfl
theorem f_Vf_rowBehindThing_140 : fetch 185 140 = some (.ireturn, 1, 0, 0, 0) := rfl
theorem f_Vf_rowBehindThing_141 : fetch 185 141 = some (.iload_n 3, 1, 0, 0, 0) := rfl
theorem f_Vf_rowBehindThing_142 : fetch 185 142 = some (.iload 4, 2, 0, 0, 0) := rfl
theorem f_Vf_rowBehindThing_144 : fetch 185 144 = some (.invokestatic 176, 3, 157, 2, 204) := rfl
theorem f_Vf_rowBehindThing_147 : fetch 185 147 = some (.iload 5, 2, 0, 0, 0) := rfl
theorem f_Vf_rowBehindThing_149 : fetch 185 149 = some (.invokestatic 176, 3, 157, 2, 204) := rfl
theorem f_Vf_rowBehindThing_152 : fetch 185 152 = some (.ireturn, 1, 0, 0, 0) := rfl
theorem f_Vf_rowBehindThing_153 : fetch 185 153 = some (.iload_n 3, 1, 0, 0, 0) := rfl
theorem f_Vf_rowBehindThing_154 : fetch 185 154 = some (.iload 5, 2, 0, 0, 0) := rfl
theorem f_Vf_rowBehindThing_156 : fetch 185 156 = some (.invokestatic 176, 3, 157, 2, 204) := rfl
theorem f_Vf_rowBehindThing_159 : fetch 185 159 = some (.iload 4, 2, 0, 0, 0) := rfl
theorem f_Vf_rowBehindThing_161 : fetch 185 161 = some (.invokestatic 179, 3, 183, 1, 205) := rfl
theorem f_Vf_rowBehindThing_164 : fetch 185 164 = some (.invokestatic 167, 3, 155, 2, 202) := rfl
theorem f_Vf_rowBehindThing_167 : fetch 185 167 = some (.ireturn, 1, 0, 0, 0) := rfl
theorem f_Vf_rowBehindThing_168 : fetch 185 168 = some (.iload_n 3, 1, 0, 0, 0) := rfl
theorem f_Vf_rowBehindThing_169 : fetch 185 169 = some (.iconst 1, 1, 0, 0, 0) := rfl
theorem f_Vf_rowBehindThing_170 : fetch 185 170 = some (.invokestatic 185, 3, 184, 2, 207) := rfl
theorem f_Vf_rowBehindThing_173 : fetch 185 173 = some (.iconst 4, 1, 0, 0, 0) := rfl
theorem f_Vf_rowBehindThing_174 : fetch 185 174 = some (.invokestatic 167, 3, 155, 2, 202) := rfl
theorem f_Vf_rowBehindThing_177 : fetch 185 177 = some (.ireturn, 1, 0, 0, 0) := rfl
theorem f_Vf_rowBehindThing_178 : fetch 185 178 = some (.iload_n 3, 1, 0, 0, 0) := rfl
theorem f_Vf_rowBehindThing_179 : fetch 185 179 = some (.iconst 1, 1, 0, 0, 0) := rfl
theorem f_Vf_rowBehindThing_180 : fetch 185 180 = some (.invokestatic 185, 3, 184, 2, 207) := rfl
theorem f_Vf_rowBehindThing_183 : fetch 185 183 = some (.iconst 4, 1, 0, 0, 0) := rfl
theorem f_Vf_rowBehindThing_184 : fetch 185 184 = some (.invokestatic 176, 3, 157, 2, 204) := rfl
theorem f_Vf_rowBehindThing_187 : fetch 185 187 = some (.iconst 1, 1, 0, 0, 0) := rfl
theorem f_Vf_rowBehindThing_188 : fetch 185 188 = some (.invokestatic 167, 3, 155, 2, 202) := rfl
theorem f_Vf_rowBehindThing_191 : fetch 185 191 = some (.ireturn, 1, 0, 0, 0) := rfl
theorem f_Vf_rowBehindThing_192 : fetch 185 192 = some (.iload_n 3, 1, 0, 0, 0) := rfl
theorem f_Vf_rowBehindThing_193 : fetch 185 193 = some (.iconst 2, 1, 0, 0, 0) := rfl
theorem f_Vf_rowBehindThing_194 : fetch 185 194 = some (.invokestatic 185, 3, 184, 2, 207) := rfl
theorem f_Vf_rowBehindThing_197 : fetch 185 197 = some (.iconst 4, 1, 0, 0, 0) := rfl
theorem f_Vf_rowBehindThing_198 : fetch 185 198 = some (.invokestatic 176, 3, 157, 2, 204) := rfl
theorem f_Vf_rowBehindThing_201 : fetch 185 201 = some (.ireturn, 1, 0, 0, 0) := rfl
theorem f_Vf_rowBehindThing_202 : fetch 185 202 = some (.iload_n 3, 1, 0, 0, 0) := rfl
theorem f_Vf_rowBehindThing_203 : fetch 185 203 = some (.iconst 1, 1, 0, 0, 0) := rfl
theorem f_Vf_rowBehindThing_204 : fetch 185 204 = some (.invokestatic 185, 3, 184, 2, 207) := rfl
theorem f_Vf_rowBehindThing_207 : fetch 185 207 = some (.iconst 4, 1, 0, 0, 0) := rfl
theorem f_Vf_rowBehindThing_208 : fetch 185 208 = some (.invokestatic 176, 3, 157, 2, 204) := rfl
theorem f_Vf_rowBehindThing_211 : fetch 185 211 = some (.iconst 3, 1, 0, 0, 0) := rfl
theorem f_Vf_rowBehindThing_212 : fetch 185 212 = some (.invokestatic 167, 3, 155, 2, 202) := rfl
theorem f_Vf_rowBehindThing_215 : fetch 185 215 = some (.ireturn, 1, 0, 0, 0) := rfl
theorem f_Vf_rowBehindThing_216 : fetch 185 216 = some (.iload_n 3, 1, 0, 0, 0) := rfl
theorem f_Vf_rowBehindThing_217 : fetch 185 217 = some (.iconst 4, 1, 0, 0, 0) := rfl
theorem f_Vf_rowBehindThing_218 : fetch 185 218 = some (.invokestatic 176, 3, 157, 2, 204) := rfl
theorem f_Vf_rowBehindThing_221 : fetch 185 221 = some (.iconst 1, 1, 0, 0, 0) := rfl
theorem f_Vf_rowBehindThing_222 : fetch 185 222 = some (.invokestatic 167, 3, 155, 2, 202) := rfl
theorem f_Vf_rowBehindThing_225 : fetch 185 225 = some (.ireturn, 1, 0, 0, 0) := rfl
theorem f_Vf_rowBehindThing_226 : fetch 185 226 = some (.iconst (-1), 1, 0, 0, 0) := rfl
theorem f_Vf_rowBehindThing_227 : fetch 185 227 = some (.ireturn, 1, 0, 0, 0) := rfl
def F_Vf_rowBehindThing_125  (y0 : Int32) (y1 : Int32) (σ : SG) : Option (Int32 × SG) :=
  match F_Rw_with (y0) (y1) σ with
  | none => none
  | some q1 =>
  some (q1.1, q1.2)
set_option maxHeartbeats 4000000 in
theorem w_Vf_rowBehindThing_125 {b d : Nat} {sc : SC} {pre tl : List PE} {B : Nat} {Q : Option Value → List PE → Prop} {res : Int32 × SG} (hB : B = b + pre.length) (hd : 3 ≤ d)   (hQ : Q (some (.int res.1)) (HH pre tl SHc B res.2)) (lv : LV) (σ : SG) (y0 : Int32) (y1 : Int32)  (hF : F_Vf_rowBehindThing_125  y0 y1 σ = some res) : Rn b sc d 185 125 lv [.int (y1), .int (y0)] (HH pre tl SHc B σ) Q := by
  obtain ⟨e0, rfl⟩ : ∃ e, d = e + 1 := ⟨d - 1, by omega⟩
  unfold F_Vf_rowBehindThing_125 at hF
  cases hq1 : F_Rw_with (y0) (y1) σ with
  | none => simp only [hq1] at hF; cases hF
  | some q1 =>
    simp only [hq1] at hF
    refine t_S2i f_Vf_rowBehindThing_125 (by decide) (Nat.le_of_ble_eq_true rfl) (Nat.le_of_ble_eq_true rfl) (w_Rw_with hB (by omega) (y0) (y1)  hq1 ⟨_, rfl, ?_⟩)
    cases hF
    exact r_ireturn f_Vf_rowBehindThing_128 hQ
def F_Vf_rowBehindThing_101  (y0 : Int32) (y1 : Int32) (σ : SG) : Option (Int32 × SG) :=
  match F_Rw_with (y0) (y1) σ with
  | none => none
  | some q2 =>
  some (q2.1, q2.2)
set_option maxHeartbeats 4000000 in
theorem w_Vf_rowBehindThing_101 {b d : Nat} {sc : SC} {pre tl : List PE} {B : Nat} {Q : Option Value → List PE → Prop} {res : Int32 × SG} (hB : B = b + pre.length) (hd : 3 ≤ d)   (hQ : Q (some (.int res.1)) (HH pre tl SHc B res.2)) (lv : LV) (σ : SG) (y0 : Int32) (y1 : Int32)  (hF : F_Vf_rowBehindThing_101  y0 y1 σ = some res) : Rn b sc d 185 101 lv [.int (y1), .int (y0)] (HH pre tl SHc B σ) Q := by
  obtain ⟨e0, rfl⟩ : ∃ e, d = e + 1 := ⟨d - 1, by omega⟩
  unfold F_Vf_rowBehindThing_101 at hF
  cases hq2 : F_Rw_with (y0) (y1) σ with
  | none => simp only [hq2] at hF; cases hF
  | some q2 =>
    simp only [hq2] at hF
    refine t_S2i f_Vf_rowBehindThing_101 (by decide) (Nat.le_of_ble_eq_true rfl) (Nat.le_of_ble_eq_true rfl) (w_Rw_with hB (by omega) (y0) (y1)  hq2 ⟨_, rfl, ?_⟩)
    cases hF
    exact r_ireturn f_Vf_rowBehindThing_104 hQ
def F_Vf_rowBehindThing_25  (x0 : Nat) (x1 : Int32) (x2 : Int32) (x3 : Int32) (x4 : Int32) (y0 : Int32) (σ : SG) : Option (Int32 × SG) :=
  if x1 = 16 then
  if isC SHc ((σ.2.2.1 (x0) 0)) 1 = true then
  match F_Im_canBeNull ((σ.2.2.1 (x0) 0)) (x2) σ with
  | none => none
  | some q5 =>
  if q5.1 = true then
  F_Vf_rowBehindThing_101 (x3) (x2) q5.2
  else F_Vf_rowBehindThing_101 (x3) ((0 : Int32)) q5.2
  else none
  else if x1 = 17 then
  if isC SHc ((σ.2.2.1 (x0) 0)) 1 = true then
  match F_Im_hasClass ((σ.2.2.1 (x0) 0)) (x2) σ with
  | none => none
  | some q9 =>
  if q9.1 = true then
  F_Vf_rowBehindThing_125 (x3) (((8 : Int32) + x2)) q9.2
  else F_Vf_rowBehindThing_125 (x3) ((0 : Int32)) q9.2
  else none
  else if x1 = 18 then
  match F_Rw_without (x3) (y0) σ with
  | none => none
  | some q12 =>
  match F_Rw_with (q12.1) (x4) q12.2 with
  | none => none
  | some q13 =>
  some (q13.1, q13.2)
  else if x1 = 19 then
  match F_Rw_without (x3) (x4) σ with
  | none => none
  | some q15 =>
  match F_Rw_without (q15.1) (y0) q15.2 with
  | none => none
  | some q16 =>
  some (q16.1, q16.2)
  else if x1 = 20 then
  match F_Rw_without (x3) (y0) σ with
  | none => none
  | some q18 =>
  match F_Vf_placeOf (x4) q18.2 with
  | none => none
  | some q19 =>
  match F_Rw_with (q18.1) (q19.1) q19.2 with
  | none => none
  | some q20 =>
  some (q20.1, q20.2)
  else if x1 = 21 then
  match F_Vf_withoutNumbers (x3) ((1 : Int32)) σ with
  | none => none
  | some q22 =>
  match F_Rw_with (q22.1) ((4 : Int32)) q22.2 with
  | none => none
  | some q23 =>
  some (q23.1, q23.2)
  else if x1 = 22 then
  match F_Vf_withoutNumbers (x3) ((1 : Int32)) σ with
  | none => none
  | some q25 =>
  match F_Rw_without (q25.1) ((4 : Int32)) q25.2 with
  | none => none
  | some q26 =>
  match F_Rw_with (q26.1) ((1 : Int32)) q26.2 with
  | none => none
  | some q27 =>
  some (q27.1, q27.2)
  else if x1 = 23 then
  match F_Vf_withoutNumbers (x3) ((2 : Int32)) σ with
  | none => none
  | some q29 =>
  match F_Rw_without (q29.1) ((4 : Int32)) q29.2 with
  | none => none
  | some q30 =>
  some (q30.1, q30.2)
  else if x1 = 24 then
  match F_Vf_withoutNumbers (x3) ((1 : Int32)) σ with
  | none => none
  | some q32 =>
  match F_Rw_without (q32.1) ((4 : Int32)) q32.2 with
  | none => none
  | some q33 =>
  match F_Rw_with (q33.1) ((3 : Int32)) q33.2 with
  | none => none
  | some q34 =>
  some (q34.1, q34.2)
  else if x1 = 25 then
  match F_Rw_without (x3) ((4 : Int32)) σ with
  | none => none
  | some q36 =>
  match F_Rw_with (q36.1) ((1 : Int32)) q36.2 with
  | none => none
  | some q37 =>
  some (q37.1, q37.2)
  else some (((-1) : Int32), σ)
set_option maxHeartbeats 4000000 in
theorem w_Vf_rowBehindThing_25 {b d : Nat} {sc : SC} {pre tl : List PE} {B : Nat} {Q : Option Value → List PE → Prop} {res : Int32 × SG} (hB : B = b + pre.length) (hd : 3 ≤ d)   (hQ : Q (some (.int res.1)) (HH pre tl SHc B res.2)) (lv : LV) (σ : SG) (x0 : Nat) (x1 : Int32) (x2 : Int32) (x3 : Int32) (x4 : Int32) (y0 : Int32) (hx0 : isC SHc (x0) 6 = true) (l0 : lv.lookup 0 = some (.ref (B + (x0)))) (l1 : lv.lookup 1 = some (.int (x1))) (l2 : lv.lookup 2 = some (.int (x2))) (l3 : lv.lookup 3 = some (.int (x3))) (l4 : lv.lookup 4 = some (.int (x4))) (hF : F_Vf_rowBehindThing_25  x0 x1 x2 x3 x4 y0 σ = some res) : Rn b sc d 185 25 lv [.int (y0)] (HH pre tl SHc B σ) Q := by
  obtain ⟨e0, rfl⟩ : ∃ e, d = e + 1 := ⟨d - 1, by omega⟩
  unfold F_Vf_rowBehindThing_25 at hF
  refine r_istore f_Vf_rowBehindThing_25 ?_
  refine r_iload_n f_Vf_rowBehindThing_27 (lk_put_ne l1 (by decide) (Or.inl rfl)) ?_
  by_cases c3 : x1 = 16
  · rw [if_pos c3] at hF
    refine r_tswI (t := 84) (off := 56) 0 f_Vf_rowBehindThing_28 (by rw [c3]; decide) (by rw [c3]; decide) (by rfl) (by decide) ?_
    refine r_iload_n f_Vf_rowBehindThing_84 (lk_put_ne l3 (by decide) (Or.inl rfl)) ?_
    refine r_aload_n f_Vf_rowBehindThing_85 (lk_put_ne l0 (by decide) (Or.inl rfl)) ?_
    by_cases c4 : isC SHc ((σ.2.2.1 (x0) 0)) 1 = true
    case neg => rw [if_neg c4] at hF; cases hF
    rw [if_pos c4] at hF
    refine t_getm hB hx0 f_Vf_rowBehindThing_86 rfl ?_
    refine r_iload_n f_Vf_rowBehindThing_89 (lk_put_ne l2 (by decide) (Or.inl rfl)) ?_
    cases hq5 : F_Im_canBeNull ((σ.2.2.1 (x0) 0)) (x2) σ with
    | none => simp only [hq5] at hF; cases hF
    | some q5 =>
      simp only [hq5] at hF
      refine t_V1i hB c4 rfl rfl f_Vf_rowBehindThing_90 (by decide) (Nat.le_of_ble_eq_true rfl) (Nat.le_of_ble_eq_true rfl) (w_Im_canBeNull hB (by omega) ((σ.2.2.1 (x0) 0)) (x2) c4 hq5 ⟨_, rfl, ?_⟩)
      refine r_if_eq f_Vf_rowBehindThing_93 (fun c6 => ?_) (fun c6 => ?_)
      · rw [if_neg (bz_nt c6)] at hF
        refine r_iconst f_Vf_rowBehindThing_100 (v := 0) (by decide) ?_
        exact w_Vf_rowBehindThing_101 hB hd  hQ _ (q5.2) (x3) ((0 : Int32)) hF
      · rw [if_pos (bz_t c6)] at hF
        refine r_iload_n f_Vf_rowBehindThing_96 (lk_put_ne l2 (by decide) (Or.inl rfl)) ?_
        refine r_goto f_Vf_rowBehindThing_97 ?_
        exact w_Vf_rowBehindThing_101 hB hd  hQ _ (q5.2) (x3) (x2) hF
  rw [if_neg c3] at hF
  by_cases c7 : x1 = 17
  · rw [if_pos c7] at hF
    refine r_tswI (t := 105) (off := 77) 1 f_Vf_rowBehindThing_28 (by rw [c7]; decide) (by rw [c7]; decide) (by rfl) (by decide) ?_
    refine r_iload_n f_Vf_rowBehindThing_105 (lk_put_ne l3 (by decide) (Or.inl rfl)) ?_
    refine r_aload_n f_Vf_rowBehindThing_106 (lk_put_ne l0 (by decide) (Or.inl rfl)) ?_
    by_cases c8 : isC SHc ((σ.2.2.1 (x0) 0)) 1 = true
    case neg => rw [if_neg c8] at hF; cases hF
    rw [if_pos c8] at hF
    refine t_getm hB hx0 f_Vf_rowBehindThing_107 rfl ?_
    refine r_iload_n f_Vf_rowBehindThing_110 (lk_put_ne l2 (by decide) (Or.inl rfl)) ?_
    cases hq9 : F_Im_hasClass ((σ.2.2.1 (x0) 0)) (x2) σ with
    | none => simp only [hq9] at hF; cases hF
    | some q9 =>
      simp only [hq9] at hF
      refine t_V1i hB c8 rfl rfl f_Vf_rowBehindThing_111 (by decide) (Nat.le_of_ble_eq_true rfl) (Nat.le_of_ble_eq_true rfl) (w_Im_hasClass hB  ((σ.2.2.1 (x0) 0)) (x2) c8 hq9 ⟨_, rfl, ?_⟩)
      refine r_if_eq f_Vf_rowBehindThing_114 (fun c10 => ?_) (fun c10 => ?_)
      · rw [if_neg (bz_nt c10)] at hF
        refine r_iconst f_Vf_rowBehindThing_124 (v := 0) (by decide) ?_
        exact w_Vf_rowBehindThing_125 hB hd  hQ _ (q9.2) (x3) ((0 : Int32)) hF
      · rw [if_pos (bz_t c10)] at hF
        refine r_bipush f_Vf_rowBehindThing_117 (v := 8) (by decide) ?_
        refine r_iload_n f_Vf_rowBehindThing_119 (lk_put_ne l2 (by decide) (Or.inl rfl)) ?_
        refine r_iadd f_Vf_rowBehindThing_120 ?_
        refine r_goto f_Vf_rowBehindThing_121 ?_
        exact w_Vf_rowBehindThing_125 hB hd  hQ _ (q9.2) (x3) (((8 : Int32) + x2)) hF
  rw [if_neg c7] at hF
  by_cases c11 : x1 = 18
  · rw [if_pos c11] at hF
    refine r_tswI (t := 129) (off := 101) 2 f_Vf_rowBehindThing_28 (by rw [c11]; decide) (by rw [c11]; decide) (by rfl) (by decide) ?_
    refine r_iload_n f_Vf_rowBehindThing_129 (lk_put_ne l3 (by decide) (Or.inl rfl)) ?_
    refine r_iload f_Vf_rowBehindThing_130 lk_put ?_
    cases hq12 : F_Rw_without (x3) (y0) σ with
    | none => simp only [hq12] at hF; cases hF
    | some q12 =>
      simp only [hq12] at hF
      refine t_S2i f_Vf_rowBehindThing_132 (by decide) (Nat.le_of_ble_eq_true rfl) (Nat.le_of_ble_eq_true rfl) (w_Rw_without hB (by omega) (x3) (y0)  hq12 ⟨_, rfl, ?_⟩)
      refine r_iload f_Vf_rowBehindThing_135 (lk_put_ne l4 (by decide) (Or.inl rfl)) ?_
      cases hq13 : F_Rw_with (q12.1) (x4) q12.2 with
      | none => simp only [hq13] at hF; cases hF
      | some q13 =>
        simp only [hq13] at hF
        refine t_S2i f_Vf_rowBehindThing_137 (by decide) (Nat.le_of_ble_eq_true rfl) (Nat.le_of_ble_eq_true rfl) (w_Rw_with hB (by omega) (q12.1) (x4)  hq13 ⟨_, rfl, ?_⟩)
        cases hF
        exact r_ireturn f_Vf_rowBehindThing_140 hQ
  rw [if_neg c11] at hF
  by_cases c14 : x1 = 19
  · rw [if_pos c14] at hF
    refine r_tswI (t := 141) (off := 113) 3 f_Vf_rowBehindThing_28 (by rw [c14]; decide) (by rw [c14]; decide) (by rfl) (by decide) ?_
    refine r_iload_n f_Vf_rowBehindThing_141 (lk_put_ne l3 (by decide) (Or.inl rfl)) ?_
    refine r_iload f_Vf_rowBehindThing_142 (lk_put_ne l4 (by decide) (Or.inl rfl)) ?_
    cases hq15 : F_Rw_without (x3) (x4) σ with
    | none => simp only [hq15] at hF; cases hF
    | some q15 =>
      simp only [hq15] at hF
      refine t_S2i f_Vf_rowBehindThing_144 (by decide) (Nat.le_of_ble_eq_true rfl) (Nat.le_of_ble_eq_true rfl) (w_Rw_without hB (by omega) (x3) (x4)  hq15 ⟨_, rfl, ?_⟩)
      refine r_iload f_Vf_rowBehindThing_147 lk_put ?_
      cases hq16 : F_Rw_without (q15.1) (y0) q15.2 with
      | none => simp only [hq16] at hF; cases hF
      | some q16 =>
        simp only [hq16] at hF
        refine t_S2i f_Vf_rowBehindThing_149 (by decide) (Nat.le_of_ble_eq_true rfl) (Nat.le_of_ble_eq_true rfl) (w_Rw_without hB (by omega) (q15.1) (y0)  hq16 ⟨_, rfl, ?_⟩)
        cases hF
        exact r_ireturn f_Vf_rowBehindThing_152 hQ
  rw [if_neg c14] at hF
  by_cases c17 : x1 = 20
  · rw [if_pos c17] at hF
    refine r_tswI (t := 153) (off := 125) 4 f_Vf_rowBehindThing_28 (by rw [c17]; decide) (by rw [c17]; decide) (by rfl) (by decide) ?_
    refine r_iload_n f_Vf_rowBehindThing_153 (lk_put_ne l3 (by decide) (Or.inl rfl)) ?_
    refine r_iload f_Vf_rowBehindThing_154 lk_put ?_
    cases hq18 : F_Rw_without (x3) (y0) σ with
    | none => simp only [hq18] at hF; cases hF
    | some q18 =>
      simp only [hq18] at hF
      refine t_S2i f_Vf_rowBehindThing_156 (by decide) (Nat.le_of_ble_eq_true rfl) (Nat.le_of_ble_eq_true rfl) (w_Rw_without hB (by omega) (x3) (y0)  hq18 ⟨_, rfl, ?_⟩)
      refine r_iload f_Vf_rowBehindThing_159 (lk_put_ne l4 (by decide) (Or.inl rfl)) ?_
      cases hq19 : F_Vf_placeOf (x4) q18.2 with
      | none => simp only [hq19] at hF; cases hF
      | some q19 =>
        simp only [hq19] at hF
        refine t_S1i f_Vf_rowBehindThing_161 (by decide) (Nat.le_of_ble_eq_true rfl) (Nat.le_of_ble_eq_true rfl) (w_Vf_placeOf hB  (x4)  hq19 ⟨_, rfl, ?_⟩)
        cases hq20 : F_Rw_with (q18.1) (q19.1) q19.2 with
        | none => simp only [hq20] at hF; cases hF
        | some q20 =>
          simp only [hq20] at hF
          refine t_S2i f_Vf_rowBehindThing_164 (by decide) (Nat.le_of_ble_eq_true rfl) (Nat.le_of_ble_eq_true rfl) (w_Rw_with hB (by omega) (q18.1) (q19.1)  hq20 ⟨_, rfl, ?_⟩)
          cases hF
          exact r_ireturn f_Vf_rowBehindThing_167 hQ
  rw [if_neg c17] at hF
  by_cases c21 : x1 = 21
  · rw [if_pos c21] at hF
    refine r_tswI (t := 168) (off := 140) 5 f_Vf_rowBehindThing_28 (by rw [c21]; decide) (by rw [c21]; decide) (by rfl) (by decide) ?_
    refine r_iload_n f_Vf_rowBehindThing_168 (lk_put_ne l3 (by decide) (Or.inl rfl)) ?_
    refine r_iconst f_Vf_rowBehindThing_169 (v := 1) (by decide) ?_
    cases hq22 : F_Vf_withoutNumbers (x3) ((1 : Int32)) σ with
    | none => simp only [hq22] at hF; cases hF
    | some q22 =>
      simp only [hq22] at hF
      refine t_S2i f_Vf_rowBehindThing_170 (by decide) (Nat.le_of_ble_eq_true rfl) (Nat.le_of_ble_eq_true rfl) (w_Vf_withoutNumbers hB (by omega) (x3) ((1 : Int32))  hq22 ⟨_, rfl, ?_⟩)
      refine r_iconst f_Vf_rowBehindThing_173 (v := 4) (by decide) ?_
      cases hq23 : F_Rw_with (q22.1) ((4 : Int32)) q22.2 with
      | none => simp only [hq23] at hF; cases hF
      | some q23 =>
        simp only [hq23] at hF
        refine t_S2i f_Vf_rowBehindThing_174 (by decide) (Nat.le_of_ble_eq_true rfl) (Nat.le_of_ble_eq_true rfl) (w_Rw_with hB (by omega) (q22.1) ((4 : Int32))  hq23 ⟨_, rfl, ?_⟩)
        cases hF
        exact r_ireturn f_Vf_rowBehindThing_177 hQ
  rw [if_neg c21] at hF
  by_cases c24 : x1 = 22
  · rw [if_pos c24] at hF
    refine r_tswI (t := 178) (off := 150) 6 f_Vf_rowBehindThing_28 (by rw [c24]; decide) (by rw [c24]; decide) (by rfl) (by decide) ?_
    refine r_iload_n f_Vf_rowBehindThing_178 (lk_put_ne l3 (by decide) (Or.inl rfl)) ?_
    refine r_iconst f_Vf_rowBehindThing_179 (v := 1) (by decide) ?_
    cases hq25 : F_Vf_withoutNumbers (x3) ((1 : Int32)) σ with
    | none => simp only [hq25] at hF; cases hF
    | some q25 =>
      simp only [hq25] at hF
      refine t_S2i f_Vf_rowBehindThing_180 (by decide) (Nat.le_of_ble_eq_true rfl) (Nat.le_of_ble_eq_true rfl) (w_Vf_withoutNumbers hB (by omega) (x3) ((1 : Int32))  hq25 ⟨_, rfl, ?_⟩)
      refine r_iconst f_Vf_rowBehindThing_183 (v := 4) (by decide) ?_
      cases hq26 : F_Rw_without (q25.1) ((4 : Int32)) q25.2 with
      | none => simp only [hq26] at hF; cases hF
      | some q26 =>
        simp only [hq26] at hF
        refine t_S2i f_Vf_rowBehindThing_184 (by decide) (Nat.le_of_ble_eq_true rfl) (Nat.le_of_ble_eq_true rfl) (w_Rw_without hB (by omega) (q25.1) ((4 : Int32))  hq26 ⟨_, rfl, ?_⟩)
        refine r_iconst f_Vf_rowBehindThing_187 (v := 1) (by decide) ?_
        cases hq27 : F_Rw_with (q26.1) ((1 : Int32)) q26.2 with
        | none => simp only [hq27] at hF; cases hF
        | some q27 =>
          simp only [hq27] at hF
          refine t_S2i f_Vf_rowBehindThing_188 (by decide) (Nat.le_of_ble_eq_true rfl) (Nat.le_of_ble_eq_true rfl) (w_Rw_with hB (by omega) (q26.1) ((1 : Int32))  hq27 ⟨_, rfl, ?_⟩)
          cases hF
          exact r_ireturn f_Vf_rowBehindThing_191 hQ
  rw [if_neg c24] at hF
  by_cases c28 : x1 = 23
  · rw [if_pos c28] at hF
    refine r_tswI (t := 192) (off := 164) 7 f_Vf_rowBehindThing_28 (by rw [c28]; decide) (by rw [c28]; decide) (by rfl) (by decide) ?_
    refine r_iload_n f_Vf_rowBehindThing_192 (lk_put_ne l3 (by decide) (Or.inl rfl)) ?_
    refine r_iconst f_Vf_rowBehindThing_193 (v := 2) (by decide) ?_
    cases hq29 : F_Vf_withoutNumbers (x3) ((2 : Int32)) σ with
    | none => simp only [hq29] at hF; cases hF
    | some q29 =>
      simp only [hq29] at hF
      refine t_S2i f_Vf_rowBehindThing_194 (by decide) (Nat.le_of_ble_eq_true rfl) (Nat.le_of_ble_eq_true rfl) (w_Vf_withoutNumbers hB (by omega) (x3) ((2 : Int32))  hq29 ⟨_, rfl, ?_⟩)
      refine r_iconst f_Vf_rowBehindThing_197 (v := 4) (by decide) ?_
      cases hq30 : F_Rw_without (q29.1) ((4 : Int32)) q29.2 with
      | none => simp only [hq30] at hF; cases hF
      | some q30 =>
        simp only [hq30] at hF
        refine t_S2i f_Vf_rowBehindThing_198 (by decide) (Nat.le_of_ble_eq_true rfl) (Nat.le_of_ble_eq_true rfl) (w_Rw_without hB (by omega) (q29.1) ((4 : Int32))  hq30 ⟨_, rfl, ?_⟩)
        cases hF
        exact r_ireturn f_Vf_rowBehindThing_201 hQ
  rw [if_neg c28] at hF
  by_cases c31 : x1 = 24
  · rw [if_pos c31] at hF
    refine r_tswI (t := 202) (off := 174) 8 f_Vf_rowBehindThing_28 (by rw [c31]; decide) (by rw [c31]; decide) (by rfl) (by decide) ?_
    refine r_iload_n f_Vf_rowBehindThing_202 (lk_put_ne l3 (by decide) (Or.inl rfl)) ?_
    refine r_iconst f_Vf_rowBehindThing_203 (v := 1) (by decide) ?_
    cases hq32 : F_Vf_withoutNumbers (x3) ((1 : Int32)) σ with
    | none => simp only [hq32] at hF; cases hF
    | some q32 =>
      simp only [hq32] at hF
      refine t_S2i f_Vf_rowBehindThing_204 (by decide) (Nat.le_of_ble_eq_true rfl) (Nat.le_of_ble_eq_true rfl) (w_Vf_withoutNumbers hB (by omega) (x3) ((1 : Int32))  hq32 ⟨_, rfl, ?_⟩)
      refine r_iconst f_Vf_rowBehindThing_207 (v := 4) (by decide) ?_
      cases hq33 : F_Rw_without (q32.1) ((4 : Int32)) q32.2 with
      | none => simp only [hq33] at hF; cases hF
      | some q33 =>
        simp only [hq33] at hF
        refine t_S2i f_Vf_rowBehindThing_208 (by decide) (Nat.le_of_ble_eq_true rfl) (Nat.le_of_ble_eq_true rfl) (w_Rw_without hB (by omega) (q32.1) ((4 : Int32))  hq33 ⟨_, rfl, ?_⟩)
        refine r_iconst f_Vf_rowBehindThing_211 (v := 3) (by decide) ?_
        cases hq34 : F_Rw_with (q33.1) ((3 : Int32)) q33.2 with
        | none => simp only [hq34] at hF; cases hF
        | some q34 =>
          simp only [hq34] at hF
          refine t_S2i f_Vf_rowBehindThing_212 (by decide) (Nat.le_of_ble_eq_true rfl) (Nat.le_of_ble_eq_true rfl) (w_Rw_with hB (by omega) (q33.1) ((3 : Int32))  hq34 ⟨_, rfl, ?_⟩)
          cases hF
          exact r_ireturn f_Vf_rowBehindThing_215 hQ
  rw [if_neg c31] at hF
  by_cases c35 : x1 = 25
  · rw [if_pos c35] at hF
    refine r_tswI (t := 216) (off := 188) 9 f_Vf_rowBehindThing_28 (by rw [c35]; decide) (by rw [c35]; decide) (by rfl) (by decide) ?_
    refine r_iload_n f_Vf_rowBehindThing_216 (lk_put_ne l3 (by decide) (Or.inl rfl)) ?_
    refine r_iconst f_Vf_rowBehindThing_217 (v := 4) (by decide) ?_
    cases hq36 : F_Rw_without (x3) ((4 : Int32)) σ with
    | none => simp only [hq36] at hF; cases hF
    | some q36 =>
      simp only [hq36] at hF
      refine t_S2i f_Vf_rowBehindThing_218 (by decide) (Nat.le_of_ble_eq_true rfl) (Nat.le_of_ble_eq_true rfl) (w_Rw_without hB (by omega) (x3) ((4 : Int32))  hq36 ⟨_, rfl, ?_⟩)
      refine r_iconst f_Vf_rowBehindThing_221 (v := 1) (by decide) ?_
      cases hq37 : F_Rw_with (q36.1) ((1 : Int32)) q36.2 with
      | none => simp only [hq37] at hF; cases hF
      | some q37 =>
        simp only [hq37] at hF
        refine t_S2i f_Vf_rowBehindThing_222 (by decide) (Nat.le_of_ble_eq_true rfl) (Nat.le_of_ble_eq_true rfl) (w_Rw_with hB (by omega) (q36.1) ((1 : Int32))  hq37 ⟨_, rfl, ?_⟩)
        cases hF
        exact r_ireturn f_Vf_rowBehindThing_225 hQ
  rw [if_neg c35] at hF
  refine r_tswO f_Vf_rowBehindThing_28 (by have zc3 := lv_neT c3 (by decide : (16 : Int32).toInt = 16); have zc7 := lv_neT c7 (by decide : (17 : Int32).toInt = 17); have zc11 := lv_neT c11 (by decide : (18 : Int32).toInt = 18); have zc14 := lv_neT c14 (by decide : (19 : Int32).toInt = 19); have zc17 := lv_neT c17 (by decide : (20 : Int32).toInt = 20); have zc21 := lv_neT c21 (by decide : (21 : Int32).toInt = 21); have zc24 := lv_neT c24 (by decide : (22 : Int32).toInt = 22); have zc28 := lv_neT c28 (by decide : (23 : Int32).toInt = 23); have zc31 := lv_neT c31 (by decide : (24 : Int32).toInt = 24); have zc35 := lv_neT c35 (by decide : (25 : Int32).toInt = 25); omega) ?_
  refine r_iconst f_Vf_rowBehindThing_226 (v := (-1)) (by decide) ?_
  cases hF
  exact r_ireturn f_Vf_rowBehindThing_227 hQ
def F_Vf_rowBehindThing (a0 : Nat) (a1 : Int32) (a2 : Int32) (a3 : Int32) (σ : SG) : Option (Int32 × SG) :=
  if isC SHc ((σ.2.2.1 (a0) 0)) 1 = true then
  match F_Im_fieldType ((σ.2.2.1 (a0) 0)) (a2) σ with
  | none => none
  | some q39 =>
  if q39.1 = 0 then
  F_Vf_rowBehindThing_25 (a0) (a1) (a2) (a3) (q39.1) ((0 : Int32)) q39.2
  else F_Vf_rowBehindThing_25 (a0) (a1) (a2) (a3) (q39.1) (((8 : Int32) + (a2 / (4 : Int32)))) q39.2
  else none
set_option maxHeartbeats 4000000 in
theorem w_Vf_rowBehindThing {b d : Nat} {pre tl : List PE} {B : Nat} {Q : Option Value → List PE → Prop} {res : Int32 × SG} (hB : B = b + pre.length) (hd : 3 ≤ d)  {σ : SG} (a0 : Nat) (a1 : Int32) (a2 : Int32) (a3 : Int32) (ha0 : isC SHc (a0) 6 = true) (hF : F_Vf_rowBehindThing a0 a1 a2 a3 σ = some res) (hQ : Q (some (.int res.1)) (HH pre tl SHc B res.2)) : Cl b d 185 [.ref (B + (a0)), .int (a1), .int (a2), .int (a3)] (HH pre tl SHc B σ) Q := by
  obtain ⟨e0, rfl⟩ : ∃ e, d = e + 1 := ⟨d - 1, by omega⟩
  unfold Cl
  unfold F_Vf_rowBehindThing at hF
  refine r_aload_n f_Vf_rowBehindThing_0 rfl ?_
  by_cases c38 : isC SHc ((σ.2.2.1 (a0) 0)) 1 = true
  case neg => rw [if_neg c38] at hF; cases hF
  rw [if_pos c38] at hF
  refine t_getm hB ha0 f_Vf_rowBehindThing_1 rfl ?_
  refine r_iload_n f_Vf_rowBehindThing_4 rfl ?_
  cases hq39 : F_Im_fieldType ((σ.2.2.1 (a0) 0)) (a2) σ with
  | none => simp only [hq39] at hF; cases hF
  | some q39 =>
    simp only [hq39] at hF
    refine t_V1i hB c38 rfl rfl f_Vf_rowBehindThing_5 (by decide) (Nat.le_of_ble_eq_true rfl) (Nat.le_of_ble_eq_true rfl) (w_Im_fieldType hB (by omega) ((σ.2.2.1 (a0) 0)) (a2) c38 hq39 ⟨_, rfl, ?_⟩)
    refine r_istore f_Vf_rowBehindThing_8 ?_
    refine r_iload f_Vf_rowBehindThing_10 lk_put ?_
    refine r_if_ne f_Vf_rowBehindThing_12 (fun c40 => ?_) (fun c40 => ?_)
    · rw [if_neg c40] at hF
      refine r_bipush f_Vf_rowBehindThing_19 (v := 8) (by decide) ?_
      refine r_iload_n f_Vf_rowBehindThing_21 (lk_put_ne rfl (by decide) (Or.inl rfl)) ?_
      refine r_iconst f_Vf_rowBehindThing_22 (v := 4) (by decide) ?_
      refine r_idiv f_Vf_rowBehindThing_23 (by decide) ?_
      refine r_iadd f_Vf_rowBehindThing_24 ?_
      exact w_Vf_rowBehindThing_25 hB hd  hQ _ (q39.2) (a0) (a1) (a2) (a3) (q39.1) (((8 : Int32) + (a2 / (4 : Int32)))) ha0 (lk_put_ne rfl (by decide) (Or.inl rfl)) (lk_put_ne rfl (by decide) (Or.inl rfl)) (lk_put_ne rfl (by decide) (Or.inl rfl)) (lk_put_ne rfl (by decide) (Or.inl rfl)) lk_put hF
    · rw [if_pos (Decidable.not_not.mp c40)] at hF
      refine r_iconst f_Vf_rowBehindThing_15 (v := 0) (by decide) ?_
      refine r_goto f_Vf_rowBehindThing_16 ?_
      exact w_Vf_rowBehindThing_25 hB hd  hQ _ (q39.2) (a0) (a1) (a2) (a3) (q39.1) ((0 : Int32)) ha0 (lk_put_ne rfl (by decide) (Or.inl rfl)) (lk_put_ne rfl (by decide) (Or.inl rfl)) (lk_put_ne rfl (by decide) (Or.inl rfl)) (lk_put_ne rfl (by decide) (Or.inl rfl)) lk_put hF
