theorem f_Mo_put_0 : fetch 76 0 = some (.aload_n 0, 1, 0, 0, 0) := rfl
theorem f_Mo_put_1 : fetch 76 1 = some (.getfield 275, 3, 8, 31, 71) := rfl
theorem f_Mo_put_4 : fetch 76 4 = some (.iconst 1, 1, 0, 0, 0) := rfl
theorem f_Mo_put_5 : fetch 76 5 = some (.isub, 1, 0, 0, 0) := rfl
theorem f_Mo_put_6 : fetch 76 6 = some (.istore_n 3, 1, 0, 0, 0) := rfl
theorem f_Mo_put_7 : fetch 76 7 = some (.aload_n 0, 1, 0, 0, 0) := rfl
theorem f_Mo_put_8 : fetch 76 8 = some (.getfield 78, 3, 8, 35, 49) := rfl
theorem f_Mo_put_11 : fetch 76 11 = some (.bipush 8, 2, 0, 0, 0) := rfl
theorem f_Mo_put_13 : fetch 76 13 = some (.iload_n 3, 1, 0, 0, 0) := rfl
theorem f_Mo_put_14 : fetch 76 14 = some (.imul, 1, 0, 0, 0) := rfl
theorem f_Mo_put_15 : fetch 76 15 = some (.aload_n 0, 1, 0, 0, 0) := rfl
theorem f_Mo_put_16 : fetch 76 16 = some (.getfield 75, 3, 8, 34, 48) := rfl
theorem f_Mo_put_19 : fetch 76 19 = some (.iload_n 3, 1, 0, 0, 0) := rfl
theorem f_Mo_put_20 : fetch 76 20 = some (.iaload, 1, 0, 0, 0) := rfl
theorem f_Mo_put_21 : fetch 76 21 = some (.iadd, 1, 0, 0, 0) := rfl
theorem f_Mo_put_22 : fetch 76 22 = some (.iload_n 1, 1, 0, 0, 0) := rfl
theorem f_Mo_put_23 : fetch 76 23 = some (.iastore, 1, 0, 0, 0) := rfl
theorem f_Mo_put_24 : fetch 76 24 = some (.aload_n 0, 1, 0, 0, 0) := rfl
theorem f_Mo_put_25 : fetch 76 25 = some (.getfield 81, 3, 8, 36, 50) := rfl
theorem f_Mo_put_28 : fetch 76 28 = some (.bipush 8, 2, 0, 0, 0) := rfl
theorem f_Mo_put_30 : fetch 76 30 = some (.iload_n 3, 1, 0, 0, 0) := rfl
theorem f_Mo_put_31 : fetch 76 31 = some (.imul, 1, 0, 0, 0) := rfl
theorem f_Mo_put_32 : fetch 76 32 = some (.aload_n 0, 1, 0, 0, 0) := rfl
theorem f_Mo_put_33 : fetch 76 33 = some (.getfield 75, 3, 8, 34, 48) := rfl
theorem f_Mo_put_36 : fetch 76 36 = some (.iload_n 3, 1, 0, 0, 0) := rfl
theorem f_Mo_put_37 : fetch 76 37 = some (.iaload, 1, 0, 0, 0) := rfl
theorem f_Mo_put_38 : fetch 76 38 = some (.iadd, 1, 0, 0, 0) := rfl
theorem f_Mo_put_39 : fetch 76 39 = some (.iload_n 2, 1, 0, 0, 0) := rfl
theorem f_Mo_put_40 : fetch 76 40 = some (.iastore, 1, 0, 0, 0) := rfl
theorem f_Mo_put_41 : fetch 76 41 = some (.aload_n 0, 1, 0, 0, 0) := rfl
theorem f_Mo_put_42 : fetch 76 42 = some (.getfield 75, 3, 8, 34, 48) := rfl
theorem f_Mo_put_45 : fetch 76 45 = some (.iload_n 3, 1, 0, 0, 0) := rfl
theorem f_Mo_put_46 : fetch 76 46 = some (.dup2, 1, 0, 0, 0) := rfl
theorem f_Mo_put_47 : fetch 76 47 = some (.iaload, 1, 0, 0, 0) := rfl
theorem f_Mo_put_48 : fetch 76 48 = some (.iconst 1, 1, 0, 0, 0) := rfl
theorem f_Mo_put_49 : fetch 76 49 = some (.iadd, 1, 0, 0, 0) := rfl
theorem f_Mo_put_50 : fetch 76 50 = some (.iastore, 1, 0, 0, 0) := rfl
theorem f_Mo_put_51 : fetch 76 51 = some (.return_, 1, 0, 0, 0) := rfl
def F_Mo_put (a0 : Nat) (a1 : Int32) (a2 : Int32) (σ : SG) : Option (SG) :=
  if ((σ.1 (a0) 31) - (1 : Int32)) < 0 ∨ 8 ≤ (((σ.1 (a0) 31) - (1 : Int32))).toNatClampNeg then none else
  if (((8 : Int32) * ((σ.1 (a0) 31) - (1 : Int32))) + (σ.2.2.2.1 ((cref SHm (a0) 34)) ((((σ.1 (a0) 31) - (1 : Int32))).toNatClampNeg))) < 0 ∨ 64 ≤ ((((8 : Int32) * ((σ.1 (a0) 31) - (1 : Int32))) + (σ.2.2.2.1 ((cref SHm (a0) 34)) ((((σ.1 (a0) 31) - (1 : Int32))).toNatClampNeg)))).toNatClampNeg then none else
  stl (setA σ ((cref SHm (a0) 35)) (((((8 : Int32) * ((σ.1 (a0) 31) - (1 : Int32))) + (σ.2.2.2.1 ((cref SHm (a0) 34)) ((((σ.1 (a0) 31) - (1 : Int32))).toNatClampNeg)))).toNatClampNeg) (a1)) fun s3 =>
  if ((σ.1 (a0) 31) - (1 : Int32)) < 0 ∨ 8 ≤ (((σ.1 (a0) 31) - (1 : Int32))).toNatClampNeg then none else
  if (((8 : Int32) * ((σ.1 (a0) 31) - (1 : Int32))) + (s3.2.2.2.1 ((cref SHm (a0) 34)) ((((σ.1 (a0) 31) - (1 : Int32))).toNatClampNeg))) < 0 ∨ 64 ≤ ((((8 : Int32) * ((σ.1 (a0) 31) - (1 : Int32))) + (s3.2.2.2.1 ((cref SHm (a0) 34)) ((((σ.1 (a0) 31) - (1 : Int32))).toNatClampNeg)))).toNatClampNeg then none else
  stl (setA s3 ((cref SHm (a0) 36)) (((((8 : Int32) * ((σ.1 (a0) 31) - (1 : Int32))) + (s3.2.2.2.1 ((cref SHm (a0) 34)) ((((σ.1 (a0) 31) - (1 : Int32))).toNatClampNeg)))).toNatClampNeg) (a2)) fun s6 =>
  if ((σ.1 (a0) 31) - (1 : Int32)) < 0 ∨ 8 ≤ (((σ.1 (a0) 31) - (1 : Int32))).toNatClampNeg then none else
  if ((σ.1 (a0) 31) - (1 : Int32)) < 0 ∨ 8 ≤ (((σ.1 (a0) 31) - (1 : Int32))).toNatClampNeg then none else
  stl (setA s6 ((cref SHm (a0) 34)) ((((σ.1 (a0) 31) - (1 : Int32))).toNatClampNeg) (((s6.2.2.2.1 ((cref SHm (a0) 34)) ((((σ.1 (a0) 31) - (1 : Int32))).toNatClampNeg)) + (1 : Int32)))) fun s9 =>
  some s9
set_option maxHeartbeats 4000000 in
theorem w_Mo_put {b d : Nat} {pre tl : List PE} {B : Nat} {Q : Option Value → List PE → Prop} {res : SG} (hB : B = b + pre.length)  {σ : SG} (a0 : Nat) (a1 : Int32) (a2 : Int32) (ha0 : isC SHm (a0) 8 = true) (hF : F_Mo_put a0 a1 a2 σ = some res) (hQ : Q none (HH pre tl SHm B res)) : Cl b d 76 [.ref (B + (a0)), .int (a1), .int (a2)] (HH pre tl SHm B σ) Q := by
  unfold Cl
  unfold F_Mo_put at hF
  refine r_aload_n f_Mo_put_0 rfl ?_
  refine t_geti hB ha0 f_Mo_put_1 rfl ?_
  refine r_iconst f_Mo_put_4 (v := 1) (by decide) ?_
  refine r_isub f_Mo_put_5 ?_
  refine r_istore_n f_Mo_put_6 ?_
  refine r_aload_n f_Mo_put_7 (lk_put_ne rfl (by decide) (Or.inl rfl)) ?_
  refine t_getc hB ha0 f_Mo_put_8 rfl ?_
  refine r_bipush f_Mo_put_11 (v := 8) (by decide) ?_
  refine r_iload_n f_Mo_put_13 lk_put ?_
  refine r_imul f_Mo_put_14 ?_
  refine r_aload_n f_Mo_put_15 (lk_put_ne rfl (by decide) (Or.inl rfl)) ?_
  refine t_getc hB ha0 f_Mo_put_16 rfl ?_
  refine r_iload_n f_Mo_put_19 lk_put ?_
  by_cases c1 : ((σ.1 (a0) 31) - (1 : Int32)) < 0 ∨ 8 ≤ (((σ.1 (a0) 31) - (1 : Int32))).toNatClampNeg
  · rw [if_pos c1] at hF; cases hF
  rw [if_neg c1] at hF
  refine t_iald hB (cc_8_34 ha0) f_Mo_put_20 c1 ?_
  refine r_iadd f_Mo_put_21 ?_
  refine r_iload_n f_Mo_put_22 (lk_put_ne rfl (by decide) (Or.inl rfl)) ?_
  by_cases c2 : (((8 : Int32) * ((σ.1 (a0) 31) - (1 : Int32))) + (σ.2.2.2.1 ((cref SHm (a0) 34)) ((((σ.1 (a0) 31) - (1 : Int32))).toNatClampNeg))) < 0 ∨ 64 ≤ ((((8 : Int32) * ((σ.1 (a0) 31) - (1 : Int32))) + (σ.2.2.2.1 ((cref SHm (a0) 34)) ((((σ.1 (a0) 31) - (1 : Int32))).toNatClampNeg)))).toNatClampNeg
  · rw [if_pos c2] at hF; cases hF
  rw [if_neg c2] at hF
  refine t_iast hB (cc_8_35 ha0) f_Mo_put_23 c2 ?_
  generalize hs3 : setA σ ((cref SHm (a0) 35)) (((((8 : Int32) * ((σ.1 (a0) 31) - (1 : Int32))) + (σ.2.2.2.1 ((cref SHm (a0) 34)) ((((σ.1 (a0) 31) - (1 : Int32))).toNatClampNeg)))).toNatClampNeg) (a1) = s3 at hF ⊢
  rw [stl_eq] at hF
  refine r_aload_n f_Mo_put_24 (lk_put_ne rfl (by decide) (Or.inl rfl)) ?_
  refine t_getc hB ha0 f_Mo_put_25 rfl ?_
  refine r_bipush f_Mo_put_28 (v := 8) (by decide) ?_
  refine r_iload_n f_Mo_put_30 lk_put ?_
  refine r_imul f_Mo_put_31 ?_
  refine r_aload_n f_Mo_put_32 (lk_put_ne rfl (by decide) (Or.inl rfl)) ?_
  refine t_getc hB ha0 f_Mo_put_33 rfl ?_
  refine r_iload_n f_Mo_put_36 lk_put ?_
  by_cases c4 : ((σ.1 (a0) 31) - (1 : Int32)) < 0 ∨ 8 ≤ (((σ.1 (a0) 31) - (1 : Int32))).toNatClampNeg
  · rw [if_pos c4] at hF; cases hF
  rw [if_neg c4] at hF
  refine t_iald hB (cc_8_34 ha0) f_Mo_put_37 c4 ?_
  refine r_iadd f_Mo_put_38 ?_
  refine r_iload_n f_Mo_put_39 (lk_put_ne rfl (by decide) (Or.inl rfl)) ?_
  by_cases c5 : (((8 : Int32) * ((σ.1 (a0) 31) - (1 : Int32))) + (s3.2.2.2.1 ((cref SHm (a0) 34)) ((((σ.1 (a0) 31) - (1 : Int32))).toNatClampNeg))) < 0 ∨ 64 ≤ ((((8 : Int32) * ((σ.1 (a0) 31) - (1 : Int32))) + (s3.2.2.2.1 ((cref SHm (a0) 34)) ((((σ.1 (a0) 31) - (1 : Int32))).toNatClampNeg)))).toNatClampNeg
  · rw [if_pos c5] at hF; cases hF
  rw [if_neg c5] at hF
  refine t_iast hB (cc_8_36 ha0) f_Mo_put_40 c5 ?_
  generalize hs6 : setA s3 ((cref SHm (a0) 36)) (((((8 : Int32) * ((σ.1 (a0) 31) - (1 : Int32))) + (s3.2.2.2.1 ((cref SHm (a0) 34)) ((((σ.1 (a0) 31) - (1 : Int32))).toNatClampNeg)))).toNatClampNeg) (a2) = s6 at hF ⊢
  rw [stl_eq] at hF
  refine r_aload_n f_Mo_put_41 (lk_put_ne rfl (by decide) (Or.inl rfl)) ?_
  refine t_getc hB ha0 f_Mo_put_42 rfl ?_
  refine r_iload_n f_Mo_put_45 lk_put ?_
  refine r_dup2 f_Mo_put_46 ⟨rfl, rfl⟩ ?_
  by_cases c7 : ((σ.1 (a0) 31) - (1 : Int32)) < 0 ∨ 8 ≤ (((σ.1 (a0) 31) - (1 : Int32))).toNatClampNeg
  · rw [if_pos c7] at hF; cases hF
  rw [if_neg c7] at hF
  refine t_iald hB (cc_8_34 ha0) f_Mo_put_47 c7 ?_
  refine r_iconst f_Mo_put_48 (v := 1) (by decide) ?_
  refine r_iadd f_Mo_put_49 ?_
  by_cases c8 : ((σ.1 (a0) 31) - (1 : Int32)) < 0 ∨ 8 ≤ (((σ.1 (a0) 31) - (1 : Int32))).toNatClampNeg
  · rw [if_pos c8] at hF; cases hF
  rw [if_neg c8] at hF
  refine t_iast hB (cc_8_34 ha0) f_Mo_put_50 c8 ?_
  generalize hs9 : setA s6 ((cref SHm (a0) 34)) ((((σ.1 (a0) 31) - (1 : Int32))).toNatClampNeg) (((s6.2.2.2.1 ((cref SHm (a0) 34)) ((((σ.1 (a0) 31) - (1 : Int32))).toNatClampNeg)) + (1 : Int32))) = s9 at hF ⊢
  rw [stl_eq] at hF
  cases hF
  exact r_return f_Mo_put_51 hQ
theorem f_Mo_putCell_0 : fetch 77 0 = some (.iload_n 1, 1, 0, 0, 0) := rfl
theorem f_Mo_putCell_1 : fetch 77 1 = some (.ifCond .lt 19, 3, 20, 0, 0) := rfl
theorem f_Mo_putCell_4 : fetch 77 4 = some (.aload_n 0, 1, 0, 0, 0) := rfl
theorem f_Mo_putCell_5 : fetch 77 5 = some (.aload_n 0, 1, 0, 0, 0) := rfl
theorem f_Mo_putCell_6 : fetch 77 6 = some (.getfield 84, 3, 8, 37, 51) := rfl
theorem f_Mo_putCell_9 : fetch 77 9 = some (.iload_n 1, 1, 0, 0, 0) := rfl
theorem f_Mo_putCell_10 : fetch 77 10 = some (.iaload, 1, 0, 0, 0) := rfl
theorem f_Mo_putCell_11 : fetch 77 11 = some (.aload_n 0, 1, 0, 0, 0) := rfl
theorem f_Mo_putCell_12 : fetch 77 12 = some (.getfield 87, 3, 8, 38, 52) := rfl
theorem f_Mo_putCell_15 : fetch 77 15 = some (.iload_n 1, 1, 0, 0, 0) := rfl
theorem f_Mo_putCell_16 : fetch 77 16 = some (.iaload, 1, 0, 0, 0) := rfl
theorem f_Mo_putCell_17 : fetch 77 17 = some (.invokevirtual 290, 3, 76, 2, 84) := rfl
theorem f_Mo_putCell_20 : fetch 77 20 = some (.return_, 1, 0, 0, 0) := rfl
def F_Mo_putCell_20   (σ : SG) : Option (SG) :=
  some σ
set_option maxHeartbeats 4000000 in
theorem w_Mo_putCell_20 {b d : Nat} {sc : SC} {pre tl : List PE} {B : Nat} {Q : Option Value → List PE → Prop} {res : SG} (hB : B = b + pre.length) (hd : 1 ≤ d)   (hQ : Q none (HH pre tl SHm B res)) (lv : LV) (σ : SG)   (hF : F_Mo_putCell_20   σ = some res) : Rn b sc d 77 20 lv [] (HH pre tl SHm B σ) Q := by
  obtain ⟨e0, rfl⟩ : ∃ e, d = e + 1 := ⟨d - 1, by omega⟩
  unfold F_Mo_putCell_20 at hF
  cases hF
  exact r_return f_Mo_putCell_20 hQ
def F_Mo_putCell (a0 : Nat) (a1 : Int32) (σ : SG) : Option (SG) :=
  if a1 < 0 then
  F_Mo_putCell_20 σ
  else if a1 < 0 ∨ 856 ≤ (a1).toNatClampNeg then none else
  if a1 < 0 ∨ 856 ≤ (a1).toNatClampNeg then none else
  match F_Mo_put (a0) ((σ.2.2.2.1 ((cref SHm (a0) 37)) ((a1).toNatClampNeg))) ((σ.2.2.2.1 ((cref SHm (a0) 38)) ((a1).toNatClampNeg))) σ with
  | none => none
  | some q4 =>
  F_Mo_putCell_20 q4
set_option maxHeartbeats 4000000 in
theorem w_Mo_putCell {b d : Nat} {pre tl : List PE} {B : Nat} {Q : Option Value → List PE → Prop} {res : SG} (hB : B = b + pre.length) (hd : 1 ≤ d)  {σ : SG} (a0 : Nat) (a1 : Int32) (ha0 : isC SHm (a0) 8 = true) (hF : F_Mo_putCell a0 a1 σ = some res) (hQ : Q none (HH pre tl SHm B res)) : Cl b d 77 [.ref (B + (a0)), .int (a1)] (HH pre tl SHm B σ) Q := by
  obtain ⟨e0, rfl⟩ : ∃ e, d = e + 1 := ⟨d - 1, by omega⟩
  unfold Cl
  unfold F_Mo_putCell at hF
  refine r_iload_n f_Mo_putCell_0 rfl ?_
  refine r_if_lt f_Mo_putCell_1 (fun c1 => ?_) (fun c1 => ?_)
  · rw [if_pos c1] at hF
    exact w_Mo_putCell_20 hB hd  hQ _ (σ) hF
  · rw [if_neg c1] at hF
    refine r_aload_n f_Mo_putCell_4 rfl ?_
    refine r_aload_n f_Mo_putCell_5 rfl ?_
    refine t_getc hB ha0 f_Mo_putCell_6 rfl ?_
    refine r_iload_n f_Mo_putCell_9 rfl ?_
    by_cases c2 : a1 < 0 ∨ 856 ≤ (a1).toNatClampNeg
    · rw [if_pos c2] at hF; cases hF
    rw [if_neg c2] at hF
    refine t_iald hB (cc_8_37 ha0) f_Mo_putCell_10 c2 ?_
    refine r_aload_n f_Mo_putCell_11 rfl ?_
    refine t_getc hB ha0 f_Mo_putCell_12 rfl ?_
    refine r_iload_n f_Mo_putCell_15 rfl ?_
    by_cases c3 : a1 < 0 ∨ 856 ≤ (a1).toNatClampNeg
    · rw [if_pos c3] at hF; cases hF
    rw [if_neg c3] at hF
    refine t_iald hB (cc_8_38 ha0) f_Mo_putCell_16 c3 ?_
    cases hq4 : F_Mo_put (a0) ((σ.2.2.2.1 ((cref SHm (a0) 37)) ((a1).toNatClampNeg))) ((σ.2.2.2.1 ((cref SHm (a0) 38)) ((a1).toNatClampNeg))) σ with
    | none => simp only [hq4] at hF; cases hF
    | some q4 =>
      simp only [hq4] at hF
      refine t_V2v hB ha0 rfl rfl f_Mo_putCell_17 (by decide) (Nat.le_of_ble_eq_true rfl) (Nat.le_of_ble_eq_true rfl) (w_Mo_put hB  (a0) ((σ.2.2.2.1 ((cref SHm (a0) 37)) ((a1).toNatClampNeg))) ((σ.2.2.2.1 ((cref SHm (a0) 38)) ((a1).toNatClampNeg))) ha0 hq4 ⟨rfl, ?_⟩)
      exact w_Mo_putCell_20 hB hd  hQ _ (q4) hF
theorem f_Mo_get_0 : fetch 78 0 = some (.aload_n 0, 1, 0, 0, 0) := rfl
theorem f_Mo_get_1 : fetch 78 1 = some (.getfield 275, 3, 8, 31, 71) := rfl
theorem f_Mo_get_4 : fetch 78 4 = some (.iconst 1, 1, 0, 0, 0) := rfl
theorem f_Mo_get_5 : fetch 78 5 = some (.isub, 1, 0, 0, 0) := rfl
theorem f_Mo_get_6 : fetch 78 6 = some (.istore_n 1, 1, 0, 0, 0) := rfl
theorem f_Mo_get_7 : fetch 78 7 = some (.aload_n 0, 1, 0, 0, 0) := rfl
theorem f_Mo_get_8 : fetch 78 8 = some (.getfield 75, 3, 8, 34, 48) := rfl
theorem f_Mo_get_11 : fetch 78 11 = some (.iload_n 1, 1, 0, 0, 0) := rfl
theorem f_Mo_get_12 : fetch 78 12 = some (.dup2, 1, 0, 0, 0) := rfl
theorem f_Mo_get_13 : fetch 78 13 = some (.iaload, 1, 0, 0, 0) := rfl
theorem f_Mo_get_14 : fetch 78 14 = some (.iconst 1, 1, 0, 0, 0) := rfl
theorem f_Mo_get_15 : fetch 78 15 = some (.isub, 1, 0, 0, 0) := rfl
theorem f_Mo_get_16 : fetch 78 16 = some (.iastore, 1, 0, 0, 0) := rfl
theorem f_Mo_get_17 : fetch 78 17 = some (.aload_n 0, 1, 0, 0, 0) := rfl
theorem f_Mo_get_18 : fetch 78 18 = some (.aload_n 0, 1, 0, 0, 0) := rfl
theorem f_Mo_get_19 : fetch 78 19 = some (.getfield 81, 3, 8, 36, 50) := rfl
theorem f_Mo_get_22 : fetch 78 22 = some (.bipush 8, 2, 0, 0, 0) := rfl
theorem f_Mo_get_24 : fetch 78 24 = some (.iload_n 1, 1, 0, 0, 0) := rfl
theorem f_Mo_get_25 : fetch 78 25 = some (.imul, 1, 0, 0, 0) := rfl
theorem f_Mo_get_26 : fetch 78 26 = some (.aload_n 0, 1, 0, 0, 0) := rfl
theorem f_Mo_get_27 : fetch 78 27 = some (.getfield 75, 3, 8, 34, 48) := rfl
theorem f_Mo_get_30 : fetch 78 30 = some (.iload_n 1, 1, 0, 0, 0) := rfl
theorem f_Mo_get_31 : fetch 78 31 = some (.iaload, 1, 0, 0, 0) := rfl
theorem f_Mo_get_32 : fetch 78 32 = some (.iadd, 1, 0, 0, 0) := rfl
theorem f_Mo_get_33 : fetch 78 33 = some (.iaload, 1, 0, 0, 0) := rfl
theorem f_Mo_get_34 : fetch 78 34 = some (.putfield 284, 3, 8, 46, 73) := rfl
theorem f_Mo_get_37 : fetch 78 37 = some (.aload_n 0, 1, 0, 0, 0) := rfl
theorem f_Mo_get_38 : fetch 78 38 = some (.getfield 78, 3, 8, 35, 49) := rfl
theorem f_Mo_get_41 : fetch 78 41 = some (.bipush 8, 2, 0, 0, 0) := rfl
theorem f_Mo_get_43 : fetch 78 43 = some (.iload_n 1, 1, 0, 0, 0) := rfl
theorem f_Mo_get_44 : fetch 78 44 = some (.imul, 1, 0, 0, 0) := rfl
theorem f_Mo_get_45 : fetch 78 45 = some (.aload_n 0, 1, 0, 0, 0) := rfl
theorem f_Mo_get_46 : fetch 78 46 = some (.getfield 75, 3, 8, 34, 48) := rfl
theorem f_Mo_get_49 : fetch 78 49 = some (.iload_n 1, 1, 0, 0, 0) := rfl
theorem f_Mo_get_50 : fetch 78 50 = some (.iaload, 1, 0, 0, 0) := rfl
theorem f_Mo_get_51 : fetch 78 51 = some (.iadd, 1, 0, 0, 0) := rfl
theorem f_Mo_get_52 : fetch 78 52 = some (.iaload, 1, 0, 0, 0) := rfl
theorem f_Mo_get_53 : fetch 78 53 = some (.ireturn, 1, 0, 0, 0) := rfl
def F_Mo_get (a0 : Nat) (σ : SG) : Option (Int32 × SG) :=
  if ((σ.1 (a0) 31) - (1 : Int32)) < 0 ∨ 8 ≤ (((σ.1 (a0) 31) - (1 : Int32))).toNatClampNeg then none else
  if ((σ.1 (a0) 31) - (1 : Int32)) < 0 ∨ 8 ≤ (((σ.1 (a0) 31) - (1 : Int32))).toNatClampNeg then none else
  stl (setA σ ((cref SHm (a0) 34)) ((((σ.1 (a0) 31) - (1 : Int32))).toNatClampNeg) (((σ.2.2.2.1 ((cref SHm (a0) 34)) ((((σ.1 (a0) 31) - (1 : Int32))).toNatClampNeg)) - (1 : Int32)))) fun s3 =>
  if ((σ.1 (a0) 31) - (1 : Int32)) < 0 ∨ 8 ≤ (((σ.1 (a0) 31) - (1 : Int32))).toNatClampNeg then none else
  if (((8 : Int32) * ((σ.1 (a0) 31) - (1 : Int32))) + (s3.2.2.2.1 ((cref SHm (a0) 34)) ((((σ.1 (a0) 31) - (1 : Int32))).toNatClampNeg))) < 0 ∨ 64 ≤ ((((8 : Int32) * ((σ.1 (a0) 31) - (1 : Int32))) + (s3.2.2.2.1 ((cref SHm (a0) 34)) ((((σ.1 (a0) 31) - (1 : Int32))).toNatClampNeg)))).toNatClampNeg then none else
  stl (setI s3 (a0) 46 ((s3.2.2.2.1 ((cref SHm (a0) 36)) (((((8 : Int32) * ((σ.1 (a0) 31) - (1 : Int32))) + (s3.2.2.2.1 ((cref SHm (a0) 34)) ((((σ.1 (a0) 31) - (1 : Int32))).toNatClampNeg)))).toNatClampNeg)))) fun s6 =>
  if ((σ.1 (a0) 31) - (1 : Int32)) < 0 ∨ 8 ≤ (((σ.1 (a0) 31) - (1 : Int32))).toNatClampNeg then none else
  if (((8 : Int32) * ((σ.1 (a0) 31) - (1 : Int32))) + (s6.2.2.2.1 ((cref SHm (a0) 34)) ((((σ.1 (a0) 31) - (1 : Int32))).toNatClampNeg))) < 0 ∨ 64 ≤ ((((8 : Int32) * ((σ.1 (a0) 31) - (1 : Int32))) + (s6.2.2.2.1 ((cref SHm (a0) 34)) ((((σ.1 (a0) 31) - (1 : Int32))).toNatClampNeg)))).toNatClampNeg then none else
  some ((s6.2.2.2.1 ((cref SHm (a0) 35)) (((((8 : Int32) * ((σ.1 (a0) 31) - (1 : Int32))) + (s6.2.2.2.1 ((cref SHm (a0) 34)) ((((σ.1 (a0) 31) - (1 : Int32))).toNatClampNeg)))).toNatClampNeg)), s6)
set_option maxHeartbeats 4000000 in
theorem w_Mo_get {b d : Nat} {pre tl : List PE} {B : Nat} {Q : Option Value → List PE → Prop} {res : Int32 × SG} (hB : B = b + pre.length)  {σ : SG} (a0 : Nat) (ha0 : isC SHm (a0) 8 = true) (hF : F_Mo_get a0 σ = some res) (hQ : Q (some (.int res.1)) (HH pre tl SHm B res.2)) : Cl b d 78 [.ref (B + (a0))] (HH pre tl SHm B σ) Q := by
  unfold Cl
  unfold F_Mo_get at hF
  refine r_aload_n f_Mo_get_0 rfl ?_
  refine t_geti hB ha0 f_Mo_get_1 rfl ?_
  refine r_iconst f_Mo_get_4 (v := 1) (by decide) ?_
  refine r_isub f_Mo_get_5 ?_
  refine r_istore_n f_Mo_get_6 ?_
  refine r_aload_n f_Mo_get_7 (lk_put_ne rfl (by decide) (Or.inl rfl)) ?_
  refine t_getc hB ha0 f_Mo_get_8 rfl ?_
  refine r_iload_n f_Mo_get_11 lk_put ?_
  refine r_dup2 f_Mo_get_12 ⟨rfl, rfl⟩ ?_
  by_cases c1 : ((σ.1 (a0) 31) - (1 : Int32)) < 0 ∨ 8 ≤ (((σ.1 (a0) 31) - (1 : Int32))).toNatClampNeg
  · rw [if_pos c1] at hF; cases hF
  rw [if_neg c1] at hF
  refine t_iald hB (cc_8_34 ha0) f_Mo_get_13 c1 ?_
  refine r_iconst f_Mo_get_14 (v := 1) (by decide) ?_
  refine r_isub f_Mo_get_15 ?_
  by_cases c2 : ((σ.1 (a0) 31) - (1 : Int32)) < 0 ∨ 8 ≤ (((σ.1 (a0) 31) - (1 : Int32))).toNatClampNeg
  · rw [if_pos c2] at hF; cases hF
  rw [if_neg c2] at hF
  refine t_iast hB (cc_8_34 ha0) f_Mo_get_16 c2 ?_
  generalize hs3 : setA σ ((cref SHm (a0) 34)) ((((σ.1 (a0) 31) - (1 : Int32))).toNatClampNeg) (((σ.2.2.2.1 ((cref SHm (a0) 34)) ((((σ.1 (a0) 31) - (1 : Int32))).toNatClampNeg)) - (1 : Int32))) = s3 at hF ⊢
  rw [stl_eq] at hF
  refine r_aload_n f_Mo_get_17 (lk_put_ne rfl (by decide) (Or.inl rfl)) ?_
  refine r_aload_n f_Mo_get_18 (lk_put_ne rfl (by decide) (Or.inl rfl)) ?_
  refine t_getc hB ha0 f_Mo_get_19 rfl ?_
  refine r_bipush f_Mo_get_22 (v := 8) (by decide) ?_
  refine r_iload_n f_Mo_get_24 lk_put ?_
  refine r_imul f_Mo_get_25 ?_
  refine r_aload_n f_Mo_get_26 (lk_put_ne rfl (by decide) (Or.inl rfl)) ?_
  refine t_getc hB ha0 f_Mo_get_27 rfl ?_
  refine r_iload_n f_Mo_get_30 lk_put ?_
  by_cases c4 : ((σ.1 (a0) 31) - (1 : Int32)) < 0 ∨ 8 ≤ (((σ.1 (a0) 31) - (1 : Int32))).toNatClampNeg
  · rw [if_pos c4] at hF; cases hF
  rw [if_neg c4] at hF
  refine t_iald hB (cc_8_34 ha0) f_Mo_get_31 c4 ?_
  refine r_iadd f_Mo_get_32 ?_
  by_cases c5 : (((8 : Int32) * ((σ.1 (a0) 31) - (1 : Int32))) + (s3.2.2.2.1 ((cref SHm (a0) 34)) ((((σ.1 (a0) 31) - (1 : Int32))).toNatClampNeg))) < 0 ∨ 64 ≤ ((((8 : Int32) * ((σ.1 (a0) 31) - (1 : Int32))) + (s3.2.2.2.1 ((cref SHm (a0) 34)) ((((σ.1 (a0) 31) - (1 : Int32))).toNatClampNeg)))).toNatClampNeg
  · rw [if_pos c5] at hF; cases hF
  rw [if_neg c5] at hF
  refine t_iald hB (cc_8_36 ha0) f_Mo_get_33 c5 ?_
  refine t_puti hB ha0 f_Mo_get_34 rfl rfl ?_
  generalize hs6 : setI s3 (a0) 46 ((s3.2.2.2.1 ((cref SHm (a0) 36)) (((((8 : Int32) * ((σ.1 (a0) 31) - (1 : Int32))) + (s3.2.2.2.1 ((cref SHm (a0) 34)) ((((σ.1 (a0) 31) - (1 : Int32))).toNatClampNeg)))).toNatClampNeg))) = s6 at hF ⊢
  rw [stl_eq] at hF
  refine r_aload_n f_Mo_get_37 (lk_put_ne rfl (by decide) (Or.inl rfl)) ?_
  refine t_getc hB ha0 f_Mo_get_38 rfl ?_
  refine r_bipush f_Mo_get_41 (v := 8) (by decide) ?_
  refine r_iload_n f_Mo_get_43 lk_put ?_
  refine r_imul f_Mo_get_44 ?_
  refine r_aload_n f_Mo_get_45 (lk_put_ne rfl (by decide) (Or.inl rfl)) ?_
  refine t_getc hB ha0 f_Mo_get_46 rfl ?_
  refine r_iload_n f_Mo_get_49 lk_put ?_
  by_cases c7 : ((σ.1 (a0) 31) - (1 : Int32)) < 0 ∨ 8 ≤ (((σ.1 (a0) 31) - (1 : Int32))).toNatClampNeg
  · rw [if_pos c7] at hF; cases hF
  rw [if_neg c7] at hF
  refine t_iald hB (cc_8_34 ha0) f_Mo_get_50 c7 ?_
  refine r_iadd f_Mo_get_51 ?_
  by_cases c8 : (((8 : Int32) * ((σ.1 (a0) 31) - (1 : Int32))) + (s6.2.2.2.1 ((cref SHm (a0) 34)) ((((σ.1 (a0) 31) - (1 : Int32))).toNatClampNeg))) < 0 ∨ 64 ≤ ((((8 : Int32) * ((σ.1 (a0) 31) - (1 : Int32))) + (s6.2.2.2.1 ((cref SHm (a0) 34)) ((((σ.1 (a0) 31) - (1 : Int32))).toNatClampNeg)))).toNatClampNeg
  · rw [if_pos c8] at hF; cases hF
  rw [if_neg c8] at hF
  refine t_iald hB (cc_8_35 ha0) f_Mo_get_52 c8 ?_
  cases hF
  exact r_ireturn f_Mo_get_53 hQ
theorem f_Mo_setCell_0 : fetch 79 0 = some (.iload_n 1, 1, 0, 0, 0) := rfl
theorem f_Mo_setCell_1 : fetch 79 1 = some (.ifCond .ge 4, 3, 5, 0, 0) := rfl
theorem f_Mo_setCell_4 : fetch 79 4 = some (.return_, 1, 0, 0, 0) := rfl
theorem f_Mo_setCell_5 : fetch 79 5 = some (.aload_n 0, 1, 0, 0, 0) := rfl
theorem f_Mo_setCell_6 : fetch 79 6 = some (.getfield 84, 3, 8, 37, 51) := rfl
theorem f_Mo_setCell_9 : fetch 79 9 = some (.iload_n 1, 1, 0, 0, 0) := rfl
theorem f_Mo_setCell_10 : fetch 79 10 = some (.iload_n 2, 1, 0, 0, 0) := rfl
theorem f_Mo_setCell_11 : fetch 79 11 = some (.iastore, 1, 0, 0, 0) := rfl
theorem f_Mo_setCell_12 : fetch 79 12 = some (.aload_n 0, 1, 0, 0, 0) := rfl
theorem f_Mo_setCell_13 : fetch 79 13 = some (.getfield 87, 3, 8, 38, 52) := rfl
theorem f_Mo_setCell_16 : fetch 79 16 = some (.iload_n 1, 1, 0, 0, 0) := rfl
theorem f_Mo_setCell_17 : fetch 79 17 = some (.iload_n 3, 1, 0, 0, 0) := rfl
theorem f_Mo_setCell_18 : fetch 79 18 = some (.iastore, 1, 0, 0, 0) := rfl
theorem f_Mo_setCell_19 : fetch 79 19 = some (.return_, 1, 0, 0, 0) := rfl
def F_Mo_setCell (a0 : Nat) (a1 : Int32) (a2 : Int32) (a3 : Int32) (σ : SG) : Option (SG) :=
  if 0 ≤ a1 then
  if a1 < 0 ∨ 856 ≤ (a1).toNatClampNeg then none else
  stl (setA σ ((cref SHm (a0) 37)) ((a1).toNatClampNeg) (a2)) fun s3 =>
  if a1 < 0 ∨ 856 ≤ (a1).toNatClampNeg then none else
  stl (setA s3 ((cref SHm (a0) 38)) ((a1).toNatClampNeg) (a3)) fun s5 =>
  some s5
  else some σ
set_option maxHeartbeats 4000000 in
theorem w_Mo_setCell {b d : Nat} {pre tl : List PE} {B : Nat} {Q : Option Value → List PE → Prop} {res : SG} (hB : B = b + pre.length)  {σ : SG} (a0 : Nat) (a1 : Int32) (a2 : Int32) (a3 : Int32) (ha0 : isC SHm (a0) 8 = true) (hF : F_Mo_setCell a0 a1 a2 a3 σ = some res) (hQ : Q none (HH pre tl SHm B res)) : Cl b d 79 [.ref (B + (a0)), .int (a1), .int (a2), .int (a3)] (HH pre tl SHm B σ) Q := by
  unfold Cl
  unfold F_Mo_setCell at hF
  refine r_iload_n f_Mo_setCell_0 rfl ?_
  refine r_if_ge f_Mo_setCell_1 (fun c1 => ?_) (fun c1 => ?_)
  · rw [if_pos c1] at hF
    refine r_aload_n f_Mo_setCell_5 rfl ?_
    refine t_getc hB ha0 f_Mo_setCell_6 rfl ?_
    refine r_iload_n f_Mo_setCell_9 rfl ?_
    refine r_iload_n f_Mo_setCell_10 rfl ?_
    by_cases c2 : a1 < 0 ∨ 856 ≤ (a1).toNatClampNeg
    · rw [if_pos c2] at hF; cases hF
    rw [if_neg c2] at hF
    refine t_iast hB (cc_8_37 ha0) f_Mo_setCell_11 c2 ?_
    generalize hs3 : setA σ ((cref SHm (a0) 37)) ((a1).toNatClampNeg) (a2) = s3 at hF ⊢
    rw [stl_eq] at hF
    refine r_aload_n f_Mo_setCell_12 rfl ?_
    refine t_getc hB ha0 f_Mo_setCell_13 rfl ?_
    refine r_iload_n f_Mo_setCell_16 rfl ?_
    refine r_iload_n f_Mo_setCell_17 rfl ?_
    by_cases c4 : a1 < 0 ∨ 856 ≤ (a1).toNatClampNeg
    · rw [if_pos c4] at hF; cases hF
    rw [if_neg c4] at hF
    refine t_iast hB (cc_8_38 ha0) f_Mo_setCell_18 c4 ?_
    generalize hs5 : setA s3 ((cref SHm (a0) 38)) ((a1).toNatClampNeg) (a3) = s5 at hF ⊢
    rw [stl_eq] at hF
    cases hF
    exact r_return f_Mo_setCell_19 hQ
  · rw [if_neg c1] at hF
    cases hF
    exact r_return f_Mo_setCell_4 hQ
theorem f_Mo_reckon_0 : fetch 80 0 = some (.aload_n 0, 1, 0, 0, 0) := rfl
theorem f_Mo_reckon_1 : fetch 80 1 = some (.invokevirtual 308, 3, 78, 0, 86) := rfl
theorem f_Mo_reckon_4 : fetch 80 4 = some (.istore_n 2, 1, 0, 0, 0) := rfl
theorem f_Mo_reckon_5 : fetch 80 5 = some (.aload_n 0, 1, 0, 0, 0) := rfl
theorem f_Mo_reckon_6 : fetch 80 6 = some (.invokevirtual 308, 3, 78, 0, 86) := rfl
theorem f_Mo_reckon_9 : fetch 80 9 = some (.istore_n 3, 1, 0, 0, 0) := rfl
theorem f_Mo_reckon_10 : fetch 80 10 = some (.aload_n 0, 1, 0, 0, 0) := rfl
theorem f_Mo_reckon_11 : fetch 80 11 = some (.iload_n 1, 1, 0, 0, 0) := rfl
theorem f_Mo_reckon_12 : fetch 80 12 = some (.bipush 10, 2, 0, 0, 0) := rfl
theorem f_Mo_reckon_14 : fetch 80 14 = some (.if_icmp .ne 11, 3, 25, 0, 0) := rfl
theorem f_Mo_reckon_17 : fetch 80 17 = some (.iload_n 2, 1, 0, 0, 0) := rfl
theorem f_Mo_reckon_18 : fetch 80 18 = some (.ifCond .ne 7, 3, 25, 0, 0) := rfl
theorem f_Mo_reckon_21 : fetch 80 21 = some (.iconst 1, 1, 0, 0, 0) := rfl
theorem f_Mo_reckon_22 : fetch 80 22 = some (.goto 4, 3, 26, 0, 0) := rfl
theorem f_Mo_reckon_25 : fetch 80 25 = some (.iconst 0, 1, 0, 0, 0) := rfl
theorem f_Mo_reckon_26 : fetch 80 26 = some (.putfield 287, 3, 8, 44, 72) := rfl
theorem f_Mo_reckon_29 : fetch 80 29 = some (.aload_n 0, 1, 0, 0, 0) := rfl
theorem f_Mo_reckon_30 : fetch 80 30 = some (.getfield 287, 3, 8, 44, 72) := rfl
theorem f_Mo_reckon_33 : fetch 80 33 = some (.ifCond .ne 47, 3, 80, 0, 0) := rfl
theorem f_Mo_reckon_36 : fetch 80 36 = some (.aload_n 0, 1, 0, 0, 0) := rfl
theorem f_Mo_reckon_37 : fetch 80 37 = some (.iload_n 1, 1, 0, 0, 0) := rfl
theorem f_Mo_reckon_38 : fetch 80 38 = some (.bipush 7, 2, 0, 0, 0) := rfl
theorem f_Mo_reckon_40 : fetch 80 40 = some (.if_icmp .ne 9, 3, 49, 0, 0) := rfl
theorem f_Mo_reckon_43 : fetch 80 43 = some (.iload_n 3, 1, 0, 0, 0) := rfl
theorem f_Mo_reckon_44 : fetch 80 44 = some (.iload_n 2, 1, 0, 0, 0) := rfl
theorem f_Mo_reckon_45 : fetch 80 45 = some (.iadd, 1, 0, 0, 0) := rfl
theorem f_Mo_reckon_46 : fetch 80 46 = some (.goto 30, 3, 76, 0, 0) := rfl
theorem f_Mo_reckon_49 : fetch 80 49 = some (.iload_n 1, 1, 0, 0, 0) := rfl
theorem f_Mo_reckon_50 : fetch 80 50 = some (.bipush 8, 2, 0, 0, 0) := rfl
theorem f_Mo_reckon_52 : fetch 80 52 = some (.if_icmp .ne 9, 3, 61, 0, 0) := rfl
theorem f_Mo_reckon_55 : fetch 80 55 = some (.iload_n 3, 1, 0, 0, 0) := rfl
theorem f_Mo_reckon_56 : fetch 80 56 = some (.iload_n 2, 1, 0, 0, 0) := rfl
theorem f_Mo_reckon_57 : fetch 80 57 = some (.isub, 1, 0, 0, 0) := rfl
theorem f_Mo_reckon_58 : fetch 80 58 = some (.goto 18, 3, 76, 0, 0) := rfl
theorem f_Mo_reckon_61 : fetch 80 61 = some (.iload_n 1, 1, 0, 0, 0) := rfl
theorem f_Mo_reckon_62 : fetch 80 62 = some (.bipush 9, 2, 0, 0, 0) := rfl
theorem f_Mo_reckon_64 : fetch 80 64 = some (.if_icmp .ne 9, 3, 73, 0, 0) := rfl
theorem f_Mo_reckon_67 : fetch 80 67 = some (.iload_n 3, 1, 0, 0, 0) := rfl
theorem f_Mo_reckon_68 : fetch 80 68 = some (.iload_n 2, 1, 0, 0, 0) := rfl
theorem f_Mo_reckon_69 : fetch 80 69 = some (.imul, 1, 0, 0, 0) := rfl
theorem f_Mo_reckon_70 : fetch 80 70 = some (.goto 6, 3, 76, 0, 0) := rfl
theorem f_Mo_reckon_73 : fetch 80 73 = some (.iload_n 3, 1, 0, 0, 0) := rfl
theorem f_Mo_reckon_74 : fetch 80 74 = some (.iload_n 2, 1, 0, 0, 0) := rfl
theorem f_Mo_reckon_75 : fetch 80 75 = some (.idiv, 1, 0, 0, 0) := rfl
theorem f_Mo_reckon_76 : fetch 80 76 = some (.iconst 0, 1, 0, 0, 0) := rfl
theorem f_Mo_reckon_77 : fetch 80 77 = some (.invokevirtual 290, 3, 76, 2, 84) := rfl
theorem f_Mo_reckon_80 : fetch 80 80 = some (.return_, 1, 0, 0, 0) := rfl
def F_Mo_reckon_80   (σ : SG) : Option (SG) :=
  some σ
set_option maxHeartbeats 4000000 in
theorem w_Mo_reckon_80 {b d : Nat} {sc : SC} {pre tl : List PE} {B : Nat} {Q : Option Value → List PE → Prop} {res : SG} (hB : B = b + pre.length) (hd : 1 ≤ d)   (hQ : Q none (HH pre tl SHm B res)) (lv : LV) (σ : SG)   (hF : F_Mo_reckon_80   σ = some res) : Rn b sc d 80 80 lv [] (HH pre tl SHm B σ) Q := by
  obtain ⟨e0, rfl⟩ : ∃ e, d = e + 1 := ⟨d - 1, by omega⟩
  unfold F_Mo_reckon_80 at hF
  cases hF
  exact r_return f_Mo_reckon_80 hQ
def F_Mo_reckon_76  (y0 : Nat) (y1 : Int32) (σ : SG) : Option (SG) :=
  match F_Mo_put (y0) (y1) ((0 : Int32)) σ with
  | none => none
  | some q1 =>
  F_Mo_reckon_80 q1
set_option maxHeartbeats 4000000 in
theorem w_Mo_reckon_76 {b d : Nat} {sc : SC} {pre tl : List PE} {B : Nat} {Q : Option Value → List PE → Prop} {res : SG} (hB : B = b + pre.length) (hd : 1 ≤ d)   (hQ : Q none (HH pre tl SHm B res)) (lv : LV) (σ : SG) (y0 : Nat) (y1 : Int32) (hy0 : isC SHm (y0) 8 = true) (hF : F_Mo_reckon_76  y0 y1 σ = some res) : Rn b sc d 80 76 lv [.int (y1), .ref (B + (y0))] (HH pre tl SHm B σ) Q := by
  obtain ⟨e0, rfl⟩ : ∃ e, d = e + 1 := ⟨d - 1, by omega⟩
  unfold F_Mo_reckon_76 at hF
  refine r_iconst f_Mo_reckon_76 (v := 0) (by decide) ?_
  cases hq1 : F_Mo_put (y0) (y1) ((0 : Int32)) σ with
  | none => simp only [hq1] at hF; cases hF
  | some q1 =>
    simp only [hq1] at hF
    refine t_V2v hB hy0 rfl rfl f_Mo_reckon_77 (by decide) (Nat.le_of_ble_eq_true rfl) (Nat.le_of_ble_eq_true rfl) (w_Mo_put hB  (y0) (y1) ((0 : Int32)) hy0 hq1 ⟨rfl, ?_⟩)
    exact w_Mo_reckon_80 hB hd  hQ _ (q1) hF
def F_Mo_reckon_26  (x0 : Nat) (x1 : Int32) (x2 : Int32) (x3 : Int32) (y0 : Nat) (y1 : Bool) (σ : SG) : Option (SG) :=
  stl (setI σ (y0) 44 ((bz (y1)))) fun s2 =>
  if (s2.1 (x0) 44) = 0 then
  if x1 = (7 : Int32) then
  F_Mo_reckon_76 (x0) ((x3 + x2)) s2
  else if x1 = (8 : Int32) then
  F_Mo_reckon_76 (x0) ((x3 - x2)) s2
  else if x1 = (9 : Int32) then
  F_Mo_reckon_76 (x0) ((x3 * x2)) s2
  else if x2 = 0 then none else
  F_Mo_reckon_76 (x0) ((x3 / x2)) s2
  else F_Mo_reckon_80 s2
set_option maxHeartbeats 4000000 in
theorem w_Mo_reckon_26 {b d : Nat} {sc : SC} {pre tl : List PE} {B : Nat} {Q : Option Value → List PE → Prop} {res : SG} (hB : B = b + pre.length) (hd : 1 ≤ d)   (hQ : Q none (HH pre tl SHm B res)) (lv : LV) (σ : SG) (x0 : Nat) (x1 : Int32) (x2 : Int32) (x3 : Int32) (y0 : Nat) (y1 : Bool) (hx0 : isC SHm (x0) 8 = true) (hy0 : isC SHm (y0) 8 = true) (l0 : lv.lookup 0 = some (.ref (B + (x0)))) (l1 : lv.lookup 1 = some (.int (x1))) (l2 : lv.lookup 2 = some (.int (x2))) (l3 : lv.lookup 3 = some (.int (x3))) (hF : F_Mo_reckon_26  x0 x1 x2 x3 y0 y1 σ = some res) : Rn b sc d 80 26 lv [.int (bz (y1)), .ref (B + (y0))] (HH pre tl SHm B σ) Q := by
  obtain ⟨e0, rfl⟩ : ∃ e, d = e + 1 := ⟨d - 1, by omega⟩
  unfold F_Mo_reckon_26 at hF
  refine t_puti hB hy0 f_Mo_reckon_26 rfl rfl ?_
  generalize hs2 : setI σ (y0) 44 ((bz (y1))) = s2 at hF ⊢
  rw [stl_eq] at hF
  refine r_aload_n f_Mo_reckon_29 l0 ?_
  refine t_geti hB hx0 f_Mo_reckon_30 rfl ?_
  refine r_if_ne f_Mo_reckon_33 (fun c3 => ?_) (fun c3 => ?_)
  · rw [if_neg c3] at hF
    exact w_Mo_reckon_80 hB hd  hQ _ (s2) hF
  · rw [if_pos (Decidable.not_not.mp c3)] at hF
    refine r_aload_n f_Mo_reckon_36 l0 ?_
    refine r_iload_n f_Mo_reckon_37 l1 ?_
    refine r_bipush f_Mo_reckon_38 (v := 7) (by decide) ?_
    refine r_icmp_ne f_Mo_reckon_40 (fun c4 => ?_) (fun c4 => ?_)
    · rw [if_neg c4] at hF
      refine r_iload_n f_Mo_reckon_49 l1 ?_
      refine r_bipush f_Mo_reckon_50 (v := 8) (by decide) ?_
      refine r_icmp_ne f_Mo_reckon_52 (fun c5 => ?_) (fun c5 => ?_)
      · rw [if_neg c5] at hF
        refine r_iload_n f_Mo_reckon_61 l1 ?_
        refine r_bipush f_Mo_reckon_62 (v := 9) (by decide) ?_
        refine r_icmp_ne f_Mo_reckon_64 (fun c6 => ?_) (fun c6 => ?_)
        · rw [if_neg c6] at hF
          refine r_iload_n f_Mo_reckon_73 l3 ?_
          refine r_iload_n f_Mo_reckon_74 l2 ?_
          by_cases c7 : x2 = 0
          · rw [if_pos c7] at hF; cases hF
          rw [if_neg c7] at hF
          refine r_idiv f_Mo_reckon_75 c7 ?_
          exact w_Mo_reckon_76 hB hd  hQ _ (s2) (x0) ((x3 / x2)) hx0 hF
        · rw [if_pos (Decidable.not_not.mp c6)] at hF
          refine r_iload_n f_Mo_reckon_67 l3 ?_
          refine r_iload_n f_Mo_reckon_68 l2 ?_
          refine r_imul f_Mo_reckon_69 ?_
          refine r_goto f_Mo_reckon_70 ?_
          exact w_Mo_reckon_76 hB hd  hQ _ (s2) (x0) ((x3 * x2)) hx0 hF
      · rw [if_pos (Decidable.not_not.mp c5)] at hF
        refine r_iload_n f_Mo_reckon_55 l3 ?_
        refine r_iload_n f_Mo_reckon_56 l2 ?_
        refine r_isub f_Mo_reckon_57 ?_
        refine r_goto f_Mo_reckon_58 ?_
        exact w_Mo_reckon_76 hB hd  hQ _ (s2) (x0) ((x3 - x2)) hx0 hF
    · rw [if_pos (Decidable.not_not.mp c4)] at hF
      refine r_iload_n f_Mo_reckon_43 l3 ?_
      refine r_iload_n f_Mo_reckon_44 l2 ?_
      refine r_iadd f_Mo_reckon_45 ?_
      refine r_goto f_Mo_reckon_46 ?_
      exact w_Mo_reckon_76 hB hd  hQ _ (s2) (x0) ((x3 + x2)) hx0 hF
def F_Mo_reckon_25  (x0 : Nat) (x1 : Int32) (x2 : Int32) (x3 : Int32) (y0 : Nat) (σ : SG) : Option (SG) :=
  F_Mo_reckon_26 (x0) (x1) (x2) (x3) (y0) (false) σ
set_option maxHeartbeats 4000000 in
theorem w_Mo_reckon_25 {b d : Nat} {sc : SC} {pre tl : List PE} {B : Nat} {Q : Option Value → List PE → Prop} {res : SG} (hB : B = b + pre.length) (hd : 1 ≤ d)   (hQ : Q none (HH pre tl SHm B res)) (lv : LV) (σ : SG) (x0 : Nat) (x1 : Int32) (x2 : Int32) (x3 : Int32) (y0 : Nat) (hx0 : isC SHm (x0) 8 = true) (hy0 : isC SHm (y0) 8 = true) (l0 : lv.lookup 0 = some (.ref (B + (x0)))) (l1 : lv.lookup 1 = some (.int (x1))) (l2 : lv.lookup 2 = some (.int (x2))) (l3 : lv.lookup 3 = some (.int (x3))) (hF : F_Mo_reckon_25  x0 x1 x2 x3 y0 σ = some res) : Rn b sc d 80 25 lv [.ref (B + (y0))] (HH pre tl SHm B σ) Q := by
  obtain ⟨e0, rfl⟩ : ∃ e, d = e + 1 := ⟨d - 1, by omega⟩
  unfold F_Mo_reckon_25 at hF
  refine r_iconst f_Mo_reckon_25 (v := 0) (by decide) ?_
  exact w_Mo_reckon_26 hB hd  hQ _ (σ) (x0) (x1) (x2) (x3) (y0) (false) hx0 hy0 l0 l1 l2 l3 hF
def F_Mo_reckon (a0 : Nat) (a1 : Int32) (σ : SG) : Option (SG) :=
  match F_Mo_get (a0) σ with
  | none => none
  | some q8 =>
  match F_Mo_get (a0) q8.2 with
  | none => none
  | some q9 =>
  if a1 = (10 : Int32) then
  if q8.1 = 0 then
  F_Mo_reckon_26 (a0) (a1) (q8.1) (q9.1) (a0) (true) q9.2
  else F_Mo_reckon_25 (a0) (a1) (q8.1) (q9.1) (a0) q9.2
  else F_Mo_reckon_25 (a0) (a1) (q8.1) (q9.1) (a0) q9.2
set_option maxHeartbeats 4000000 in
theorem w_Mo_reckon {b d : Nat} {pre tl : List PE} {B : Nat} {Q : Option Value → List PE → Prop} {res : SG} (hB : B = b + pre.length) (hd : 1 ≤ d)  {σ : SG} (a0 : Nat) (a1 : Int32) (ha0 : isC SHm (a0) 8 = true) (hF : F_Mo_reckon a0 a1 σ = some res) (hQ : Q none (HH pre tl SHm B res)) : Cl b d 80 [.ref (B + (a0)), .int (a1)] (HH pre tl SHm B σ) Q := by
  obtain ⟨e0, rfl⟩ : ∃ e, d = e + 1 := ⟨d - 1, by omega⟩
  unfold Cl
  unfold F_Mo_reckon at hF
  refine r_aload_n f_Mo_reckon_0 rfl ?_
  cases hq8 : F_Mo_get (a0) σ with
  | none => simp only [hq8] at hF; cases hF
  | some q8 =>
    simp only [hq8] at hF
    refine t_V0i hB ha0 rfl rfl f_Mo_reckon_1 (by decide) (Nat.le_of_ble_eq_true rfl) (Nat.le_of_ble_eq_true rfl) (w_Mo_get hB  (a0) ha0 hq8 ⟨_, rfl, ?_⟩)
    refine r_istore_n f_Mo_reckon_4 ?_
    refine r_aload_n f_Mo_reckon_5 (lk_put_ne rfl (by decide) (Or.inl rfl)) ?_
    cases hq9 : F_Mo_get (a0) q8.2 with
    | none => simp only [hq9] at hF; cases hF
    | some q9 =>
      simp only [hq9] at hF
      refine t_V0i hB ha0 rfl rfl f_Mo_reckon_6 (by decide) (Nat.le_of_ble_eq_true rfl) (Nat.le_of_ble_eq_true rfl) (w_Mo_get hB  (a0) ha0 hq9 ⟨_, rfl, ?_⟩)
      refine r_istore_n f_Mo_reckon_9 ?_
      refine r_aload_n f_Mo_reckon_10 (lk_put_ne (lk_put_ne rfl (by decide) (Or.inl rfl)) (by decide) (Or.inl rfl)) ?_
      refine r_iload_n f_Mo_reckon_11 (lk_put_ne (lk_put_ne rfl (by decide) (Or.inl rfl)) (by decide) (Or.inl rfl)) ?_
      refine r_bipush f_Mo_reckon_12 (v := 10) (by decide) ?_
      refine r_icmp_ne f_Mo_reckon_14 (fun c10 => ?_) (fun c10 => ?_)
      · rw [if_neg c10] at hF
        exact w_Mo_reckon_25 hB hd  hQ _ (q9.2) (a0) (a1) (q8.1) (q9.1) (a0) ha0 ha0 (lk_put_ne (lk_put_ne rfl (by decide) (Or.inl rfl)) (by decide) (Or.inl rfl)) (lk_put_ne (lk_put_ne rfl (by decide) (Or.inl rfl)) (by decide) (Or.inl rfl)) (lk_put_ne lk_put (by decide) (Or.inl rfl)) lk_put hF
      · rw [if_pos (Decidable.not_not.mp c10)] at hF
        refine r_iload_n f_Mo_reckon_17 (lk_put_ne lk_put (by decide) (Or.inl rfl)) ?_
        refine r_if_ne f_Mo_reckon_18 (fun c11 => ?_) (fun c11 => ?_)
        · rw [if_neg c11] at hF
          exact w_Mo_reckon_25 hB hd  hQ _ (q9.2) (a0) (a1) (q8.1) (q9.1) (a0) ha0 ha0 (lk_put_ne (lk_put_ne rfl (by decide) (Or.inl rfl)) (by decide) (Or.inl rfl)) (lk_put_ne (lk_put_ne rfl (by decide) (Or.inl rfl)) (by decide) (Or.inl rfl)) (lk_put_ne lk_put (by decide) (Or.inl rfl)) lk_put hF
        · rw [if_pos (Decidable.not_not.mp c11)] at hF
          refine r_iconst f_Mo_reckon_21 (v := 1) (by decide) ?_
          refine r_goto f_Mo_reckon_22 ?_
          exact w_Mo_reckon_26 hB hd  hQ _ (q9.2) (a0) (a1) (q8.1) (q9.1) (a0) (true) ha0 ha0 (lk_put_ne (lk_put_ne rfl (by decide) (Or.inl rfl)) (by decide) (Or.inl rfl)) (lk_put_ne (lk_put_ne rfl (by decide) (Or.inl rfl)) (by decide) (Or.inl rfl)) (lk_put_ne lk_put (by decide) (Or.inl rfl)) lk_put hF
theorem f_Mo_plain_0 : fetch 75 0 = some (.iload_n 3, 1, 0, 0, 0) := rfl
theorem f_Mo_plain_1 : fetch 75 1 = some (.tableswitch 343 0 16 #[83, 86, 102, 118, 146, 163, 182, 343, 343, 343, 343, 213, 244, 252, 266, 296, 334], 83, 344, 0, 0) := rfl
theorem f_Mo_plain_84 : fetch 75 84 = some (.goto 265, 3, 349, 0, 0) := rfl
theorem f_Mo_plain_87 : fetch 75 87 = some (.aload_n 0, 1, 0, 0, 0) := rfl
theorem f_Mo_plain_88 : fetch 75 88 = some (.aload_n 0, 1, 0, 0, 0) := rfl
theorem f_Mo_plain_89 : fetch 75 89 = some (.iload_n 2, 1, 0, 0, 0) := rfl
theorem f_Mo_plain_90 : fetch 75 90 = some (.invokevirtual 157, 3, 47, 1, 61) := rfl
theorem f_Mo_plain_93 : fetch 75 93 = some (.invokestatic 161, 3, 61, 1, 72) := rfl
theorem f_Mo_plain_96 : fetch 75 96 = some (.iconst 0, 1, 0, 0, 0) := rfl
theorem f_Mo_plain_97 : fetch 75 97 = some (.invokevirtual 290, 3, 76, 2, 84) := rfl
theorem f_Mo_plain_100 : fetch 75 100 = some (.goto 249, 3, 349, 0, 0) := rfl
theorem f_Mo_plain_103 : fetch 75 103 = some (.aload_n 0, 1, 0, 0, 0) := rfl
theorem f_Mo_plain_104 : fetch 75 104 = some (.iconst 4, 1, 0, 0, 0) := rfl
theorem f_Mo_plain_105 : fetch 75 105 = some (.iload_n 1, 1, 0, 0, 0) := rfl
theorem f_Mo_plain_106 : fetch 75 106 = some (.imul, 1, 0, 0, 0) := rfl
theorem f_Mo_plain_107 : fetch 75 107 = some (.aload_n 0, 1, 0, 0, 0) := rfl
theorem f_Mo_plain_108 : fetch 75 108 = some (.iload_n 2, 1, 0, 0, 0) := rfl
theorem f_Mo_plain_109 : fetch 75 109 = some (.invokevirtual 157, 3, 47, 1, 61) := rfl
theorem f_Mo_plain_112 : fetch 75 112 = some (.iadd, 1, 0, 0, 0) := rfl
theorem f_Mo_plain_113 : fetch 75 113 = some (.invokevirtual 305, 3, 77, 1, 85) := rfl
theorem f_Mo_plain_116 : fetch 75 116 = some (.goto 233, 3, 349, 0, 0) := rfl
theorem f_Mo_plain_119 : fetch 75 119 = some (.aload_n 0, 1, 0, 0, 0) := rfl
theorem f_Mo_plain_120 : fetch 75 120 = some (.invokevirtual 308, 3, 78, 0, 86) := rfl
theorem f_Mo_plain_123 : fetch 75 123 = some (.istore 4, 2, 0, 0, 0) := rfl
theorem f_Mo_plain_125 : fetch 75 125 = some (.aload_n 0, 1, 0, 0, 0) := rfl
theorem f_Mo_plain_126 : fetch 75 126 = some (.iconst 4, 1, 0, 0, 0) := rfl
theorem f_Mo_plain_127 : fetch 75 127 = some (.iload_n 1, 1, 0, 0, 0) := rfl
theorem f_Mo_plain_128 : fetch 75 128 = some (.imul, 1, 0, 0, 0) := rfl
theorem f_Mo_plain_129 : fetch 75 129 = some (.aload_n 0, 1, 0, 0, 0) := rfl
theorem f_Mo_plain_130 : fetch 75 130 = some (.iload_n 2, 1, 0, 0, 0) := rfl
theorem f_Mo_plain_131 : fetch 75 131 = some (.invokevirtual 157, 3, 47, 1, 61) := rfl
theorem f_Mo_plain_134 : fetch 75 134 = some (.iadd, 1, 0, 0, 0) := rfl
theorem f_Mo_plain_135 : fetch 75 135 = some (.iload 4, 2, 0, 0, 0) := rfl
theorem f_Mo_plain_137 : fetch 75 137 = some (.aload_n 0, 1, 0, 0, 0) := rfl
theorem f_Mo_plain_138 : fetch 75 138 = some (.getfield 284, 3, 8, 46, 73) := rfl
theorem f_Mo_plain_141 : fetch 75 141 = some (.invokevirtual 311, 3, 79, 3, 87) := rfl
theorem f_Mo_plain_144 : fetch 75 144 = some (.goto 205, 3, 349, 0, 0) := rfl
theorem f_Mo_plain_147 : fetch 75 147 = some (.aload_n 0, 1, 0, 0, 0) := rfl
theorem f_Mo_plain_148 : fetch 75 148 = some (.iconst 4, 1, 0, 0, 0) := rfl
theorem f_Mo_plain_149 : fetch 75 149 = some (.iload_n 1, 1, 0, 0, 0) := rfl
theorem f_Mo_plain_150 : fetch 75 150 = some (.imul, 1, 0, 0, 0) := rfl
theorem f_Mo_plain_151 : fetch 75 151 = some (.aload_n 0, 1, 0, 0, 0) := rfl
theorem f_Mo_plain_152 : fetch 75 152 = some (.iload_n 2, 1, 0, 0, 0) := rfl
theorem f_Mo_plain_153 : fetch 75 153 = some (.invokevirtual 157, 3, 47, 1, 61) := rfl
theorem f_Mo_plain_156 : fetch 75 156 = some (.iadd, 1, 0, 0, 0) := rfl
theorem f_Mo_plain_157 : fetch 75 157 = some (.iconst 0, 1, 0, 0, 0) := rfl
theorem f_Mo_plain_158 : fetch 75 158 = some (.invokevirtual 290, 3, 76, 2, 84) := rfl
theorem f_Mo_plain_161 : fetch 75 161 = some (.goto 188, 3, 349, 0, 0) := rfl
theorem f_Mo_plain_164 : fetch 75 164 = some (.aload_n 0, 1, 0, 0, 0) := rfl
theorem f_Mo_plain_165 : fetch 75 165 = some (.bipush 32, 2, 0, 0, 0) := rfl
theorem f_Mo_plain_167 : fetch 75 167 = some (.iconst 3, 1, 0, 0, 0) := rfl
theorem f_Mo_plain_168 : fetch 75 168 = some (.iload_n 1, 1, 0, 0, 0) := rfl
theorem f_Mo_plain_169 : fetch 75 169 = some (.imul, 1, 0, 0, 0) := rfl
theorem f_Mo_plain_170 : fetch 75 170 = some (.iadd, 1, 0, 0, 0) := rfl
theorem f_Mo_plain_171 : fetch 75 171 = some (.aload_n 0, 1, 0, 0, 0) := rfl
theorem f_Mo_plain_172 : fetch 75 172 = some (.iload_n 2, 1, 0, 0, 0) := rfl
theorem f_Mo_plain_173 : fetch 75 173 = some (.invokevirtual 157, 3, 47, 1, 61) := rfl
theorem f_Mo_plain_176 : fetch 75 176 = some (.iadd, 1, 0, 0, 0) := rfl
theorem f_Mo_plain_177 : fetch 75 177 = some (.invokevirtual 305, 3, 77, 1, 85) := rfl
theorem f_Mo_plain_180 : fetch 75 180 = some (.goto 169, 3, 349, 0, 0) := rfl
theorem f_Mo_plain_183 : fetch 75 183 = some (.aload_n 0, 1, 0, 0, 0) := rfl
theorem f_Mo_plain_184 : fetch 75 184 = some (.invokevirtual 308, 3, 78, 0, 86) := rfl
theorem f_Mo_plain_187 : fetch 75 187 = some (.istore 4, 2, 0, 0, 0) := rfl
theorem f_Mo_plain_189 : fetch 75 189 = some (.aload_n 0, 1, 0, 0, 0) := rfl
theorem f_Mo_plain_190 : fetch 75 190 = some (.bipush 32, 2, 0, 0, 0) := rfl
theorem f_Mo_plain_192 : fetch 75 192 = some (.iconst 3, 1, 0, 0, 0) := rfl
theorem f_Mo_plain_193 : fetch 75 193 = some (.iload_n 1, 1, 0, 0, 0) := rfl
theorem f_Mo_plain_194 : fetch 75 194 = some (.imul, 1, 0, 0, 0) := rfl
theorem f_Mo_plain_195 : fetch 75 195 = some (.iadd, 1, 0, 0, 0) := rfl
theorem f_Mo_plain_196 : fetch 75 196 = some (.aload_n 0, 1, 0, 0, 0) := rfl
theorem f_Mo_plain_197 : fetch 75 197 = some (.iload_n 2, 1, 0, 0, 0) := rfl
theorem f_Mo_plain_198 : fetch 75 198 = some (.invokevirtual 157, 3, 47, 1, 61) := rfl
theorem f_Mo_plain_201 : fetch 75 201 = some (.iadd, 1, 0, 0, 0) := rfl
theorem f_Mo_plain_202 : fetch 75 202 = some (.iload 4, 2, 0, 0, 0) := rfl
theorem f_Mo_plain_204 : fetch 75 204 = some (.aload_n 0, 1, 0, 0, 0) := rfl
theorem f_Mo_plain_205 : fetch 75 205 = some (.getfield 284, 3, 8, 46, 73) := rfl
theorem f_Mo_plain_208 : fetch 75 208 = some (.invokevirtual 311, 3, 79, 3, 87) := rfl
theorem f_Mo_plain_211 : fetch 75 211 = some (.goto 138, 3, 349, 0, 0) := rfl
theorem f_Mo_plain_214 : fetch 75 214 = some (.aload_n 0, 1, 0, 0, 0) := rfl
theorem f_Mo_plain_215 : fetch 75 215 = some (.invokevirtual 308, 3, 78, 0, 86) := rfl
theorem f_Mo_plain_218 : fetch 75 218 = some (.istore 4, 2, 0, 0, 0) := rfl
theorem f_Mo_plain_220 : fetch 75 220 = some (.aload_n 0, 1, 0, 0, 0) := rfl
theorem f_Mo_plain_221 : fetch 75 221 = some (.getfield 284, 3, 8, 46, 73) := rfl
theorem f_Mo_plain_224 : fetch 75 224 = some (.istore 5, 2, 0, 0, 0) := rfl
theorem f_Mo_plain_226 : fetch 75 226 = some (.aload_n 0, 1, 0, 0, 0) := rfl
theorem f_Mo_plain_227 : fetch 75 227 = some (.iload 4, 2, 0, 0, 0) := rfl
theorem f_Mo_plain_229 : fetch 75 229 = some (.iload 5, 2, 0, 0, 0) := rfl
theorem f_Mo_plain_231 : fetch 75 231 = some (.invokevirtual 290, 3, 76, 2, 84) := rfl
theorem f_Mo_plain_234 : fetch 75 234 = some (.aload_n 0, 1, 0, 0, 0) := rfl
theorem f_Mo_plain_235 : fetch 75 235 = some (.iload 4, 2, 0, 0, 0) := rfl
theorem f_Mo_plain_237 : fetch 75 237 = some (.iload 5, 2, 0, 0, 0) := rfl
theorem f_Mo_plain_239 : fetch 75 239 = some (.invokevirtual 290, 3, 76, 2, 84) := rfl
theorem f_Mo_plain_242 : fetch 75 242 = some (.goto 107, 3, 349, 0, 0) := rfl
theorem f_Mo_plain_245 : fetch 75 245 = some (.aload_n 0, 1, 0, 0, 0) := rfl
theorem f_Mo_plain_246 : fetch 75 246 = some (.invokevirtual 308, 3, 78, 0, 86) := rfl
theorem f_Mo_plain_249 : fetch 75 249 = some (.pop, 1, 0, 0, 0) := rfl
theorem f_Mo_plain_250 : fetch 75 250 = some (.goto 99, 3, 349, 0, 0) := rfl
theorem f_Mo_plain_253 : fetch 75 253 = some (.aload_n 0, 1, 0, 0, 0) := rfl
theorem f_Mo_plain_254 : fetch 75 254 = some (.getfield 72, 3, 8, 33, 47) := rfl
theorem f_Mo_plain_257 : fetch 75 257 = some (.iload_n 1, 1, 0, 0, 0) := rfl
theorem f_Mo_plain_258 : fetch 75 258 = some (.aload_n 0, 1, 0, 0, 0) := rfl
theorem f_Mo_plain_259 : fetch 75 259 = some (.iload_n 2, 1, 0, 0, 0) := rfl
theorem f_Mo_plain_260 : fetch 75 260 = some (.invokevirtual 217, 3, 60, 1, 57) := rfl
theorem f_Mo_plain_263 : fetch 75 263 = some (.iastore, 1, 0, 0, 0) := rfl
theorem f_Mo_plain_264 : fetch 75 264 = some (.goto 85, 3, 349, 0, 0) := rfl
theorem f_Mo_plain_267 : fetch 75 267 = some (.aload_n 0, 1, 0, 0, 0) := rfl
theorem f_Mo_plain_268 : fetch 75 268 = some (.getfield 72, 3, 8, 33, 47) := rfl
theorem f_Mo_plain_271 : fetch 75 271 = some (.iload_n 1, 1, 0, 0, 0) := rfl
theorem f_Mo_plain_272 : fetch 75 272 = some (.aload_n 0, 1, 0, 0, 0) := rfl
theorem f_Mo_plain_273 : fetch 75 273 = some (.invokevirtual 308, 3, 78, 0, 86) := rfl
theorem f_Mo_plain_276 : fetch 75 276 = some (.ifCond .eq 11, 3, 287, 0, 0) := rfl
theorem f_Mo_plain_279 : fetch 75 279 = some (.aload_n 0, 1, 0, 0, 0) := rfl
theorem f_Mo_plain_280 : fetch 75 280 = some (.iload_n 2, 1, 0, 0, 0) := rfl
theorem f_Mo_plain_281 : fetch 75 281 = some (.invokevirtual 217, 3, 60, 1, 57) := rfl
theorem f_Mo_plain_284 : fetch 75 284 = some (.goto 9, 3, 293, 0, 0) := rfl
theorem f_Mo_plain_287 : fetch 75 287 = some (.aload_n 0, 1, 0, 0, 0) := rfl
theorem f_Mo_plain_288 : fetch 75 288 = some (.getfield 72, 3, 8, 33, 47) := rfl
theorem f_Mo_plain_291 : fetch 75 291 = some (.iload_n 1, 1, 0, 0, 0) := rfl
theorem f_Mo_plain_292 : fetch 75 292 = some (.iaload, 1, 0, 0, 0) := rfl
theorem f_Mo_plain_293 : fetch 75 293 = some (.iastore, 1, 0, 0, 0) := rfl
theorem f_Mo_plain_294 : fetch 75 294 = some (.goto 55, 3, 349, 0, 0) := rfl
theorem f_Mo_plain_297 : fetch 75 297 = some (.aload_n 0, 1, 0, 0, 0) := rfl
theorem f_Mo_plain_298 : fetch 75 298 = some (.invokevirtual 308, 3, 78, 0, 86) := rfl
theorem f_Mo_plain_301 : fetch 75 301 = some (.istore 4, 2, 0, 0, 0) := rfl
theorem f_Mo_plain_303 : fetch 75 303 = some (.aload_n 0, 1, 0, 0, 0) := rfl
theorem f_Mo_plain_304 : fetch 75 304 = some (.getfield 72, 3, 8, 33, 47) := rfl
theorem f_Mo_plain_307 : fetch 75 307 = some (.iload_n 1, 1, 0, 0, 0) := rfl
theorem f_Mo_plain_308 : fetch 75 308 = some (.aload_n 0, 1, 0, 0, 0) := rfl
theorem f_Mo_plain_309 : fetch 75 309 = some (.invokevirtual 308, 3, 78, 0, 86) := rfl
theorem f_Mo_plain_312 : fetch 75 312 = some (.iload 4, 2, 0, 0, 0) := rfl
theorem f_Mo_plain_314 : fetch 75 314 = some (.if_icmp .ge 11, 3, 325, 0, 0) := rfl
theorem f_Mo_plain_317 : fetch 75 317 = some (.aload_n 0, 1, 0, 0, 0) := rfl
theorem f_Mo_plain_318 : fetch 75 318 = some (.iload_n 2, 1, 0, 0, 0) := rfl
theorem f_Mo_plain_319 : fetch 75 319 = some (.invokevirtual 217, 3, 60, 1, 57) := rfl
theorem f_Mo_plain_322 : fetch 75 322 = some (.goto 9, 3, 331, 0, 0) := rfl
theorem f_Mo_plain_325 : fetch 75 325 = some (.aload_n 0, 1, 0, 0, 0) := rfl
theorem f_Mo_plain_326 : fetch 75 326 = some (.getfield 72, 3, 8, 33, 47) := rfl
theorem f_Mo_plain_329 : fetch 75 329 = some (.iload_n 1, 1, 0, 0, 0) := rfl
theorem f_Mo_plain_330 : fetch 75 330 = some (.iaload, 1, 0, 0, 0) := rfl
theorem f_Mo_plain_331 : fetch 75 331 = some (.iastore, 1, 0, 0, 0) := rfl
theorem f_Mo_plain_332 : fetch 75 332 = some (.goto 17, 3, 349, 0, 0) := rfl
theorem f_Mo_plain_335 : fetch 75 335 = some (.aload_n 0, 1, 0, 0, 0) := rfl
theorem f_Mo_plain_336 : fetch 75 336 = some (.iconst (-1), 1, 0, 0, 0) := rfl
theorem f_Mo_plain_337 : fetch 75 337 = some (.iconst 0, 1, 0, 0, 0) := rfl
theorem f_Mo_plain_338 : fetch 75 338 = some (.invokevirtual 290, 3, 76, 2, 84) := rfl
theorem f_Mo_plain_341 : fetch 75 341 = some (.goto 8, 3, 349, 0, 0) := rfl
theorem f_Mo_plain_344 : fetch 75 344 = some (.aload_n 0, 1, 0, 0, 0) := rfl
theorem f_Mo_plain_345 : fetch 75 345 = some (.iload_n 3, 1, 0, 0, 0) := rfl
theorem f_Mo_plain_346 : fetch 75 346 = some (.invokevirtual 314, 3, 80, 1, 88) := rfl
theorem f_Mo_plain_349 : fetch 75 349 = some (.return_, 1, 0, 0, 0) := rfl
def F_Mo_plain_349   (σ : SG) : Option (SG) :=
  some σ
set_option maxHeartbeats 4000000 in
theorem w_Mo_plain_349 {b d : Nat} {sc : SC} {pre tl : List PE} {B : Nat} {Q : Option Value → List PE → Prop} {res : SG} (hB : B = b + pre.length) (hd : 2 ≤ d)   (hQ : Q none (HH pre tl SHm B res)) (lv : LV) (σ : SG)   (hF : F_Mo_plain_349   σ = some res) : Rn b sc d 75 349 lv [] (HH pre tl SHm B σ) Q := by
  obtain ⟨e0, rfl⟩ : ∃ e, d = e + 1 := ⟨d - 1, by omega⟩
  unfold F_Mo_plain_349 at hF
  cases hF
  exact r_return f_Mo_plain_349 hQ
def F_Mo_plain_344  (x0 : Nat) (x3 : Int32) (σ : SG) : Option (SG) :=
  match F_Mo_reckon (x0) (x3) σ with
  | none => none
  | some q1 =>
  F_Mo_plain_349 q1
set_option maxHeartbeats 4000000 in
theorem w_Mo_plain_344 {b d : Nat} {sc : SC} {pre tl : List PE} {B : Nat} {Q : Option Value → List PE → Prop} {res : SG} (hB : B = b + pre.length) (hd : 2 ≤ d)   (hQ : Q none (HH pre tl SHm B res)) (lv : LV) (σ : SG) (x0 : Nat) (x3 : Int32) (hx0 : isC SHm (x0) 8 = true) (l0 : lv.lookup 0 = some (.ref (B + (x0)))) (l3 : lv.lookup 3 = some (.int (x3))) (hF : F_Mo_plain_344  x0 x3 σ = some res) : Rn b sc d 75 344 lv [] (HH pre tl SHm B σ) Q := by
  obtain ⟨e0, rfl⟩ : ∃ e, d = e + 1 := ⟨d - 1, by omega⟩
  unfold F_Mo_plain_344 at hF
  refine r_aload_n f_Mo_plain_344 l0 ?_
  refine r_iload_n f_Mo_plain_345 l3 ?_
  cases hq1 : F_Mo_reckon (x0) (x3) σ with
  | none => simp only [hq1] at hF; cases hF
  | some q1 =>
    simp only [hq1] at hF
    refine t_V1v hB hx0 rfl rfl f_Mo_plain_346 (by decide) (Nat.le_of_ble_eq_true rfl) (Nat.le_of_ble_eq_true rfl) (w_Mo_reckon hB (by omega) (x0) (x3) hx0 hq1 ⟨rfl, ?_⟩)
    exact w_Mo_plain_349 hB hd  hQ _ (q1) hF
def F_Mo_plain_331  (y0 : Nat) (y1 : Int32) (y2 : Int32) (σ : SG) : Option (SG) :=
  if y1 < 0 ∨ 8 ≤ (y1).toNatClampNeg then none else
  stl (setA σ (y0) ((y1).toNatClampNeg) (y2)) fun s3 =>
  F_Mo_plain_349 s3
set_option maxHeartbeats 4000000 in
theorem w_Mo_plain_331 {b d : Nat} {sc : SC} {pre tl : List PE} {B : Nat} {Q : Option Value → List PE → Prop} {res : SG} (hB : B = b + pre.length) (hd : 2 ≤ d)   (hQ : Q none (HH pre tl SHm B res)) (lv : LV) (σ : SG) (y0 : Nat) (y1 : Int32) (y2 : Int32) (hy0 : isA SHm (y0) 0 8 = true) (hF : F_Mo_plain_331  y0 y1 y2 σ = some res) : Rn b sc d 75 331 lv [.int (y2), .int (y1), .ref (B + (y0))] (HH pre tl SHm B σ) Q := by
  obtain ⟨e0, rfl⟩ : ∃ e, d = e + 1 := ⟨d - 1, by omega⟩
  unfold F_Mo_plain_331 at hF
  by_cases c2 : y1 < 0 ∨ 8 ≤ (y1).toNatClampNeg
  · rw [if_pos c2] at hF; cases hF
  rw [if_neg c2] at hF
  refine t_iast hB hy0 f_Mo_plain_331 c2 ?_
  generalize hs3 : setA σ (y0) ((y1).toNatClampNeg) (y2) = s3 at hF ⊢
  rw [stl_eq] at hF
  refine r_goto f_Mo_plain_332 ?_
  exact w_Mo_plain_349 hB hd  hQ _ (s3) hF
def F_Mo_plain_293  (y0 : Nat) (y1 : Int32) (y2 : Int32) (σ : SG) : Option (SG) :=
  if y1 < 0 ∨ 8 ≤ (y1).toNatClampNeg then none else
  stl (setA σ (y0) ((y1).toNatClampNeg) (y2)) fun s5 =>
  F_Mo_plain_349 s5
set_option maxHeartbeats 4000000 in
theorem w_Mo_plain_293 {b d : Nat} {sc : SC} {pre tl : List PE} {B : Nat} {Q : Option Value → List PE → Prop} {res : SG} (hB : B = b + pre.length) (hd : 2 ≤ d)   (hQ : Q none (HH pre tl SHm B res)) (lv : LV) (σ : SG) (y0 : Nat) (y1 : Int32) (y2 : Int32) (hy0 : isA SHm (y0) 0 8 = true) (hF : F_Mo_plain_293  y0 y1 y2 σ = some res) : Rn b sc d 75 293 lv [.int (y2), .int (y1), .ref (B + (y0))] (HH pre tl SHm B σ) Q := by
  obtain ⟨e0, rfl⟩ : ∃ e, d = e + 1 := ⟨d - 1, by omega⟩
  unfold F_Mo_plain_293 at hF
  by_cases c4 : y1 < 0 ∨ 8 ≤ (y1).toNatClampNeg
  · rw [if_pos c4] at hF; cases hF
  rw [if_neg c4] at hF
  refine t_iast hB hy0 f_Mo_plain_293 c4 ?_
  generalize hs5 : setA σ (y0) ((y1).toNatClampNeg) (y2) = s5 at hF ⊢
  rw [stl_eq] at hF
  refine r_goto f_Mo_plain_294 ?_
  exact w_Mo_plain_349 hB hd  hQ _ (s5) hF
def F_Mo_plain (a0 : Nat) (a1 : Int32) (a2 : Int32) (a3 : Int32) (σ : SG) : Option (SG) :=
  if a3 = 0 then
  F_Mo_plain_349 σ
  else if a3 = 1 then
  match F_Mo_operand (a0) (a2) σ with
  | none => none
  | some q8 =>
  match F_Mo_signed (q8.1) q8.2 with
  | none => none
  | some q9 =>
  match F_Mo_put (a0) (q9.1) ((0 : Int32)) q9.2 with
  | none => none
  | some q10 =>
  F_Mo_plain_349 q10
  else if a3 = 2 then
  match F_Mo_operand (a0) (a2) σ with
  | none => none
  | some q12 =>
  match F_Mo_putCell (a0) ((((4 : Int32) * a1) + q12.1)) q12.2 with
  | none => none
  | some q13 =>
  F_Mo_plain_349 q13
  else if a3 = 3 then
  match F_Mo_get (a0) σ with
  | none => none
  | some q15 =>
  match F_Mo_operand (a0) (a2) q15.2 with
  | none => none
  | some q16 =>
  match F_Mo_setCell (a0) ((((4 : Int32) * a1) + q16.1)) (q15.1) ((q16.2.1 (a0) 46)) q16.2 with
  | none => none
  | some q17 =>
  F_Mo_plain_349 q17
  else if a3 = 4 then
  match F_Mo_operand (a0) (a2) σ with
  | none => none
  | some q19 =>
  match F_Mo_put (a0) ((((4 : Int32) * a1) + q19.1)) ((0 : Int32)) q19.2 with
  | none => none
  | some q20 =>
  F_Mo_plain_349 q20
  else if a3 = 5 then
  match F_Mo_operand (a0) (a2) σ with
  | none => none
  | some q22 =>
  match F_Mo_putCell (a0) ((((32 : Int32) + ((3 : Int32) * a1)) + q22.1)) q22.2 with
  | none => none
  | some q23 =>
  F_Mo_plain_349 q23
  else if a3 = 6 then
  match F_Mo_get (a0) σ with
  | none => none
  | some q25 =>
  match F_Mo_operand (a0) (a2) q25.2 with
  | none => none
  | some q26 =>
  match F_Mo_setCell (a0) ((((32 : Int32) + ((3 : Int32) * a1)) + q26.1)) (q25.1) ((q26.2.1 (a0) 46)) q26.2 with
  | none => none
  | some q27 =>
  F_Mo_plain_349 q27
  else if a3 = 7 then
  F_Mo_plain_344 (a0) (a3) σ
  else if a3 = 8 then
  F_Mo_plain_344 (a0) (a3) σ
  else if a3 = 9 then
  F_Mo_plain_344 (a0) (a3) σ
  else if a3 = 10 then
  F_Mo_plain_344 (a0) (a3) σ
  else if a3 = 11 then
  match F_Mo_get (a0) σ with
  | none => none
  | some q33 =>
  match F_Mo_put (a0) (q33.1) ((q33.2.1 (a0) 46)) q33.2 with
  | none => none
  | some q34 =>
  match F_Mo_put (a0) (q33.1) ((q33.2.1 (a0) 46)) q34 with
  | none => none
  | some q35 =>
  F_Mo_plain_349 q35
  else if a3 = 12 then
  match F_Mo_get (a0) σ with
  | none => none
  | some q37 =>
  F_Mo_plain_349 q37.2
  else if a3 = 13 then
  match F_Mo_target (a0) (a2) σ with
  | none => none
  | some q39 =>
  if a1 < 0 ∨ 8 ≤ (a1).toNatClampNeg then none else
  stl (setA q39.2 ((cref SHm (a0) 33)) ((a1).toNatClampNeg) (q39.1)) fun s41 =>
  F_Mo_plain_349 s41
  else if a3 = 14 then
  match F_Mo_get (a0) σ with
  | none => none
  | some q43 =>
  if q43.1 = 0 then
  if a1 < 0 ∨ 8 ≤ (a1).toNatClampNeg then none else
  F_Mo_plain_293 ((cref SHm (a0) 33)) (a1) ((q43.2.2.2.2.1 ((cref SHm (a0) 33)) ((a1).toNatClampNeg))) q43.2
  else match F_Mo_target (a0) (a2) q43.2 with
  | none => none
  | some q46 =>
  F_Mo_plain_293 ((cref SHm (a0) 33)) (a1) (q46.1) q46.2
  else if a3 = 15 then
  match F_Mo_get (a0) σ with
  | none => none
  | some q48 =>
  match F_Mo_get (a0) q48.2 with
  | none => none
  | some q49 =>
  if q48.1 ≤ q49.1 then
  if a1 < 0 ∨ 8 ≤ (a1).toNatClampNeg then none else
  F_Mo_plain_331 ((cref SHm (a0) 33)) (a1) ((q49.2.2.2.2.1 ((cref SHm (a0) 33)) ((a1).toNatClampNeg))) q49.2
  else match F_Mo_target (a0) (a2) q49.2 with
  | none => none
  | some q52 =>
  F_Mo_plain_331 ((cref SHm (a0) 33)) (a1) (q52.1) q52.2
  else if a3 = 16 then
  match F_Mo_put (a0) (((-1) : Int32)) ((0 : Int32)) σ with
  | none => none
  | some q54 =>
  F_Mo_plain_349 q54
  else F_Mo_plain_344 (a0) (a3) σ
set_option maxHeartbeats 4000000 in
theorem w_Mo_plain {b d : Nat} {pre tl : List PE} {B : Nat} {Q : Option Value → List PE → Prop} {res : SG} (hB : B = b + pre.length) (hd : 2 ≤ d)  {σ : SG} (a0 : Nat) (a1 : Int32) (a2 : Int32) (a3 : Int32) (ha0 : isC SHm (a0) 8 = true) (hF : F_Mo_plain a0 a1 a2 a3 σ = some res) (hQ : Q none (HH pre tl SHm B res)) : Cl b d 75 [.ref (B + (a0)), .int (a1), .int (a2), .int (a3)] (HH pre tl SHm B σ) Q := by
  obtain ⟨e0, rfl⟩ : ∃ e, d = e + 1 := ⟨d - 1, by omega⟩
  unfold Cl
  unfold F_Mo_plain at hF
  refine r_iload_n f_Mo_plain_0 rfl ?_
  by_cases c6 : a3 = 0
  · rw [if_pos c6] at hF
    refine r_tswI (t := 84) (off := 83) 0 f_Mo_plain_1 (by rw [c6]; decide) (by rw [c6]; decide) (by rfl) (by decide) ?_
    refine r_goto f_Mo_plain_84 ?_
    exact w_Mo_plain_349 hB hd  hQ _ (σ) hF
  rw [if_neg c6] at hF
  by_cases c7 : a3 = 1
  · rw [if_pos c7] at hF
    refine r_tswI (t := 87) (off := 86) 1 f_Mo_plain_1 (by rw [c7]; decide) (by rw [c7]; decide) (by rfl) (by decide) ?_
    refine r_aload_n f_Mo_plain_87 rfl ?_
    refine r_aload_n f_Mo_plain_88 rfl ?_
    refine r_iload_n f_Mo_plain_89 rfl ?_
    cases hq8 : F_Mo_operand (a0) (a2) σ with
    | none => simp only [hq8] at hF; cases hF
    | some q8 =>
      simp only [hq8] at hF
      refine t_V1i hB ha0 rfl rfl f_Mo_plain_90 (by decide) (Nat.le_of_ble_eq_true rfl) (Nat.le_of_ble_eq_true rfl) (w_Mo_operand hB  (a0) (a2) ha0 hq8 ⟨_, rfl, ?_⟩)
      cases hq9 : F_Mo_signed (q8.1) q8.2 with
      | none => simp only [hq9] at hF; cases hF
      | some q9 =>
        simp only [hq9] at hF
        refine t_S1i f_Mo_plain_93 (by decide) (Nat.le_of_ble_eq_true rfl) (Nat.le_of_ble_eq_true rfl) (w_Mo_signed hB  (q8.1)  hq9 ⟨_, rfl, ?_⟩)
        refine r_iconst f_Mo_plain_96 (v := 0) (by decide) ?_
        cases hq10 : F_Mo_put (a0) (q9.1) ((0 : Int32)) q9.2 with
        | none => simp only [hq10] at hF; cases hF
        | some q10 =>
          simp only [hq10] at hF
          refine t_V2v hB ha0 rfl rfl f_Mo_plain_97 (by decide) (Nat.le_of_ble_eq_true rfl) (Nat.le_of_ble_eq_true rfl) (w_Mo_put hB  (a0) (q9.1) ((0 : Int32)) ha0 hq10 ⟨rfl, ?_⟩)
          refine r_goto f_Mo_plain_100 ?_
          exact w_Mo_plain_349 hB hd  hQ _ (q10) hF
  rw [if_neg c7] at hF
  by_cases c11 : a3 = 2
  · rw [if_pos c11] at hF
    refine r_tswI (t := 103) (off := 102) 2 f_Mo_plain_1 (by rw [c11]; decide) (by rw [c11]; decide) (by rfl) (by decide) ?_
    refine r_aload_n f_Mo_plain_103 rfl ?_
    refine r_iconst f_Mo_plain_104 (v := 4) (by decide) ?_
    refine r_iload_n f_Mo_plain_105 rfl ?_
    refine r_imul f_Mo_plain_106 ?_
    refine r_aload_n f_Mo_plain_107 rfl ?_
    refine r_iload_n f_Mo_plain_108 rfl ?_
    cases hq12 : F_Mo_operand (a0) (a2) σ with
    | none => simp only [hq12] at hF; cases hF
    | some q12 =>
      simp only [hq12] at hF
      refine t_V1i hB ha0 rfl rfl f_Mo_plain_109 (by decide) (Nat.le_of_ble_eq_true rfl) (Nat.le_of_ble_eq_true rfl) (w_Mo_operand hB  (a0) (a2) ha0 hq12 ⟨_, rfl, ?_⟩)
      refine r_iadd f_Mo_plain_112 ?_
      cases hq13 : F_Mo_putCell (a0) ((((4 : Int32) * a1) + q12.1)) q12.2 with
      | none => simp only [hq13] at hF; cases hF
      | some q13 =>
        simp only [hq13] at hF
        refine t_V1v hB ha0 rfl rfl f_Mo_plain_113 (by decide) (Nat.le_of_ble_eq_true rfl) (Nat.le_of_ble_eq_true rfl) (w_Mo_putCell hB (by omega) (a0) ((((4 : Int32) * a1) + q12.1)) ha0 hq13 ⟨rfl, ?_⟩)
        refine r_goto f_Mo_plain_116 ?_
        exact w_Mo_plain_349 hB hd  hQ _ (q13) hF
  rw [if_neg c11] at hF
  by_cases c14 : a3 = 3
  · rw [if_pos c14] at hF
    refine r_tswI (t := 119) (off := 118) 3 f_Mo_plain_1 (by rw [c14]; decide) (by rw [c14]; decide) (by rfl) (by decide) ?_
    refine r_aload_n f_Mo_plain_119 rfl ?_
    cases hq15 : F_Mo_get (a0) σ with
    | none => simp only [hq15] at hF; cases hF
    | some q15 =>
      simp only [hq15] at hF
      refine t_V0i hB ha0 rfl rfl f_Mo_plain_120 (by decide) (Nat.le_of_ble_eq_true rfl) (Nat.le_of_ble_eq_true rfl) (w_Mo_get hB  (a0) ha0 hq15 ⟨_, rfl, ?_⟩)
      refine r_istore f_Mo_plain_123 ?_
      refine r_aload_n f_Mo_plain_125 (lk_put_ne rfl (by decide) (Or.inl rfl)) ?_
      refine r_iconst f_Mo_plain_126 (v := 4) (by decide) ?_
      refine r_iload_n f_Mo_plain_127 (lk_put_ne rfl (by decide) (Or.inl rfl)) ?_
      refine r_imul f_Mo_plain_128 ?_
      refine r_aload_n f_Mo_plain_129 (lk_put_ne rfl (by decide) (Or.inl rfl)) ?_
      refine r_iload_n f_Mo_plain_130 (lk_put_ne rfl (by decide) (Or.inl rfl)) ?_
      cases hq16 : F_Mo_operand (a0) (a2) q15.2 with
      | none => simp only [hq16] at hF; cases hF
      | some q16 =>
        simp only [hq16] at hF
        refine t_V1i hB ha0 rfl rfl f_Mo_plain_131 (by decide) (Nat.le_of_ble_eq_true rfl) (Nat.le_of_ble_eq_true rfl) (w_Mo_operand hB  (a0) (a2) ha0 hq16 ⟨_, rfl, ?_⟩)
        refine r_iadd f_Mo_plain_134 ?_
        refine r_iload f_Mo_plain_135 lk_put ?_
        refine r_aload_n f_Mo_plain_137 (lk_put_ne rfl (by decide) (Or.inl rfl)) ?_
        refine t_geti hB ha0 f_Mo_plain_138 rfl ?_
        cases hq17 : F_Mo_setCell (a0) ((((4 : Int32) * a1) + q16.1)) (q15.1) ((q16.2.1 (a0) 46)) q16.2 with
        | none => simp only [hq17] at hF; cases hF
        | some q17 =>
          simp only [hq17] at hF
          refine t_V3v hB ha0 rfl rfl f_Mo_plain_141 (by decide) (Nat.le_of_ble_eq_true rfl) (Nat.le_of_ble_eq_true rfl) (w_Mo_setCell hB  (a0) ((((4 : Int32) * a1) + q16.1)) (q15.1) ((q16.2.1 (a0) 46)) ha0 hq17 ⟨rfl, ?_⟩)
          refine r_goto f_Mo_plain_144 ?_
          exact w_Mo_plain_349 hB hd  hQ _ (q17) hF
  rw [if_neg c14] at hF
  by_cases c18 : a3 = 4
  · rw [if_pos c18] at hF
    refine r_tswI (t := 147) (off := 146) 4 f_Mo_plain_1 (by rw [c18]; decide) (by rw [c18]; decide) (by rfl) (by decide) ?_
    refine r_aload_n f_Mo_plain_147 rfl ?_
    refine r_iconst f_Mo_plain_148 (v := 4) (by decide) ?_
    refine r_iload_n f_Mo_plain_149 rfl ?_
    refine r_imul f_Mo_plain_150 ?_
    refine r_aload_n f_Mo_plain_151 rfl ?_
    refine r_iload_n f_Mo_plain_152 rfl ?_
    cases hq19 : F_Mo_operand (a0) (a2) σ with
    | none => simp only [hq19] at hF; cases hF
    | some q19 =>
      simp only [hq19] at hF
      refine t_V1i hB ha0 rfl rfl f_Mo_plain_153 (by decide) (Nat.le_of_ble_eq_true rfl) (Nat.le_of_ble_eq_true rfl) (w_Mo_operand hB  (a0) (a2) ha0 hq19 ⟨_, rfl, ?_⟩)
      refine r_iadd f_Mo_plain_156 ?_
      refine r_iconst f_Mo_plain_157 (v := 0) (by decide) ?_
      cases hq20 : F_Mo_put (a0) ((((4 : Int32) * a1) + q19.1)) ((0 : Int32)) q19.2 with
      | none => simp only [hq20] at hF; cases hF
      | some q20 =>
        simp only [hq20] at hF
        refine t_V2v hB ha0 rfl rfl f_Mo_plain_158 (by decide) (Nat.le_of_ble_eq_true rfl) (Nat.le_of_ble_eq_true rfl) (w_Mo_put hB  (a0) ((((4 : Int32) * a1) + q19.1)) ((0 : Int32)) ha0 hq20 ⟨rfl, ?_⟩)
        refine r_goto f_Mo_plain_161 ?_
        exact w_Mo_plain_349 hB hd  hQ _ (q20) hF
  rw [if_neg c18] at hF
  by_cases c21 : a3 = 5
  · rw [if_pos c21] at hF
    refine r_tswI (t := 164) (off := 163) 5 f_Mo_plain_1 (by rw [c21]; decide) (by rw [c21]; decide) (by rfl) (by decide) ?_
    refine r_aload_n f_Mo_plain_164 rfl ?_
    refine r_bipush f_Mo_plain_165 (v := 32) (by decide) ?_
    refine r_iconst f_Mo_plain_167 (v := 3) (by decide) ?_
    refine r_iload_n f_Mo_plain_168 rfl ?_
    refine r_imul f_Mo_plain_169 ?_
    refine r_iadd f_Mo_plain_170 ?_
    refine r_aload_n f_Mo_plain_171 rfl ?_
    refine r_iload_n f_Mo_plain_172 rfl ?_
    cases hq22 : F_Mo_operand (a0) (a2) σ with
    | none => simp only [hq22] at hF; cases hF
    | some q22 =>
      simp only [hq22] at hF
      refine t_V1i hB ha0 rfl rfl f_Mo_plain_173 (by decide) (Nat.le_of_ble_eq_true rfl) (Nat.le_of_ble_eq_true rfl) (w_Mo_operand hB  (a0) (a2) ha0 hq22 ⟨_, rfl, ?_⟩)
      refine r_iadd f_Mo_plain_176 ?_
      cases hq23 : F_Mo_putCell (a0) ((((32 : Int32) + ((3 : Int32) * a1)) + q22.1)) q22.2 with
      | none => simp only [hq23] at hF; cases hF
      | some q23 =>
        simp only [hq23] at hF
        refine t_V1v hB ha0 rfl rfl f_Mo_plain_177 (by decide) (Nat.le_of_ble_eq_true rfl) (Nat.le_of_ble_eq_true rfl) (w_Mo_putCell hB (by omega) (a0) ((((32 : Int32) + ((3 : Int32) * a1)) + q22.1)) ha0 hq23 ⟨rfl, ?_⟩)
        refine r_goto f_Mo_plain_180 ?_
        exact w_Mo_plain_349 hB hd  hQ _ (q23) hF
  rw [if_neg c21] at hF
  by_cases c24 : a3 = 6
  · rw [if_pos c24] at hF
    refine r_tswI (t := 183) (off := 182) 6 f_Mo_plain_1 (by rw [c24]; decide) (by rw [c24]; decide) (by rfl) (by decide) ?_
    refine r_aload_n f_Mo_plain_183 rfl ?_
    cases hq25 : F_Mo_get (a0) σ with
    | none => simp only [hq25] at hF; cases hF
    | some q25 =>
      simp only [hq25] at hF
      refine t_V0i hB ha0 rfl rfl f_Mo_plain_184 (by decide) (Nat.le_of_ble_eq_true rfl) (Nat.le_of_ble_eq_true rfl) (w_Mo_get hB  (a0) ha0 hq25 ⟨_, rfl, ?_⟩)
      refine r_istore f_Mo_plain_187 ?_
      refine r_aload_n f_Mo_plain_189 (lk_put_ne rfl (by decide) (Or.inl rfl)) ?_
      refine r_bipush f_Mo_plain_190 (v := 32) (by decide) ?_
      refine r_iconst f_Mo_plain_192 (v := 3) (by decide) ?_
      refine r_iload_n f_Mo_plain_193 (lk_put_ne rfl (by decide) (Or.inl rfl)) ?_
      refine r_imul f_Mo_plain_194 ?_
      refine r_iadd f_Mo_plain_195 ?_
      refine r_aload_n f_Mo_plain_196 (lk_put_ne rfl (by decide) (Or.inl rfl)) ?_
      refine r_iload_n f_Mo_plain_197 (lk_put_ne rfl (by decide) (Or.inl rfl)) ?_
      cases hq26 : F_Mo_operand (a0) (a2) q25.2 with
      | none => simp only [hq26] at hF; cases hF
      | some q26 =>
        simp only [hq26] at hF
        refine t_V1i hB ha0 rfl rfl f_Mo_plain_198 (by decide) (Nat.le_of_ble_eq_true rfl) (Nat.le_of_ble_eq_true rfl) (w_Mo_operand hB  (a0) (a2) ha0 hq26 ⟨_, rfl, ?_⟩)
        refine r_iadd f_Mo_plain_201 ?_
        refine r_iload f_Mo_plain_202 lk_put ?_
        refine r_aload_n f_Mo_plain_204 (lk_put_ne rfl (by decide) (Or.inl rfl)) ?_
        refine t_geti hB ha0 f_Mo_plain_205 rfl ?_
        cases hq27 : F_Mo_setCell (a0) ((((32 : Int32) + ((3 : Int32) * a1)) + q26.1)) (q25.1) ((q26.2.1 (a0) 46)) q26.2 with
        | none => simp only [hq27] at hF; cases hF
        | some q27 =>
          simp only [hq27] at hF
          refine t_V3v hB ha0 rfl rfl f_Mo_plain_208 (by decide) (Nat.le_of_ble_eq_true rfl) (Nat.le_of_ble_eq_true rfl) (w_Mo_setCell hB  (a0) ((((32 : Int32) + ((3 : Int32) * a1)) + q26.1)) (q25.1) ((q26.2.1 (a0) 46)) ha0 hq27 ⟨rfl, ?_⟩)
          refine r_goto f_Mo_plain_211 ?_
          exact w_Mo_plain_349 hB hd  hQ _ (q27) hF
  rw [if_neg c24] at hF
  by_cases c28 : a3 = 7
  · rw [if_pos c28] at hF
    refine r_tswI (t := 344) (off := 343) 7 f_Mo_plain_1 (by rw [c28]; decide) (by rw [c28]; decide) (by rfl) (by decide) ?_
    exact w_Mo_plain_344 hB hd  hQ _ (σ) (a0) (a3) ha0 rfl rfl hF
  rw [if_neg c28] at hF
  by_cases c29 : a3 = 8
  · rw [if_pos c29] at hF
    refine r_tswI (t := 344) (off := 343) 8 f_Mo_plain_1 (by rw [c29]; decide) (by rw [c29]; decide) (by rfl) (by decide) ?_
    exact w_Mo_plain_344 hB hd  hQ _ (σ) (a0) (a3) ha0 rfl rfl hF
  rw [if_neg c29] at hF
  by_cases c30 : a3 = 9
  · rw [if_pos c30] at hF
    refine r_tswI (t := 344) (off := 343) 9 f_Mo_plain_1 (by rw [c30]; decide) (by rw [c30]; decide) (by rfl) (by decide) ?_
    exact w_Mo_plain_344 hB hd  hQ _ (σ) (a0) (a3) ha0 rfl rfl hF
  rw [if_neg c30] at hF
  by_cases c31 : a3 = 10
  · rw [if_pos c31] at hF
    refine r_tswI (t := 344) (off := 343) 10 f_Mo_plain_1 (by rw [c31]; decide) (by rw [c31]; decide) (by rfl) (by decide) ?_
    exact w_Mo_plain_344 hB hd  hQ _ (σ) (a0) (a3) ha0 rfl rfl hF
  rw [if_neg c31] at hF
  by_cases c32 : a3 = 11
  · rw [if_pos c32] at hF
    refine r_tswI (t := 214) (off := 213) 11 f_Mo_plain_1 (by rw [c32]; decide) (by rw [c32]; decide) (by rfl) (by decide) ?_
    refine r_aload_n f_Mo_plain_214 rfl ?_
    cases hq33 : F_Mo_get (a0) σ with
    | none => simp only [hq33] at hF; cases hF
    | some q33 =>
      simp only [hq33] at hF
      refine t_V0i hB ha0 rfl rfl f_Mo_plain_215 (by decide) (Nat.le_of_ble_eq_true rfl) (Nat.le_of_ble_eq_true rfl) (w_Mo_get hB  (a0) ha0 hq33 ⟨_, rfl, ?_⟩)
      refine r_istore f_Mo_plain_218 ?_
      refine r_aload_n f_Mo_plain_220 (lk_put_ne rfl (by decide) (Or.inl rfl)) ?_
      refine t_geti hB ha0 f_Mo_plain_221 rfl ?_
      refine r_istore f_Mo_plain_224 ?_
      refine r_aload_n f_Mo_plain_226 (lk_put_ne (lk_put_ne rfl (by decide) (Or.inl rfl)) (by decide) (Or.inl rfl)) ?_
      refine r_iload f_Mo_plain_227 (lk_put_ne lk_put (by decide) (Or.inl rfl)) ?_
      refine r_iload f_Mo_plain_229 lk_put ?_
      cases hq34 : F_Mo_put (a0) (q33.1) ((q33.2.1 (a0) 46)) q33.2 with
      | none => simp only [hq34] at hF; cases hF
      | some q34 =>
        simp only [hq34] at hF
        refine t_V2v hB ha0 rfl rfl f_Mo_plain_231 (by decide) (Nat.le_of_ble_eq_true rfl) (Nat.le_of_ble_eq_true rfl) (w_Mo_put hB  (a0) (q33.1) ((q33.2.1 (a0) 46)) ha0 hq34 ⟨rfl, ?_⟩)
        refine r_aload_n f_Mo_plain_234 (lk_put_ne (lk_put_ne rfl (by decide) (Or.inl rfl)) (by decide) (Or.inl rfl)) ?_
        refine r_iload f_Mo_plain_235 (lk_put_ne lk_put (by decide) (Or.inl rfl)) ?_
        refine r_iload f_Mo_plain_237 lk_put ?_
        cases hq35 : F_Mo_put (a0) (q33.1) ((q33.2.1 (a0) 46)) q34 with
        | none => simp only [hq35] at hF; cases hF
        | some q35 =>
          simp only [hq35] at hF
          refine t_V2v hB ha0 rfl rfl f_Mo_plain_239 (by decide) (Nat.le_of_ble_eq_true rfl) (Nat.le_of_ble_eq_true rfl) (w_Mo_put hB  (a0) (q33.1) ((q33.2.1 (a0) 46)) ha0 hq35 ⟨rfl, ?_⟩)
          refine r_goto f_Mo_plain_242 ?_
          exact w_Mo_plain_349 hB hd  hQ _ (q35) hF
  rw [if_neg c32] at hF
  by_cases c36 : a3 = 12
  · rw [if_pos c36] at hF
    refine r_tswI (t := 245) (off := 244) 12 f_Mo_plain_1 (by rw [c36]; decide) (by rw [c36]; decide) (by rfl) (by decide) ?_
    refine r_aload_n f_Mo_plain_245 rfl ?_
    cases hq37 : F_Mo_get (a0) σ with
    | none => simp only [hq37] at hF; cases hF
    | some q37 =>
      simp only [hq37] at hF
      refine t_V0i hB ha0 rfl rfl f_Mo_plain_246 (by decide) (Nat.le_of_ble_eq_true rfl) (Nat.le_of_ble_eq_true rfl) (w_Mo_get hB  (a0) ha0 hq37 ⟨_, rfl, ?_⟩)
      refine r_pop f_Mo_plain_249 rfl ?_
      refine r_goto f_Mo_plain_250 ?_
      exact w_Mo_plain_349 hB hd  hQ _ (q37.2) hF
  rw [if_neg c36] at hF
  by_cases c38 : a3 = 13
  · rw [if_pos c38] at hF
    refine r_tswI (t := 253) (off := 252) 13 f_Mo_plain_1 (by rw [c38]; decide) (by rw [c38]; decide) (by rfl) (by decide) ?_
    refine r_aload_n f_Mo_plain_253 rfl ?_
    refine t_getc hB ha0 f_Mo_plain_254 rfl ?_
    refine r_iload_n f_Mo_plain_257 rfl ?_
    refine r_aload_n f_Mo_plain_258 rfl ?_
    refine r_iload_n f_Mo_plain_259 rfl ?_
    cases hq39 : F_Mo_target (a0) (a2) σ with
    | none => simp only [hq39] at hF; cases hF
    | some q39 =>
      simp only [hq39] at hF
      refine t_V1i hB ha0 rfl rfl f_Mo_plain_260 (by decide) (Nat.le_of_ble_eq_true rfl) (Nat.le_of_ble_eq_true rfl) (w_Mo_target hB (by omega) (a0) (a2) ha0 hq39 ⟨_, rfl, ?_⟩)
      by_cases c40 : a1 < 0 ∨ 8 ≤ (a1).toNatClampNeg
      · rw [if_pos c40] at hF; cases hF
      rw [if_neg c40] at hF
      refine t_iast hB (cc_8_33 ha0) f_Mo_plain_263 c40 ?_
      generalize hs41 : setA q39.2 ((cref SHm (a0) 33)) ((a1).toNatClampNeg) (q39.1) = s41 at hF ⊢
      rw [stl_eq] at hF
      refine r_goto f_Mo_plain_264 ?_
      exact w_Mo_plain_349 hB hd  hQ _ (s41) hF
  rw [if_neg c38] at hF
  by_cases c42 : a3 = 14
  · rw [if_pos c42] at hF
    refine r_tswI (t := 267) (off := 266) 14 f_Mo_plain_1 (by rw [c42]; decide) (by rw [c42]; decide) (by rfl) (by decide) ?_
    refine r_aload_n f_Mo_plain_267 rfl ?_
    refine t_getc hB ha0 f_Mo_plain_268 rfl ?_
    refine r_iload_n f_Mo_plain_271 rfl ?_
    refine r_aload_n f_Mo_plain_272 rfl ?_
    cases hq43 : F_Mo_get (a0) σ with
    | none => simp only [hq43] at hF; cases hF
    | some q43 =>
      simp only [hq43] at hF
      refine t_V0i hB ha0 rfl rfl f_Mo_plain_273 (by decide) (Nat.le_of_ble_eq_true rfl) (Nat.le_of_ble_eq_true rfl) (w_Mo_get hB  (a0) ha0 hq43 ⟨_, rfl, ?_⟩)
      refine r_if_eq f_Mo_plain_276 (fun c44 => ?_) (fun c44 => ?_)
      · rw [if_pos c44] at hF
        refine r_aload_n f_Mo_plain_287 rfl ?_
        refine t_getc hB ha0 f_Mo_plain_288 rfl ?_
        refine r_iload_n f_Mo_plain_291 rfl ?_
        by_cases c45 : a1 < 0 ∨ 8 ≤ (a1).toNatClampNeg
        · rw [if_pos c45] at hF; cases hF
        rw [if_neg c45] at hF
        refine t_iald hB (cc_8_33 ha0) f_Mo_plain_292 c45 ?_
        exact w_Mo_plain_293 hB hd  hQ _ (q43.2) ((cref SHm (a0) 33)) (a1) ((q43.2.2.2.2.1 ((cref SHm (a0) 33)) ((a1).toNatClampNeg))) (cc_8_33 ha0) hF
      · rw [if_neg c44] at hF
        refine r_aload_n f_Mo_plain_279 rfl ?_
        refine r_iload_n f_Mo_plain_280 rfl ?_
        cases hq46 : F_Mo_target (a0) (a2) q43.2 with
        | none => simp only [hq46] at hF; cases hF
        | some q46 =>
          simp only [hq46] at hF
          refine t_V1i hB ha0 rfl rfl f_Mo_plain_281 (by decide) (Nat.le_of_ble_eq_true rfl) (Nat.le_of_ble_eq_true rfl) (w_Mo_target hB (by omega) (a0) (a2) ha0 hq46 ⟨_, rfl, ?_⟩)
          refine r_goto f_Mo_plain_284 ?_
          exact w_Mo_plain_293 hB hd  hQ _ (q46.2) ((cref SHm (a0) 33)) (a1) (q46.1) (cc_8_33 ha0) hF
  rw [if_neg c42] at hF
  by_cases c47 : a3 = 15
  · rw [if_pos c47] at hF
    refine r_tswI (t := 297) (off := 296) 15 f_Mo_plain_1 (by rw [c47]; decide) (by rw [c47]; decide) (by rfl) (by decide) ?_
    refine r_aload_n f_Mo_plain_297 rfl ?_
    cases hq48 : F_Mo_get (a0) σ with
    | none => simp only [hq48] at hF; cases hF
    | some q48 =>
      simp only [hq48] at hF
      refine t_V0i hB ha0 rfl rfl f_Mo_plain_298 (by decide) (Nat.le_of_ble_eq_true rfl) (Nat.le_of_ble_eq_true rfl) (w_Mo_get hB  (a0) ha0 hq48 ⟨_, rfl, ?_⟩)
      refine r_istore f_Mo_plain_301 ?_
      refine r_aload_n f_Mo_plain_303 (lk_put_ne rfl (by decide) (Or.inl rfl)) ?_
      refine t_getc hB ha0 f_Mo_plain_304 rfl ?_
      refine r_iload_n f_Mo_plain_307 (lk_put_ne rfl (by decide) (Or.inl rfl)) ?_
      refine r_aload_n f_Mo_plain_308 (lk_put_ne rfl (by decide) (Or.inl rfl)) ?_
      cases hq49 : F_Mo_get (a0) q48.2 with
      | none => simp only [hq49] at hF; cases hF
      | some q49 =>
        simp only [hq49] at hF
        refine t_V0i hB ha0 rfl rfl f_Mo_plain_309 (by decide) (Nat.le_of_ble_eq_true rfl) (Nat.le_of_ble_eq_true rfl) (w_Mo_get hB  (a0) ha0 hq49 ⟨_, rfl, ?_⟩)
        refine r_iload f_Mo_plain_312 lk_put ?_
        refine r_icmp_ge f_Mo_plain_314 (fun c50 => ?_) (fun c50 => ?_)
        · rw [if_pos c50] at hF
          refine r_aload_n f_Mo_plain_325 (lk_put_ne rfl (by decide) (Or.inl rfl)) ?_
          refine t_getc hB ha0 f_Mo_plain_326 rfl ?_
          refine r_iload_n f_Mo_plain_329 (lk_put_ne rfl (by decide) (Or.inl rfl)) ?_
          by_cases c51 : a1 < 0 ∨ 8 ≤ (a1).toNatClampNeg
          · rw [if_pos c51] at hF; cases hF
          rw [if_neg c51] at hF
          refine t_iald hB (cc_8_33 ha0) f_Mo_plain_330 c51 ?_
          exact w_Mo_plain_331 hB hd  hQ _ (q49.2) ((cref SHm (a0) 33)) (a1) ((q49.2.2.2.2.1 ((cref SHm (a0) 33)) ((a1).toNatClampNeg))) (cc_8_33 ha0) hF
        · rw [if_neg c50] at hF
          refine r_aload_n f_Mo_plain_317 (lk_put_ne rfl (by decide) (Or.inl rfl)) ?_
          refine r_iload_n f_Mo_plain_318 (lk_put_ne rfl (by decide) (Or.inl rfl)) ?_
          cases hq52 : F_Mo_target (a0) (a2) q49.2 with
          | none => simp only [hq52] at hF; cases hF
          | some q52 =>
            simp only [hq52] at hF
            refine t_V1i hB ha0 rfl rfl f_Mo_plain_319 (by decide) (Nat.le_of_ble_eq_true rfl) (Nat.le_of_ble_eq_true rfl) (w_Mo_target hB (by omega) (a0) (a2) ha0 hq52 ⟨_, rfl, ?_⟩)
            refine r_goto f_Mo_plain_322 ?_
            exact w_Mo_plain_331 hB hd  hQ _ (q52.2) ((cref SHm (a0) 33)) (a1) (q52.1) (cc_8_33 ha0) hF
  rw [if_neg c47] at hF
  by_cases c53 : a3 = 16
  · rw [if_pos c53] at hF
    refine r_tswI (t := 335) (off := 334) 16 f_Mo_plain_1 (by rw [c53]; decide) (by rw [c53]; decide) (by rfl) (by decide) ?_
    refine r_aload_n f_Mo_plain_335 rfl ?_
    refine r_iconst f_Mo_plain_336 (v := (-1)) (by decide) ?_
    refine r_iconst f_Mo_plain_337 (v := 0) (by decide) ?_
    cases hq54 : F_Mo_put (a0) (((-1) : Int32)) ((0 : Int32)) σ with
    | none => simp only [hq54] at hF; cases hF
    | some q54 =>
      simp only [hq54] at hF
      refine t_V2v hB ha0 rfl rfl f_Mo_plain_338 (by decide) (Nat.le_of_ble_eq_true rfl) (Nat.le_of_ble_eq_true rfl) (w_Mo_put hB  (a0) (((-1) : Int32)) ((0 : Int32)) ha0 hq54 ⟨rfl, ?_⟩)
      refine r_goto f_Mo_plain_341 ?_
      exact w_Mo_plain_349 hB hd  hQ _ (q54) hF
  rw [if_neg c53] at hF
  refine r_tswO f_Mo_plain_1 (by have zc6 := lv_neT c6 (by decide : (0 : Int32).toInt = 0); have zc7 := lv_neT c7 (by decide : (1 : Int32).toInt = 1); have zc11 := lv_neT c11 (by decide : (2 : Int32).toInt = 2); have zc14 := lv_neT c14 (by decide : (3 : Int32).toInt = 3); have zc18 := lv_neT c18 (by decide : (4 : Int32).toInt = 4); have zc21 := lv_neT c21 (by decide : (5 : Int32).toInt = 5); have zc24 := lv_neT c24 (by decide : (6 : Int32).toInt = 6); have zc28 := lv_neT c28 (by decide : (7 : Int32).toInt = 7); have zc29 := lv_neT c29 (by decide : (8 : Int32).toInt = 8); have zc30 := lv_neT c30 (by decide : (9 : Int32).toInt = 9); have zc31 := lv_neT c31 (by decide : (10 : Int32).toInt = 10); have zc32 := lv_neT c32 (by decide : (11 : Int32).toInt = 11); have zc36 := lv_neT c36 (by decide : (12 : Int32).toInt = 12); have zc38 := lv_neT c38 (by decide : (13 : Int32).toInt = 13); have zc42 := lv_neT c42 (by decide : (14 : Int32).toInt = 14); have zc47 := lv_neT c47 (by decide : (15 : Int32).toInt = 15); have zc53 := lv_neT c53 (by decide : (16 : Int32).toInt = 16); omega) ?_
  exact w_Mo_plain_344 hB hd  hQ _ (σ) (a0) (a3) ha0 rfl rfl hF
theorem f_Mo_make_0 : fetch 83 0 = some (.aload_n 0, 1, 0, 0, 0) := rfl
theorem f_Mo_make_1 : fetch 83 1 = some (.getfield 272, 3, 8, 30, 70) := rfl
theorem f_Mo_make_4 : fetch 83 4 = some (.bipush 40, 2, 0, 0, 0) := rfl
theorem f_Mo_make_6 : fetch 83 6 = some (.if_icmp .ne 10, 3, 16, 0, 0) := rfl
theorem f_Mo_make_9 : fetch 83 9 = some (.aload_n 0, 1, 0, 0, 0) := rfl
theorem f_Mo_make_10 : fetch 83 10 = some (.iconst 4, 1, 0, 0, 0) := rfl
theorem f_Mo_make_11 : fetch 83 11 = some (.putfield 287, 3, 8, 44, 72) := rfl
theorem f_Mo_make_14 : fetch 83 14 = some (.iconst (-1), 1, 0, 0, 0) := rfl
theorem f_Mo_make_15 : fetch 83 15 = some (.ireturn, 1, 0, 0, 0) := rfl
theorem f_Mo_make_16 : fetch 83 16 = some (.aload_n 0, 1, 0, 0, 0) := rfl
theorem f_Mo_make_17 : fetch 83 17 = some (.getfield 90, 3, 8, 39, 53) := rfl
theorem f_Mo_make_20 : fetch 83 20 = some (.aload_n 0, 1, 0, 0, 0) := rfl
theorem f_Mo_make_21 : fetch 83 21 = some (.getfield 272, 3, 8, 30, 70) := rfl
theorem f_Mo_make_24 : fetch 83 24 = some (.iload_n 1, 1, 0, 0, 0) := rfl
theorem f_Mo_make_25 : fetch 83 25 = some (.iastore, 1, 0, 0, 0) := rfl
theorem f_Mo_make_26 : fetch 83 26 = some (.iconst 0, 1, 0, 0, 0) := rfl
theorem f_Mo_make_27 : fetch 83 27 = some (.istore_n 2, 1, 0, 0, 0) := rfl
theorem f_Mo_make_28 : fetch 83 28 = some (.iload_n 2, 1, 0, 0, 0) := rfl
theorem f_Mo_make_29 : fetch 83 29 = some (.bipush 20, 2, 0, 0, 0) := rfl
theorem f_Mo_make_31 : fetch 83 31 = some (.if_icmp .ge 45, 3, 76, 0, 0) := rfl
theorem f_Mo_make_34 : fetch 83 34 = some (.aload_n 0, 1, 0, 0, 0) := rfl
theorem f_Mo_make_35 : fetch 83 35 = some (.getfield 84, 3, 8, 37, 51) := rfl
theorem f_Mo_make_38 : fetch 83 38 = some (.bipush 56, 2, 0, 0, 0) := rfl
theorem f_Mo_make_40 : fetch 83 40 = some (.bipush 20, 2, 0, 0, 0) := rfl
theorem f_Mo_make_42 : fetch 83 42 = some (.aload_n 0, 1, 0, 0, 0) := rfl
theorem f_Mo_make_43 : fetch 83 43 = some (.getfield 272, 3, 8, 30, 70) := rfl
theorem f_Mo_make_46 : fetch 83 46 = some (.imul, 1, 0, 0, 0) := rfl
theorem f_Mo_make_47 : fetch 83 47 = some (.iadd, 1, 0, 0, 0) := rfl
theorem f_Mo_make_48 : fetch 83 48 = some (.iload_n 2, 1, 0, 0, 0) := rfl
theorem f_Mo_make_49 : fetch 83 49 = some (.iadd, 1, 0, 0, 0) := rfl
theorem f_Mo_make_50 : fetch 83 50 = some (.iconst 0, 1, 0, 0, 0) := rfl
theorem f_Mo_make_51 : fetch 83 51 = some (.iastore, 1, 0, 0, 0) := rfl
theorem f_Mo_make_52 : fetch 83 52 = some (.aload_n 0, 1, 0, 0, 0) := rfl
theorem f_Mo_make_53 : fetch 83 53 = some (.getfield 87, 3, 8, 38, 52) := rfl
theorem f_Mo_make_56 : fetch 83 56 = some (.bipush 56, 2, 0, 0, 0) := rfl
theorem f_Mo_make_58 : fetch 83 58 = some (.bipush 20, 2, 0, 0, 0) := rfl
theorem f_Mo_make_60 : fetch 83 60 = some (.aload_n 0, 1, 0, 0, 0) := rfl
theorem f_Mo_make_61 : fetch 83 61 = some (.getfield 272, 3, 8, 30, 70) := rfl
theorem f_Mo_make_64 : fetch 83 64 = some (.imul, 1, 0, 0, 0) := rfl
theorem f_Mo_make_65 : fetch 83 65 = some (.iadd, 1, 0, 0, 0) := rfl
theorem f_Mo_make_66 : fetch 83 66 = some (.iload_n 2, 1, 0, 0, 0) := rfl
theorem f_Mo_make_67 : fetch 83 67 = some (.iadd, 1, 0, 0, 0) := rfl
theorem f_Mo_make_68 : fetch 83 68 = some (.iconst 0, 1, 0, 0, 0) := rfl
theorem f_Mo_make_69 : fetch 83 69 = some (.iastore, 1, 0, 0, 0) := rfl
theorem f_Mo_make_70 : fetch 83 70 = some (.iinc 2 1, 3, 0, 0, 0) := rfl
theorem f_Mo_make_73 : fetch 83 73 = some (.goto (-45), 3, 28, 0, 0) := rfl
theorem f_Mo_make_76 : fetch 83 76 = some (.aload_n 0, 1, 0, 0, 0) := rfl
theorem f_Mo_make_77 : fetch 83 77 = some (.dup, 1, 0, 0, 0) := rfl
theorem f_Mo_make_78 : fetch 83 78 = some (.getfield 272, 3, 8, 30, 70) := rfl
theorem f_Mo_make_81 : fetch 83 81 = some (.iconst 1, 1, 0, 0, 0) := rfl
theorem f_Mo_make_82 : fetch 83 82 = some (.iadd, 1, 0, 0, 0) := rfl
theorem f_Mo_make_83 : fetch 83 83 = some (.putfield 272, 3, 8, 30, 70) := rfl
theorem f_Mo_make_86 : fetch 83 86 = some (.aload_n 0, 1, 0, 0, 0) := rfl
theorem f_Mo_make_87 : fetch 83 87 = some (.getfield 272, 3, 8, 30, 70) := rfl
theorem f_Mo_make_90 : fetch 83 90 = some (.iconst 1, 1, 0, 0, 0) := rfl
theorem f_Mo_make_91 : fetch 83 91 = some (.isub, 1, 0, 0, 0) := rfl
theorem f_Mo_make_92 : fetch 83 92 = some (.ireturn, 1, 0, 0, 0) := rfl
def F_Mo_make_28  : Nat → Nat → Int32 → SG → Option (Int32 × SG)
  | 0, _, _, _ => none
  | n + 1, x0, x2, σ =>
  if (20 : Int32) ≤ x2 then
  stl (setI σ (x0) 30 (((σ.1 (x0) 30) + (1 : Int32)))) fun s2 =>
  some (((s2.1 (x0) 30) - (1 : Int32)), s2)
  else if (((56 : Int32) + ((20 : Int32) * (σ.1 (x0) 30))) + x2) < 0 ∨ 856 ≤ ((((56 : Int32) + ((20 : Int32) * (σ.1 (x0) 30))) + x2)).toNatClampNeg then none else
  stl (setA σ ((cref SHm (x0) 37)) (((((56 : Int32) + ((20 : Int32) * (σ.1 (x0) 30))) + x2)).toNatClampNeg) ((0 : Int32))) fun s4 =>
  if (((56 : Int32) + ((20 : Int32) * (s4.1 (x0) 30))) + x2) < 0 ∨ 856 ≤ ((((56 : Int32) + ((20 : Int32) * (s4.1 (x0) 30))) + x2)).toNatClampNeg then none else
  stl (setA s4 ((cref SHm (x0) 38)) (((((56 : Int32) + ((20 : Int32) * (s4.1 (x0) 30))) + x2)).toNatClampNeg) ((0 : Int32))) fun s6 =>
  F_Mo_make_28  n (x0) ((x2 + 1)) s6
set_option maxHeartbeats 4000000 in
theorem w_Mo_make_28 {b d : Nat} {sc : SC} {pre tl : List PE} {B : Nat} {Q : Option Value → List PE → Prop} {res : Int32 × SG} (hB : B = b + pre.length)   (hQ : Q (some (.int res.1)) (HH pre tl SHm B res.2)) : ∀ (n : Nat) (lv : LV) (σ : SG) (x0 : Nat) (x2 : Int32), isC SHm (x0) 8 = true → lv.lookup 0 = some (.ref (B + (x0))) → lv.lookup 2 = some (.int (x2)) → F_Mo_make_28  n x0 x2 σ = some res → Rn b sc d 83 28 lv [] (HH pre tl SHm B σ) Q := by
  intro n
  induction n with
  | zero => intro lv σ x0 x2 hx0 l0 l2 hF; cases hF
  | succ n ih =>
    intro lv σ x0 x2 hx0 l0 l2 hF
    unfold F_Mo_make_28 at hF
    refine r_iload_n f_Mo_make_28 l2 ?_
    refine r_bipush f_Mo_make_29 (v := 20) (by decide) ?_
    refine r_icmp_ge f_Mo_make_31 (fun c1 => ?_) (fun c1 => ?_)
    · rw [if_pos c1] at hF
      refine r_aload_n f_Mo_make_76 l0 ?_
      refine r_dup f_Mo_make_77 rfl ?_
      refine t_geti hB hx0 f_Mo_make_78 rfl ?_
      refine r_iconst f_Mo_make_81 (v := 1) (by decide) ?_
      refine r_iadd f_Mo_make_82 ?_
      refine t_puti hB hx0 f_Mo_make_83 rfl rfl ?_
      generalize hs2 : setI σ (x0) 30 (((σ.1 (x0) 30) + (1 : Int32))) = s2 at hF ⊢
      rw [stl_eq] at hF
      refine r_aload_n f_Mo_make_86 l0 ?_
      refine t_geti hB hx0 f_Mo_make_87 rfl ?_
      refine r_iconst f_Mo_make_90 (v := 1) (by decide) ?_
      refine r_isub f_Mo_make_91 ?_
      cases hF
      exact r_ireturn f_Mo_make_92 hQ
    · rw [if_neg c1] at hF
      refine r_aload_n f_Mo_make_34 l0 ?_
      refine t_getc hB hx0 f_Mo_make_35 rfl ?_
      refine r_bipush f_Mo_make_38 (v := 56) (by decide) ?_
      refine r_bipush f_Mo_make_40 (v := 20) (by decide) ?_
      refine r_aload_n f_Mo_make_42 l0 ?_
      refine t_geti hB hx0 f_Mo_make_43 rfl ?_
      refine r_imul f_Mo_make_46 ?_
      refine r_iadd f_Mo_make_47 ?_
      refine r_iload_n f_Mo_make_48 l2 ?_
      refine r_iadd f_Mo_make_49 ?_
      refine r_iconst f_Mo_make_50 (v := 0) (by decide) ?_
      by_cases c3 : (((56 : Int32) + ((20 : Int32) * (σ.1 (x0) 30))) + x2) < 0 ∨ 856 ≤ ((((56 : Int32) + ((20 : Int32) * (σ.1 (x0) 30))) + x2)).toNatClampNeg
      · rw [if_pos c3] at hF; cases hF
      rw [if_neg c3] at hF
      refine t_iast hB (cc_8_37 hx0) f_Mo_make_51 c3 ?_
      generalize hs4 : setA σ ((cref SHm (x0) 37)) (((((56 : Int32) + ((20 : Int32) * (σ.1 (x0) 30))) + x2)).toNatClampNeg) ((0 : Int32)) = s4 at hF ⊢
      rw [stl_eq] at hF
      refine r_aload_n f_Mo_make_52 l0 ?_
      refine t_getc hB hx0 f_Mo_make_53 rfl ?_
      refine r_bipush f_Mo_make_56 (v := 56) (by decide) ?_
      refine r_bipush f_Mo_make_58 (v := 20) (by decide) ?_
      refine r_aload_n f_Mo_make_60 l0 ?_
      refine t_geti hB hx0 f_Mo_make_61 rfl ?_
      refine r_imul f_Mo_make_64 ?_
      refine r_iadd f_Mo_make_65 ?_
      refine r_iload_n f_Mo_make_66 l2 ?_
      refine r_iadd f_Mo_make_67 ?_
      refine r_iconst f_Mo_make_68 (v := 0) (by decide) ?_
      by_cases c5 : (((56 : Int32) + ((20 : Int32) * (s4.1 (x0) 30))) + x2) < 0 ∨ 856 ≤ ((((56 : Int32) + ((20 : Int32) * (s4.1 (x0) 30))) + x2)).toNatClampNeg
      · rw [if_pos c5] at hF; cases hF
      rw [if_neg c5] at hF
      refine t_iast hB (cc_8_38 hx0) f_Mo_make_69 c5 ?_
      generalize hs6 : setA s4 ((cref SHm (x0) 38)) (((((56 : Int32) + ((20 : Int32) * (s4.1 (x0) 30))) + x2)).toNatClampNeg) ((0 : Int32)) = s6 at hF ⊢
      rw [stl_eq] at hF
      refine r_iinc f_Mo_make_70 l2 (w := x2 + 1) rfl ?_
      refine r_goto f_Mo_make_73 ?_
      exact ih _ (s6) (x0) ((x2 + 1)) hx0 (lk_put_ne l0 (by decide) (Or.inl rfl)) lk_put hF
def F_Mo_make (a0 : Nat) (a1 : Int32) (σ : SG) : Option (Int32 × SG) :=
  if (σ.1 (a0) 30) = (40 : Int32) then
  stl (setI σ (a0) 44 ((4 : Int32))) fun s10 =>
  some (((-1) : Int32), s10)
  else if (σ.1 (a0) 30) < 0 ∨ 40 ≤ ((σ.1 (a0) 30)).toNatClampNeg then none else
  stl (setA σ ((cref SHm (a0) 39)) (((σ.1 (a0) 30)).toNatClampNeg) (a1)) fun s9 =>
  F_Mo_make_28  5000 (a0) ((0 : Int32)) s9
set_option maxHeartbeats 4000000 in
theorem w_Mo_make {b d : Nat} {pre tl : List PE} {B : Nat} {Q : Option Value → List PE → Prop} {res : Int32 × SG} (hB : B = b + pre.length)  {σ : SG} (a0 : Nat) (a1 : Int32) (ha0 : isC SHm (a0) 8 = true) (hF : F_Mo_make a0 a1 σ = some res) (hQ : Q (some (.int res.1)) (HH pre tl SHm B res.2)) : Cl b d 83 [.ref (B + (a0)), .int (a1)] (HH pre tl SHm B σ) Q := by
  unfold Cl
  unfold F_Mo_make at hF
  refine r_aload_n f_Mo_make_0 rfl ?_
  refine t_geti hB ha0 f_Mo_make_1 rfl ?_
  refine r_bipush f_Mo_make_4 (v := 40) (by decide) ?_
  refine r_icmp_ne f_Mo_make_6 (fun c7 => ?_) (fun c7 => ?_)
  · rw [if_neg c7] at hF
    refine r_aload_n f_Mo_make_16 rfl ?_
    refine t_getc hB ha0 f_Mo_make_17 rfl ?_
    refine r_aload_n f_Mo_make_20 rfl ?_
    refine t_geti hB ha0 f_Mo_make_21 rfl ?_
    refine r_iload_n f_Mo_make_24 rfl ?_
    by_cases c8 : (σ.1 (a0) 30) < 0 ∨ 40 ≤ ((σ.1 (a0) 30)).toNatClampNeg
    · rw [if_pos c8] at hF; cases hF
    rw [if_neg c8] at hF
    refine t_iast hB (cc_8_39 ha0) f_Mo_make_25 c8 ?_
    generalize hs9 : setA σ ((cref SHm (a0) 39)) (((σ.1 (a0) 30)).toNatClampNeg) (a1) = s9 at hF ⊢
    rw [stl_eq] at hF
    refine r_iconst f_Mo_make_26 (v := 0) (by decide) ?_
    refine r_istore_n f_Mo_make_27 ?_
    exact w_Mo_make_28 hB   hQ 5000 _ (s9) (a0) ((0 : Int32)) ha0 (lk_put_ne rfl (by decide) (Or.inl rfl)) lk_put hF
  · rw [if_pos (Decidable.not_not.mp c7)] at hF
    refine r_aload_n f_Mo_make_9 rfl ?_
    refine r_iconst f_Mo_make_10 (v := 4) (by decide) ?_
    refine t_puti hB ha0 f_Mo_make_11 rfl rfl ?_
    generalize hs10 : setI σ (a0) 44 ((4 : Int32)) = s10 at hF ⊢
    rw [stl_eq] at hF
    refine r_iconst f_Mo_make_14 (v := (-1)) (by decide) ?_
    cases hF
    exact r_ireturn f_Mo_make_15 hQ
theorem f_Mo_create_0 : fetch 82 0 = some (.aload_n 0, 1, 0, 0, 0) := rfl
theorem f_Mo_create_1 : fetch 82 1 = some (.aload_n 0, 1, 0, 0, 0) := rfl
theorem f_Mo_create_2 : fetch 82 2 = some (.getfield 13, 3, 8, 5, 28) := rfl
theorem f_Mo_create_5 : fetch 82 5 = some (.iload_n 1, 1, 0, 0, 0) := rfl
theorem f_Mo_create_6 : fetch 82 6 = some (.iaload, 1, 0, 0, 0) := rfl
theorem f_Mo_create_7 : fetch 82 7 = some (.invokevirtual 327, 3, 83, 1, 92) := rfl
theorem f_Mo_create_10 : fetch 82 10 = some (.istore_n 2, 1, 0, 0, 0) := rfl
theorem f_Mo_create_11 : fetch 82 11 = some (.iconst 0, 1, 0, 0, 0) := rfl
theorem f_Mo_create_12 : fetch 82 12 = some (.istore_n 3, 1, 0, 0, 0) := rfl
theorem f_Mo_create_13 : fetch 82 13 = some (.iload_n 3, 1, 0, 0, 0) := rfl
theorem f_Mo_create_14 : fetch 82 14 = some (.aload_n 0, 1, 0, 0, 0) := rfl
theorem f_Mo_create_15 : fetch 82 15 = some (.getfield 13, 3, 8, 5, 28) := rfl
theorem f_Mo_create_18 : fetch 82 18 = some (.iload_n 1, 1, 0, 0, 0) := rfl
theorem f_Mo_create_19 : fetch 82 19 = some (.iaload, 1, 0, 0, 0) := rfl
theorem f_Mo_create_20 : fetch 82 20 = some (.if_icmp .ge 48, 3, 68, 0, 0) := rfl
theorem f_Mo_create_23 : fetch 82 23 = some (.iload_n 2, 1, 0, 0, 0) := rfl
theorem f_Mo_create_24 : fetch 82 24 = some (.ifCond .lt 44, 3, 68, 0, 0) := rfl
theorem f_Mo_create_27 : fetch 82 27 = some (.aload_n 0, 1, 0, 0, 0) := rfl
theorem f_Mo_create_28 : fetch 82 28 = some (.getfield 84, 3, 8, 37, 51) := rfl
theorem f_Mo_create_31 : fetch 82 31 = some (.bipush 56, 2, 0, 0, 0) := rfl
theorem f_Mo_create_33 : fetch 82 33 = some (.bipush 20, 2, 0, 0, 0) := rfl
theorem f_Mo_create_35 : fetch 82 35 = some (.iload_n 2, 1, 0, 0, 0) := rfl
theorem f_Mo_create_36 : fetch 82 36 = some (.imul, 1, 0, 0, 0) := rfl
theorem f_Mo_create_37 : fetch 82 37 = some (.iadd, 1, 0, 0, 0) := rfl
theorem f_Mo_create_38 : fetch 82 38 = some (.iload_n 3, 1, 0, 0, 0) := rfl
theorem f_Mo_create_39 : fetch 82 39 = some (.iadd, 1, 0, 0, 0) := rfl
theorem f_Mo_create_40 : fetch 82 40 = some (.aload_n 0, 1, 0, 0, 0) := rfl
theorem f_Mo_create_41 : fetch 82 41 = some (.getfield 16, 3, 8, 6, 29) := rfl
theorem f_Mo_create_44 : fetch 82 44 = some (.iconst 4, 1, 0, 0, 0) := rfl
theorem f_Mo_create_45 : fetch 82 45 = some (.iload_n 1, 1, 0, 0, 0) := rfl
theorem f_Mo_create_46 : fetch 82 46 = some (.imul, 1, 0, 0, 0) := rfl
theorem f_Mo_create_47 : fetch 82 47 = some (.iload_n 3, 1, 0, 0, 0) := rfl
theorem f_Mo_create_48 : fetch 82 48 = some (.iadd, 1, 0, 0, 0) := rfl
theorem f_Mo_create_49 : fetch 82 49 = some (.iaload, 1, 0, 0, 0) := rfl
theorem f_Mo_create_50 : fetch 82 50 = some (.invokestatic 281, 3, 72, 1, 78) := rfl
theorem f_Mo_create_53 : fetch 82 53 = some (.ifCond .eq 7, 3, 60, 0, 0) := rfl
theorem f_Mo_create_56 : fetch 82 56 = some (.iconst (-1), 1, 0, 0, 0) := rfl
theorem f_Mo_create_57 : fetch 82 57 = some (.goto 4, 3, 61, 0, 0) := rfl
theorem f_Mo_create_60 : fetch 82 60 = some (.iconst 0, 1, 0, 0, 0) := rfl
theorem f_Mo_create_61 : fetch 82 61 = some (.iastore, 1, 0, 0, 0) := rfl
theorem f_Mo_create_62 : fetch 82 62 = some (.iinc 3 1, 3, 0, 0, 0) := rfl
theorem f_Mo_create_65 : fetch 82 65 = some (.goto (-52), 3, 13, 0, 0) := rfl
theorem f_Mo_create_68 : fetch 82 68 = some (.iload_n 2, 1, 0, 0, 0) := rfl
theorem f_Mo_create_69 : fetch 82 69 = some (.ifCond .lt 9, 3, 78, 0, 0) := rfl
theorem f_Mo_create_72 : fetch 82 72 = some (.aload_n 0, 1, 0, 0, 0) := rfl
theorem f_Mo_create_73 : fetch 82 73 = some (.iload_n 2, 1, 0, 0, 0) := rfl
theorem f_Mo_create_74 : fetch 82 74 = some (.iconst 0, 1, 0, 0, 0) := rfl
theorem f_Mo_create_75 : fetch 82 75 = some (.invokevirtual 290, 3, 76, 2, 84) := rfl
theorem f_Mo_create_78 : fetch 82 78 = some (.return_, 1, 0, 0, 0) := rfl
def F_Mo_create_78   (σ : SG) : Option (SG) :=
  some σ
set_option maxHeartbeats 4000000 in
theorem w_Mo_create_78 {b d : Nat} {sc : SC} {pre tl : List PE} {B : Nat} {Q : Option Value → List PE → Prop} {res : SG} (hB : B = b + pre.length) (hd : 1 ≤ d)   (hQ : Q none (HH pre tl SHm B res)) (lv : LV) (σ : SG)   (hF : F_Mo_create_78   σ = some res) : Rn b sc d 82 78 lv [] (HH pre tl SHm B σ) Q := by
  obtain ⟨e0, rfl⟩ : ∃ e, d = e + 1 := ⟨d - 1, by omega⟩
  unfold F_Mo_create_78 at hF
  cases hF
  exact r_return f_Mo_create_78 hQ
def F_Mo_create_68  (x0 : Nat) (x2 : Int32) (σ : SG) : Option (SG) :=
  if x2 < 0 then
  F_Mo_create_78 σ
  else match F_Mo_put (x0) (x2) ((0 : Int32)) σ with
  | none => none
  | some q2 =>
  F_Mo_create_78 q2
set_option maxHeartbeats 4000000 in
theorem w_Mo_create_68 {b d : Nat} {sc : SC} {pre tl : List PE} {B : Nat} {Q : Option Value → List PE → Prop} {res : SG} (hB : B = b + pre.length) (hd : 1 ≤ d)   (hQ : Q none (HH pre tl SHm B res)) (lv : LV) (σ : SG) (x0 : Nat) (x2 : Int32) (hx0 : isC SHm (x0) 8 = true) (l0 : lv.lookup 0 = some (.ref (B + (x0)))) (l2 : lv.lookup 2 = some (.int (x2))) (hF : F_Mo_create_68  x0 x2 σ = some res) : Rn b sc d 82 68 lv [] (HH pre tl SHm B σ) Q := by
  obtain ⟨e0, rfl⟩ : ∃ e, d = e + 1 := ⟨d - 1, by omega⟩
  unfold F_Mo_create_68 at hF
  refine r_iload_n f_Mo_create_68 l2 ?_
  refine r_if_lt f_Mo_create_69 (fun c1 => ?_) (fun c1 => ?_)
  · rw [if_pos c1] at hF
    exact w_Mo_create_78 hB hd  hQ _ (σ) hF
  · rw [if_neg c1] at hF
    refine r_aload_n f_Mo_create_72 l0 ?_
    refine r_iload_n f_Mo_create_73 l2 ?_
    refine r_iconst f_Mo_create_74 (v := 0) (by decide) ?_
    cases hq2 : F_Mo_put (x0) (x2) ((0 : Int32)) σ with
    | none => simp only [hq2] at hF; cases hF
    | some q2 =>
      simp only [hq2] at hF
      refine t_V2v hB hx0 rfl rfl f_Mo_create_75 (by decide) (Nat.le_of_ble_eq_true rfl) (Nat.le_of_ble_eq_true rfl) (w_Mo_put hB  (x0) (x2) ((0 : Int32)) hx0 hq2 ⟨rfl, ?_⟩)
      exact w_Mo_create_78 hB hd  hQ _ (q2) hF
def F_Mo_create_61 (rec13 : Nat → Int32 → Int32 → Int32 → SG → Option (SG)) (x0 : Nat) (x1 : Int32) (x2 : Int32) (x3 : Int32) (y0 : Nat) (y1 : Int32) (y2 : Int32) (σ : SG) : Option (SG) :=
  if y1 < 0 ∨ 856 ≤ (y1).toNatClampNeg then none else
  stl (setA σ (y0) ((y1).toNatClampNeg) (y2)) fun s4 =>
  rec13 (x0) (x1) (x2) ((x3 + 1)) s4
set_option maxHeartbeats 4000000 in
theorem w_Mo_create_61 {b d : Nat} {sc : SC} {pre tl : List PE} {B : Nat} {Q : Option Value → List PE → Prop} {res : SG} (hB : B = b + pre.length) (hd : 1 ≤ d) {rec13 : Nat → Int32 → Int32 → Int32 → SG → Option (SG)} (hr13 : ∀ (lv : LV) (σ : SG) (x0 : Nat) (x1 : Int32) (x2 : Int32) (x3 : Int32), isC SHm (x0) 8 = true → lv.lookup 0 = some (.ref (B + (x0))) → lv.lookup 1 = some (.int (x1)) → lv.lookup 2 = some (.int (x2)) → lv.lookup 3 = some (.int (x3)) →  rec13 x0 x1 x2 x3 σ = some res → Rn b sc d 82 13 lv [] (HH pre tl SHm B σ) Q) (hQ : Q none (HH pre tl SHm B res)) (lv : LV) (σ : SG) (x0 : Nat) (x1 : Int32) (x2 : Int32) (x3 : Int32) (y0 : Nat) (y1 : Int32) (y2 : Int32) (hx0 : isC SHm (x0) 8 = true) (hy0 : isA SHm (y0) 0 856 = true) (l0 : lv.lookup 0 = some (.ref (B + (x0)))) (l1 : lv.lookup 1 = some (.int (x1))) (l2 : lv.lookup 2 = some (.int (x2))) (l3 : lv.lookup 3 = some (.int (x3))) (hF : F_Mo_create_61 rec13 x0 x1 x2 x3 y0 y1 y2 σ = some res) : Rn b sc d 82 61 lv [.int (y2), .int (y1), .ref (B + (y0))] (HH pre tl SHm B σ) Q := by
  obtain ⟨e0, rfl⟩ : ∃ e, d = e + 1 := ⟨d - 1, by omega⟩
  unfold F_Mo_create_61 at hF
  by_cases c3 : y1 < 0 ∨ 856 ≤ (y1).toNatClampNeg
  · rw [if_pos c3] at hF; cases hF
  rw [if_neg c3] at hF
  refine t_iast hB hy0 f_Mo_create_61 c3 ?_
  generalize hs4 : setA σ (y0) ((y1).toNatClampNeg) (y2) = s4 at hF ⊢
  rw [stl_eq] at hF
  refine r_iinc f_Mo_create_62 l3 (w := x3 + 1) rfl ?_
  refine r_goto f_Mo_create_65 ?_
  exact hr13 _ (s4) (x0) (x1) (x2) ((x3 + 1)) hx0 (lk_put_ne l0 (by decide) (Or.inl rfl)) (lk_put_ne l1 (by decide) (Or.inl rfl)) (lk_put_ne l2 (by decide) (Or.inl rfl)) lk_put hF
def F_Mo_create_13  : Nat → Nat → Int32 → Int32 → Int32 → SG → Option (SG)
  | 0, _, _, _, _, _ => none
  | n + 1, x0, x1, x2, x3, σ =>
  if x1 < 0 ∨ 4 ≤ (x1).toNatClampNeg then none else
  if (σ.2.2.2.1 ((cref SHm (x0) 5)) ((x1).toNatClampNeg)) ≤ x3 then
  F_Mo_create_68 (x0) (x2) σ
  else if x2 < 0 then
  F_Mo_create_68 (x0) (x2) σ
  else if (((4 : Int32) * x1) + x3) < 0 ∨ 16 ≤ ((((4 : Int32) * x1) + x3)).toNatClampNeg then none else
  match F_Mo_isReference ((σ.2.2.2.1 ((cref SHm (x0) 6)) (((((4 : Int32) * x1) + x3)).toNatClampNeg))) σ with
  | none => none
  | some q9 =>
  if q9.1 = true then
  F_Mo_create_61 (F_Mo_create_13  n) (x0) (x1) (x2) (x3) ((cref SHm (x0) 37)) ((((56 : Int32) + ((20 : Int32) * x2)) + x3)) (((-1) : Int32)) q9.2
  else F_Mo_create_61 (F_Mo_create_13  n) (x0) (x1) (x2) (x3) ((cref SHm (x0) 37)) ((((56 : Int32) + ((20 : Int32) * x2)) + x3)) ((0 : Int32)) q9.2
set_option maxHeartbeats 4000000 in
theorem w_Mo_create_13 {b d : Nat} {sc : SC} {pre tl : List PE} {B : Nat} {Q : Option Value → List PE → Prop} {res : SG} (hB : B = b + pre.length) (hd : 1 ≤ d)   (hQ : Q none (HH pre tl SHm B res)) : ∀ (n : Nat) (lv : LV) (σ : SG) (x0 : Nat) (x1 : Int32) (x2 : Int32) (x3 : Int32), isC SHm (x0) 8 = true → lv.lookup 0 = some (.ref (B + (x0))) → lv.lookup 1 = some (.int (x1)) → lv.lookup 2 = some (.int (x2)) → lv.lookup 3 = some (.int (x3)) → F_Mo_create_13  n x0 x1 x2 x3 σ = some res → Rn b sc d 82 13 lv [] (HH pre tl SHm B σ) Q := by
  obtain ⟨e0, rfl⟩ : ∃ e, d = e + 1 := ⟨d - 1, by omega⟩
  intro n
  induction n with
  | zero => intro lv σ x0 x1 x2 x3 hx0 l0 l1 l2 l3 hF; cases hF
  | succ n ih =>
    intro lv σ x0 x1 x2 x3 hx0 l0 l1 l2 l3 hF
    unfold F_Mo_create_13 at hF
    refine r_iload_n f_Mo_create_13 l3 ?_
    refine r_aload_n f_Mo_create_14 l0 ?_
    refine t_getc hB hx0 f_Mo_create_15 rfl ?_
    refine r_iload_n f_Mo_create_18 l1 ?_
    by_cases c5 : x1 < 0 ∨ 4 ≤ (x1).toNatClampNeg
    · rw [if_pos c5] at hF; cases hF
    rw [if_neg c5] at hF
    refine t_iald hB (cc_8_5 hx0) f_Mo_create_19 c5 ?_
    refine r_icmp_ge f_Mo_create_20 (fun c6 => ?_) (fun c6 => ?_)
    · rw [if_pos c6] at hF
      exact w_Mo_create_68 hB hd  hQ _ (σ) (x0) (x2) hx0 l0 l2 hF
    · rw [if_neg c6] at hF
      refine r_iload_n f_Mo_create_23 l2 ?_
      refine r_if_lt f_Mo_create_24 (fun c7 => ?_) (fun c7 => ?_)
      · rw [if_pos c7] at hF
        exact w_Mo_create_68 hB hd  hQ _ (σ) (x0) (x2) hx0 l0 l2 hF
      · rw [if_neg c7] at hF
        refine r_aload_n f_Mo_create_27 l0 ?_
        refine t_getc hB hx0 f_Mo_create_28 rfl ?_
        refine r_bipush f_Mo_create_31 (v := 56) (by decide) ?_
        refine r_bipush f_Mo_create_33 (v := 20) (by decide) ?_
        refine r_iload_n f_Mo_create_35 l2 ?_
        refine r_imul f_Mo_create_36 ?_
        refine r_iadd f_Mo_create_37 ?_
        refine r_iload_n f_Mo_create_38 l3 ?_
        refine r_iadd f_Mo_create_39 ?_
        refine r_aload_n f_Mo_create_40 l0 ?_
        refine t_getc hB hx0 f_Mo_create_41 rfl ?_
        refine r_iconst f_Mo_create_44 (v := 4) (by decide) ?_
        refine r_iload_n f_Mo_create_45 l1 ?_
        refine r_imul f_Mo_create_46 ?_
        refine r_iload_n f_Mo_create_47 l3 ?_
        refine r_iadd f_Mo_create_48 ?_
        by_cases c8 : (((4 : Int32) * x1) + x3) < 0 ∨ 16 ≤ ((((4 : Int32) * x1) + x3)).toNatClampNeg
        · rw [if_pos c8] at hF; cases hF
        rw [if_neg c8] at hF
        refine t_iald hB (cc_8_6 hx0) f_Mo_create_49 c8 ?_
        cases hq9 : F_Mo_isReference ((σ.2.2.2.1 ((cref SHm (x0) 6)) (((((4 : Int32) * x1) + x3)).toNatClampNeg))) σ with
        | none => simp only [hq9] at hF; cases hF
        | some q9 =>
          simp only [hq9] at hF
          refine t_S1i f_Mo_create_50 (by decide) (Nat.le_of_ble_eq_true rfl) (Nat.le_of_ble_eq_true rfl) (w_Mo_isReference hB  ((σ.2.2.2.1 ((cref SHm (x0) 6)) (((((4 : Int32) * x1) + x3)).toNatClampNeg)))  hq9 ⟨_, rfl, ?_⟩)
          refine r_if_eq f_Mo_create_53 (fun c10 => ?_) (fun c10 => ?_)
          · rw [if_neg (bz_nt c10)] at hF
            refine r_iconst f_Mo_create_60 (v := 0) (by decide) ?_
            exact w_Mo_create_61 hB hd (ih) hQ _ (q9.2) (x0) (x1) (x2) (x3) ((cref SHm (x0) 37)) ((((56 : Int32) + ((20 : Int32) * x2)) + x3)) ((0 : Int32)) hx0 (cc_8_37 hx0) l0 l1 l2 l3 hF
          · rw [if_pos (bz_t c10)] at hF
            refine r_iconst f_Mo_create_56 (v := (-1)) (by decide) ?_
            refine r_goto f_Mo_create_57 ?_
            exact w_Mo_create_61 hB hd (ih) hQ _ (q9.2) (x0) (x1) (x2) (x3) ((cref SHm (x0) 37)) ((((56 : Int32) + ((20 : Int32) * x2)) + x3)) (((-1) : Int32)) hx0 (cc_8_37 hx0) l0 l1 l2 l3 hF
def F_Mo_create (a0 : Nat) (a1 : Int32) (σ : SG) : Option (SG) :=
  if a1 < 0 ∨ 4 ≤ (a1).toNatClampNeg then none else
  match F_Mo_make (a0) ((σ.2.2.2.1 ((cref SHm (a0) 5)) ((a1).toNatClampNeg))) σ with
  | none => none
  | some q12 =>
  F_Mo_create_13  5000 (a0) (a1) (q12.1) ((0 : Int32)) q12.2
set_option maxHeartbeats 4000000 in
theorem w_Mo_create {b d : Nat} {pre tl : List PE} {B : Nat} {Q : Option Value → List PE → Prop} {res : SG} (hB : B = b + pre.length) (hd : 1 ≤ d)  {σ : SG} (a0 : Nat) (a1 : Int32) (ha0 : isC SHm (a0) 8 = true) (hF : F_Mo_create a0 a1 σ = some res) (hQ : Q none (HH pre tl SHm B res)) : Cl b d 82 [.ref (B + (a0)), .int (a1)] (HH pre tl SHm B σ) Q := by
  obtain ⟨e0, rfl⟩ : ∃ e, d = e + 1 := ⟨d - 1, by omega⟩
  unfold Cl
  unfold F_Mo_create at hF
  refine r_aload_n f_Mo_create_0 rfl ?_
  refine r_aload_n f_Mo_create_1 rfl ?_
  refine t_getc hB ha0 f_Mo_create_2 rfl ?_
  refine r_iload_n f_Mo_create_5 rfl ?_
  by_cases c11 : a1 < 0 ∨ 4 ≤ (a1).toNatClampNeg
  · rw [if_pos c11] at hF; cases hF
  rw [if_neg c11] at hF
  refine t_iald hB (cc_8_5 ha0) f_Mo_create_6 c11 ?_
  cases hq12 : F_Mo_make (a0) ((σ.2.2.2.1 ((cref SHm (a0) 5)) ((a1).toNatClampNeg))) σ with
  | none => simp only [hq12] at hF; cases hF
  | some q12 =>
    simp only [hq12] at hF
    refine t_V1i hB ha0 rfl rfl f_Mo_create_7 (by decide) (Nat.le_of_ble_eq_true rfl) (Nat.le_of_ble_eq_true rfl) (w_Mo_make hB  (a0) ((σ.2.2.2.1 ((cref SHm (a0) 5)) ((a1).toNatClampNeg))) ha0 hq12 ⟨_, rfl, ?_⟩)
    refine r_istore_n f_Mo_create_10 ?_
    refine r_iconst f_Mo_create_11 (v := 0) (by decide) ?_
    refine r_istore_n f_Mo_create_12 ?_
    exact w_Mo_create_13 hB hd  hQ 5000 _ (q12.2) (a0) (a1) (q12.1) ((0 : Int32)) ha0 (lk_put_ne (lk_put_ne rfl (by decide) (Or.inl rfl)) (by decide) (Or.inl rfl)) (lk_put_ne (lk_put_ne rfl (by decide) (Or.inl rfl)) (by decide) (Or.inl rfl)) (lk_put_ne lk_put (by decide) (Or.inl rfl)) lk_put hF
theorem f_Mo_cellOf_0 : fetch 84 0 = some (.aload_n 0, 1, 0, 0, 0) := rfl
theorem f_Mo_cellOf_1 : fetch 84 1 = some (.iload_n 1, 1, 0, 0, 0) := rfl
theorem f_Mo_cellOf_2 : fetch 84 2 = some (.ifCond .ge 7, 3, 9, 0, 0) := rfl
theorem f_Mo_cellOf_5 : fetch 84 5 = some (.iconst 2, 1, 0, 0, 0) := rfl
theorem f_Mo_cellOf_6 : fetch 84 6 = some (.goto 29, 3, 35, 0, 0) := rfl
theorem f_Mo_cellOf_9 : fetch 84 9 = some (.iload_n 3, 1, 0, 0, 0) := rfl
theorem f_Mo_cellOf_10 : fetch 84 10 = some (.ifCond .eq 21, 3, 31, 0, 0) := rfl
theorem f_Mo_cellOf_13 : fetch 84 13 = some (.iload_n 2, 1, 0, 0, 0) := rfl
theorem f_Mo_cellOf_14 : fetch 84 14 = some (.ifCond .lt 13, 3, 27, 0, 0) := rfl
theorem f_Mo_cellOf_17 : fetch 84 17 = some (.iload_n 2, 1, 0, 0, 0) := rfl
theorem f_Mo_cellOf_18 : fetch 84 18 = some (.aload_n 0, 1, 0, 0, 0) := rfl
theorem f_Mo_cellOf_19 : fetch 84 19 = some (.getfield 90, 3, 8, 39, 53) := rfl
theorem f_Mo_cellOf_22 : fetch 84 22 = some (.iload_n 1, 1, 0, 0, 0) := rfl
theorem f_Mo_cellOf_23 : fetch 84 23 = some (.iaload, 1, 0, 0, 0) := rfl
theorem f_Mo_cellOf_24 : fetch 84 24 = some (.if_icmp .lt 7, 3, 31, 0, 0) := rfl
theorem f_Mo_cellOf_27 : fetch 84 27 = some (.iconst 3, 1, 0, 0, 0) := rfl
theorem f_Mo_cellOf_28 : fetch 84 28 = some (.goto 7, 3, 35, 0, 0) := rfl
theorem f_Mo_cellOf_31 : fetch 84 31 = some (.aload_n 0, 1, 0, 0, 0) := rfl
theorem f_Mo_cellOf_32 : fetch 84 32 = some (.getfield 287, 3, 8, 44, 72) := rfl
theorem f_Mo_cellOf_35 : fetch 84 35 = some (.putfield 287, 3, 8, 44, 72) := rfl
theorem f_Mo_cellOf_38 : fetch 84 38 = some (.aload_n 0, 1, 0, 0, 0) := rfl
theorem f_Mo_cellOf_39 : fetch 84 39 = some (.getfield 287, 3, 8, 44, 72) := rfl
theorem f_Mo_cellOf_42 : fetch 84 42 = some (.ifCond .le 7, 3, 49, 0, 0) := rfl
theorem f_Mo_cellOf_45 : fetch 84 45 = some (.iconst (-1), 1, 0, 0, 0) := rfl
theorem f_Mo_cellOf_46 : fetch 84 46 = some (.goto 12, 3, 58, 0, 0) := rfl
theorem f_Mo_cellOf_49 : fetch 84 49 = some (.bipush 56, 2, 0, 0, 0) := rfl
theorem f_Mo_cellOf_51 : fetch 84 51 = some (.bipush 20, 2, 0, 0, 0) := rfl
theorem f_Mo_cellOf_53 : fetch 84 53 = some (.iload_n 1, 1, 0, 0, 0) := rfl
theorem f_Mo_cellOf_54 : fetch 84 54 = some (.imul, 1, 0, 0, 0) := rfl
theorem f_Mo_cellOf_55 : fetch 84 55 = some (.iadd, 1, 0, 0, 0) := rfl
theorem f_Mo_cellOf_56 : fetch 84 56 = some (.iload_n 2, 1, 0, 0, 0) := rfl
theorem f_Mo_cellOf_57 : fetch 84 57 = some (.iadd, 1, 0, 0, 0) := rfl
theorem f_Mo_cellOf_58 : fetch 84 58 = some (.ireturn, 1, 0, 0, 0) := rfl
def F_Mo_cellOf_58  (y0 : Int32) (σ : SG) : Option (Int32 × SG) :=
  some (y0, σ)
set_option maxHeartbeats 4000000 in
theorem w_Mo_cellOf_58 {b d : Nat} {sc : SC} {pre tl : List PE} {B : Nat} {Q : Option Value → List PE → Prop} {res : Int32 × SG} (hB : B = b + pre.length)   (hQ : Q (some (.int res.1)) (HH pre tl SHm B res.2)) (lv : LV) (σ : SG) (y0 : Int32)  (hF : F_Mo_cellOf_58  y0 σ = some res) : Rn b sc d 84 58 lv [.int (y0)] (HH pre tl SHm B σ) Q := by
  unfold F_Mo_cellOf_58 at hF
  cases hF
  exact r_ireturn f_Mo_cellOf_58 hQ
def F_Mo_cellOf_35  (x0 : Nat) (x1 : Int32) (x2 : Int32) (y0 : Nat) (y1 : Int32) (σ : SG) : Option (Int32 × SG) :=
  stl (setI σ (y0) 44 (y1)) fun s1 =>
  if (s1.1 (x0) 44) ≤ 0 then
  F_Mo_cellOf_58 ((((56 : Int32) + ((20 : Int32) * x1)) + x2)) s1
  else F_Mo_cellOf_58 (((-1) : Int32)) s1
set_option maxHeartbeats 4000000 in
theorem w_Mo_cellOf_35 {b d : Nat} {sc : SC} {pre tl : List PE} {B : Nat} {Q : Option Value → List PE → Prop} {res : Int32 × SG} (hB : B = b + pre.length)   (hQ : Q (some (.int res.1)) (HH pre tl SHm B res.2)) (lv : LV) (σ : SG) (x0 : Nat) (x1 : Int32) (x2 : Int32) (y0 : Nat) (y1 : Int32) (hx0 : isC SHm (x0) 8 = true) (hy0 : isC SHm (y0) 8 = true) (l0 : lv.lookup 0 = some (.ref (B + (x0)))) (l1 : lv.lookup 1 = some (.int (x1))) (l2 : lv.lookup 2 = some (.int (x2))) (hF : F_Mo_cellOf_35  x0 x1 x2 y0 y1 σ = some res) : Rn b sc d 84 35 lv [.int (y1), .ref (B + (y0))] (HH pre tl SHm B σ) Q := by
  unfold F_Mo_cellOf_35 at hF
  refine t_puti hB hy0 f_Mo_cellOf_35 rfl rfl ?_
  generalize hs1 : setI σ (y0) 44 (y1) = s1 at hF ⊢
  rw [stl_eq] at hF
  refine r_aload_n f_Mo_cellOf_38 l0 ?_
  refine t_geti hB hx0 f_Mo_cellOf_39 rfl ?_
  refine r_if_le f_Mo_cellOf_42 (fun c2 => ?_) (fun c2 => ?_)
  · rw [if_pos c2] at hF
    refine r_bipush f_Mo_cellOf_49 (v := 56) (by decide) ?_
    refine r_bipush f_Mo_cellOf_51 (v := 20) (by decide) ?_
    refine r_iload_n f_Mo_cellOf_53 l1 ?_
    refine r_imul f_Mo_cellOf_54 ?_
    refine r_iadd f_Mo_cellOf_55 ?_
    refine r_iload_n f_Mo_cellOf_56 l2 ?_
    refine r_iadd f_Mo_cellOf_57 ?_
    exact w_Mo_cellOf_58 hB   hQ _ (s1) ((((56 : Int32) + ((20 : Int32) * x1)) + x2)) hF
  · rw [if_neg c2] at hF
    refine r_iconst f_Mo_cellOf_45 (v := (-1)) (by decide) ?_
    refine r_goto f_Mo_cellOf_46 ?_
    exact w_Mo_cellOf_58 hB   hQ _ (s1) (((-1) : Int32)) hF
def F_Mo_cellOf_31  (x0 : Nat) (x1 : Int32) (x2 : Int32) (y0 : Nat) (σ : SG) : Option (Int32 × SG) :=
  F_Mo_cellOf_35 (x0) (x1) (x2) (y0) ((σ.1 (x0) 44)) σ
set_option maxHeartbeats 4000000 in
theorem w_Mo_cellOf_31 {b d : Nat} {sc : SC} {pre tl : List PE} {B : Nat} {Q : Option Value → List PE → Prop} {res : Int32 × SG} (hB : B = b + pre.length)   (hQ : Q (some (.int res.1)) (HH pre tl SHm B res.2)) (lv : LV) (σ : SG) (x0 : Nat) (x1 : Int32) (x2 : Int32) (y0 : Nat) (hx0 : isC SHm (x0) 8 = true) (hy0 : isC SHm (y0) 8 = true) (l0 : lv.lookup 0 = some (.ref (B + (x0)))) (l1 : lv.lookup 1 = some (.int (x1))) (l2 : lv.lookup 2 = some (.int (x2))) (hF : F_Mo_cellOf_31  x0 x1 x2 y0 σ = some res) : Rn b sc d 84 31 lv [.ref (B + (y0))] (HH pre tl SHm B σ) Q := by
  unfold F_Mo_cellOf_31 at hF
  refine r_aload_n f_Mo_cellOf_31 l0 ?_
  refine t_geti hB hx0 f_Mo_cellOf_32 rfl ?_
  exact w_Mo_cellOf_35 hB   hQ _ (σ) (x0) (x1) (x2) (y0) ((σ.1 (x0) 44)) hx0 hy0 l0 l1 l2 hF
def F_Mo_cellOf_27  (x0 : Nat) (x1 : Int32) (x2 : Int32) (y0 : Nat) (σ : SG) : Option (Int32 × SG) :=
  F_Mo_cellOf_35 (x0) (x1) (x2) (y0) ((3 : Int32)) σ
set_option maxHeartbeats 4000000 in
theorem w_Mo_cellOf_27 {b d : Nat} {sc : SC} {pre tl : List PE} {B : Nat} {Q : Option Value → List PE → Prop} {res : Int32 × SG} (hB : B = b + pre.length)   (hQ : Q (some (.int res.1)) (HH pre tl SHm B res.2)) (lv : LV) (σ : SG) (x0 : Nat) (x1 : Int32) (x2 : Int32) (y0 : Nat) (hx0 : isC SHm (x0) 8 = true) (hy0 : isC SHm (y0) 8 = true) (l0 : lv.lookup 0 = some (.ref (B + (x0)))) (l1 : lv.lookup 1 = some (.int (x1))) (l2 : lv.lookup 2 = some (.int (x2))) (hF : F_Mo_cellOf_27  x0 x1 x2 y0 σ = some res) : Rn b sc d 84 27 lv [.ref (B + (y0))] (HH pre tl SHm B σ) Q := by
  unfold F_Mo_cellOf_27 at hF
  refine r_iconst f_Mo_cellOf_27 (v := 3) (by decide) ?_
  refine r_goto f_Mo_cellOf_28 ?_
  exact w_Mo_cellOf_35 hB   hQ _ (σ) (x0) (x1) (x2) (y0) ((3 : Int32)) hx0 hy0 l0 l1 l2 hF
def F_Mo_cellOf (a0 : Nat) (a1 : Int32) (a2 : Int32) (a3 : Bool) (σ : SG) : Option (Int32 × SG) :=
  if 0 ≤ a1 then
  if a3 = true then
  if a2 < 0 then
  F_Mo_cellOf_27 (a0) (a1) (a2) (a0) σ
  else if a1 < 0 ∨ 40 ≤ (a1).toNatClampNeg then none else
  if a2 < (σ.2.2.2.1 ((cref SHm (a0) 39)) ((a1).toNatClampNeg)) then
  F_Mo_cellOf_31 (a0) (a1) (a2) (a0) σ
  else F_Mo_cellOf_27 (a0) (a1) (a2) (a0) σ
  else F_Mo_cellOf_31 (a0) (a1) (a2) (a0) σ
  else F_Mo_cellOf_35 (a0) (a1) (a2) (a0) ((2 : Int32)) σ
set_option maxHeartbeats 4000000 in
theorem w_Mo_cellOf {b d : Nat} {pre tl : List PE} {B : Nat} {Q : Option Value → List PE → Prop} {res : Int32 × SG} (hB : B = b + pre.length)  {σ : SG} (a0 : Nat) (a1 : Int32) (a2 : Int32) (a3 : Bool) (ha0 : isC SHm (a0) 8 = true) (hF : F_Mo_cellOf a0 a1 a2 a3 σ = some res) (hQ : Q (some (.int res.1)) (HH pre tl SHm B res.2)) : Cl b d 84 [.ref (B + (a0)), .int (a1), .int (a2), .int (bz (a3))] (HH pre tl SHm B σ) Q := by
  unfold Cl
  unfold F_Mo_cellOf at hF
  refine r_aload_n f_Mo_cellOf_0 rfl ?_
  refine r_iload_n f_Mo_cellOf_1 rfl ?_
  refine r_if_ge f_Mo_cellOf_2 (fun c3 => ?_) (fun c3 => ?_)
  · rw [if_pos c3] at hF
    refine r_iload_n f_Mo_cellOf_9 rfl ?_
    refine r_if_eq f_Mo_cellOf_10 (fun c4 => ?_) (fun c4 => ?_)
    · rw [if_neg (bz_nt c4)] at hF
      exact w_Mo_cellOf_31 hB   hQ _ (σ) (a0) (a1) (a2) (a0) ha0 ha0 rfl rfl rfl hF
    · rw [if_pos (bz_t c4)] at hF
      refine r_iload_n f_Mo_cellOf_13 rfl ?_
      refine r_if_lt f_Mo_cellOf_14 (fun c5 => ?_) (fun c5 => ?_)
      · rw [if_pos c5] at hF
        exact w_Mo_cellOf_27 hB   hQ _ (σ) (a0) (a1) (a2) (a0) ha0 ha0 rfl rfl rfl hF
      · rw [if_neg c5] at hF
        refine r_iload_n f_Mo_cellOf_17 rfl ?_
        refine r_aload_n f_Mo_cellOf_18 rfl ?_
        refine t_getc hB ha0 f_Mo_cellOf_19 rfl ?_
        refine r_iload_n f_Mo_cellOf_22 rfl ?_
        by_cases c6 : a1 < 0 ∨ 40 ≤ (a1).toNatClampNeg
        · rw [if_pos c6] at hF; cases hF
        rw [if_neg c6] at hF
        refine t_iald hB (cc_8_39 ha0) f_Mo_cellOf_23 c6 ?_
        refine r_icmp_lt f_Mo_cellOf_24 (fun c7 => ?_) (fun c7 => ?_)
        · rw [if_pos c7] at hF
          exact w_Mo_cellOf_31 hB   hQ _ (σ) (a0) (a1) (a2) (a0) ha0 ha0 rfl rfl rfl hF
        · rw [if_neg c7] at hF
          exact w_Mo_cellOf_27 hB   hQ _ (σ) (a0) (a1) (a2) (a0) ha0 ha0 rfl rfl rfl hF
  · rw [if_neg c3] at hF
    refine r_iconst f_Mo_cellOf_5 (v := 2) (by decide) ?_
    refine r_goto f_Mo_cellOf_6 ?_
    exact w_Mo_cellOf_35 hB   hQ _ (σ) (a0) (a1) (a2) (a0) ((2 : Int32)) ha0 ha0 rfl rfl rfl hF
theorem f_Mo_putPlace_0 : fetch 85 0 = some (.iload_n 1, 1, 0, 0, 0) := rfl
theorem f_Mo_putPlace_1 : fetch 85 1 = some (.ifCond .lt 9, 3, 10, 0, 0) := rfl
theorem f_Mo_putPlace_4 : fetch 85 4 = some (.aload_n 0, 1, 0, 0, 0) := rfl
theorem f_Mo_putPlace_5 : fetch 85 5 = some (.iload_n 1, 1, 0, 0, 0) := rfl
theorem f_Mo_putPlace_6 : fetch 85 6 = some (.iconst 0, 1, 0, 0, 0) := rfl
theorem f_Mo_putPlace_7 : fetch 85 7 = some (.invokevirtual 290, 3, 76, 2, 84) := rfl
theorem f_Mo_putPlace_10 : fetch 85 10 = some (.return_, 1, 0, 0, 0) := rfl
def F_Mo_putPlace_10   (σ : SG) : Option (SG) :=
  some σ
set_option maxHeartbeats 4000000 in
theorem w_Mo_putPlace_10 {b d : Nat} {sc : SC} {pre tl : List PE} {B : Nat} {Q : Option Value → List PE → Prop} {res : SG} (hB : B = b + pre.length) (hd : 1 ≤ d)   (hQ : Q none (HH pre tl SHm B res)) (lv : LV) (σ : SG)   (hF : F_Mo_putPlace_10   σ = some res) : Rn b sc d 85 10 lv [] (HH pre tl SHm B σ) Q := by
  obtain ⟨e0, rfl⟩ : ∃ e, d = e + 1 := ⟨d - 1, by omega⟩
  unfold F_Mo_putPlace_10 at hF
  cases hF
  exact r_return f_Mo_putPlace_10 hQ
def F_Mo_putPlace (a0 : Nat) (a1 : Int32) (σ : SG) : Option (SG) :=
  if a1 < 0 then
  F_Mo_putPlace_10 σ
  else match F_Mo_put (a0) (a1) ((0 : Int32)) σ with
  | none => none
  | some q2 =>
  F_Mo_putPlace_10 q2
set_option maxHeartbeats 4000000 in
theorem w_Mo_putPlace {b d : Nat} {pre tl : List PE} {B : Nat} {Q : Option Value → List PE → Prop} {res : SG} (hB : B = b + pre.length) (hd : 1 ≤ d)  {σ : SG} (a0 : Nat) (a1 : Int32) (ha0 : isC SHm (a0) 8 = true) (hF : F_Mo_putPlace a0 a1 σ = some res) (hQ : Q none (HH pre tl SHm B res)) : Cl b d 85 [.ref (B + (a0)), .int (a1)] (HH pre tl SHm B σ) Q := by
  obtain ⟨e0, rfl⟩ : ∃ e, d = e + 1 := ⟨d - 1, by omega⟩
  unfold Cl
  unfold F_Mo_putPlace at hF
  refine r_iload_n f_Mo_putPlace_0 rfl ?_
  refine r_if_lt f_Mo_putPlace_1 (fun c1 => ?_) (fun c1 => ?_)
  · rw [if_pos c1] at hF
    exact w_Mo_putPlace_10 hB hd  hQ _ (σ) hF
  · rw [if_neg c1] at hF
    refine r_aload_n f_Mo_putPlace_4 rfl ?_
    refine r_iload_n f_Mo_putPlace_5 rfl ?_
    refine r_iconst f_Mo_putPlace_6 (v := 0) (by decide) ?_
    cases hq2 : F_Mo_put (a0) (a1) ((0 : Int32)) σ with
    | none => simp only [hq2] at hF; cases hF
    | some q2 =>
      simp only [hq2] at hF
      refine t_V2v hB ha0 rfl rfl f_Mo_putPlace_7 (by decide) (Nat.le_of_ble_eq_true rfl) (Nat.le_of_ble_eq_true rfl) (w_Mo_put hB  (a0) (a1) ((0 : Int32)) ha0 hq2 ⟨rfl, ?_⟩)
      exact w_Mo_putPlace_10 hB hd  hQ _ (q2) hF
theorem f_Mo_work_0 : fetch 81 0 = some (.iload_n 2, 1, 0, 0, 0) := rfl
theorem f_Mo_work_1 : fetch 81 1 = some (.bipush 21, 2, 0, 0, 0) := rfl
theorem f_Mo_work_3 : fetch 81 3 = some (.if_icmp .ge 11, 3, 14, 0, 0) := rfl
theorem f_Mo_work_6 : fetch 81 6 = some (.aload_n 0, 1, 0, 0, 0) := rfl
theorem f_Mo_work_7 : fetch 81 7 = some (.iload_n 1, 1, 0, 0, 0) := rfl
theorem f_Mo_work_8 : fetch 81 8 = some (.invokevirtual 157, 3, 47, 1, 61) := rfl
theorem f_Mo_work_11 : fetch 81 11 = some (.goto 4, 3, 15, 0, 0) := rfl
theorem f_Mo_work_14 : fetch 81 14 = some (.iconst 0, 1, 0, 0, 0) := rfl
theorem f_Mo_work_15 : fetch 81 15 = some (.istore_n 3, 1, 0, 0, 0) := rfl
theorem f_Mo_work_16 : fetch 81 16 = some (.iload_n 2, 1, 0, 0, 0) := rfl
theorem f_Mo_work_17 : fetch 81 17 = some (.bipush 17, 2, 0, 0, 0) := rfl
theorem f_Mo_work_19 : fetch 81 19 = some (.if_icmp .ne 7, 3, 26, 0, 0) := rfl
theorem f_Mo_work_22 : fetch 81 22 = some (.iconst 0, 1, 0, 0, 0) := rfl
theorem f_Mo_work_23 : fetch 81 23 = some (.goto 7, 3, 30, 0, 0) := rfl
theorem f_Mo_work_26 : fetch 81 26 = some (.aload_n 0, 1, 0, 0, 0) := rfl
theorem f_Mo_work_27 : fetch 81 27 = some (.invokevirtual 308, 3, 78, 0, 86) := rfl
theorem f_Mo_work_30 : fetch 81 30 = some (.istore 4, 2, 0, 0, 0) := rfl
theorem f_Mo_work_32 : fetch 81 32 = some (.aload_n 0, 1, 0, 0, 0) := rfl
theorem f_Mo_work_33 : fetch 81 33 = some (.getfield 284, 3, 8, 46, 73) := rfl
theorem f_Mo_work_36 : fetch 81 36 = some (.istore 5, 2, 0, 0, 0) := rfl
theorem f_Mo_work_38 : fetch 81 38 = some (.iload_n 2, 1, 0, 0, 0) := rfl
theorem f_Mo_work_39 : fetch 81 39 = some (.bipush 19, 2, 0, 0, 0) := rfl
theorem f_Mo_work_41 : fetch 81 41 = some (.if_icmp .eq 33, 3, 74, 0, 0) := rfl
theorem f_Mo_work_44 : fetch 81 44 = some (.iload_n 2, 1, 0, 0, 0) := rfl
theorem f_Mo_work_45 : fetch 81 45 = some (.bipush 22, 2, 0, 0, 0) := rfl
theorem f_Mo_work_47 : fetch 81 47 = some (.if_icmp .eq 27, 3, 74, 0, 0) := rfl
theorem f_Mo_work_50 : fetch 81 50 = some (.iload_n 2, 1, 0, 0, 0) := rfl
theorem f_Mo_work_51 : fetch 81 51 = some (.bipush 23, 2, 0, 0, 0) := rfl
theorem f_Mo_work_53 : fetch 81 53 = some (.if_icmp .eq 21, 3, 74, 0, 0) := rfl
theorem f_Mo_work_56 : fetch 81 56 = some (.iload_n 2, 1, 0, 0, 0) := rfl
theorem f_Mo_work_57 : fetch 81 57 = some (.bipush 24, 2, 0, 0, 0) := rfl
theorem f_Mo_work_59 : fetch 81 59 = some (.if_icmp .eq 15, 3, 74, 0, 0) := rfl
theorem f_Mo_work_62 : fetch 81 62 = some (.iload_n 2, 1, 0, 0, 0) := rfl
theorem f_Mo_work_63 : fetch 81 63 = some (.bipush 27, 2, 0, 0, 0) := rfl
theorem f_Mo_work_65 : fetch 81 65 = some (.if_icmp .eq 9, 3, 74, 0, 0) := rfl
theorem f_Mo_work_68 : fetch 81 68 = some (.iload_n 2, 1, 0, 0, 0) := rfl
theorem f_Mo_work_69 : fetch 81 69 = some (.bipush 28, 2, 0, 0, 0) := rfl
theorem f_Mo_work_71 : fetch 81 71 = some (.if_icmp .ne 7, 3, 78, 0, 0) := rfl
theorem f_Mo_work_74 : fetch 81 74 = some (.iconst 1, 1, 0, 0, 0) := rfl
theorem f_Mo_work_75 : fetch 81 75 = some (.goto 4, 3, 79, 0, 0) := rfl
theorem f_Mo_work_78 : fetch 81 78 = some (.iconst 0, 1, 0, 0, 0) := rfl
theorem f_Mo_work_79 : fetch 81 79 = some (.istore 6, 2, 0, 0, 0) := rfl
theorem f_Mo_work_81 : fetch 81 81 = some (.iload 6, 2, 0, 0, 0) := rfl
theorem f_Mo_work_83 : fetch 81 83 = some (.ifCond .eq 10, 3, 93, 0, 0) := rfl
theorem f_Mo_work_86 : fetch 81 86 = some (.aload_n 0, 1, 0, 0, 0) := rfl
theorem f_Mo_work_87 : fetch 81 87 = some (.invokevirtual 308, 3, 78, 0, 86) := rfl
theorem f_Mo_work_90 : fetch 81 90 = some (.goto 4, 3, 94, 0, 0) := rfl
theorem f_Mo_work_93 : fetch 81 93 = some (.iconst 0, 1, 0, 0, 0) := rfl
theorem f_Mo_work_94 : fetch 81 94 = some (.istore 7, 2, 0, 0, 0) := rfl
theorem f_Mo_work_96 : fetch 81 96 = some (.iload_n 2, 1, 0, 0, 0) := rfl
theorem f_Mo_work_97 : fetch 81 97 = some (.bipush 23, 2, 0, 0, 0) := rfl
theorem f_Mo_work_99 : fetch 81 99 = some (.if_icmp .ne 10, 3, 109, 0, 0) := rfl
theorem f_Mo_work_102 : fetch 81 102 = some (.aload_n 0, 1, 0, 0, 0) := rfl
theorem f_Mo_work_103 : fetch 81 103 = some (.invokevirtual 308, 3, 78, 0, 86) := rfl
theorem f_Mo_work_106 : fetch 81 106 = some (.goto 4, 3, 110, 0, 0) := rfl
theorem f_Mo_work_109 : fetch 81 109 = some (.iconst 0, 1, 0, 0, 0) := rfl
theorem f_Mo_work_110 : fetch 81 110 = some (.istore 8, 2, 0, 0, 0) := rfl
theorem f_Mo_work_112 : fetch 81 112 = some (.iload_n 2, 1, 0, 0, 0) := rfl
theorem f_Mo_work_113 : fetch 81 113 = some (.tableswitch 383 17 31 #[75, 83, 100, 121, 138, 193, 209, 228, 244, 278, 293, 305, 316, 326, 336], 75, 496, 0, 0) := rfl
theorem f_Mo_work_188 : fetch 81 188 = some (.aload_n 0, 1, 0, 0, 0) := rfl
theorem f_Mo_work_189 : fetch 81 189 = some (.iload_n 3, 1, 0, 0, 0) := rfl
theorem f_Mo_work_190 : fetch 81 190 = some (.invokevirtual 317, 3, 82, 1, 89) := rfl
theorem f_Mo_work_193 : fetch 81 193 = some (.goto 315, 3, 508, 0, 0) := rfl
theorem f_Mo_work_196 : fetch 81 196 = some (.aload_n 0, 1, 0, 0, 0) := rfl
theorem f_Mo_work_197 : fetch 81 197 = some (.aload_n 0, 1, 0, 0, 0) := rfl
theorem f_Mo_work_198 : fetch 81 198 = some (.iload 4, 2, 0, 0, 0) := rfl
theorem f_Mo_work_200 : fetch 81 200 = some (.iload_n 3, 1, 0, 0, 0) := rfl
theorem f_Mo_work_201 : fetch 81 201 = some (.iconst 4, 1, 0, 0, 0) := rfl
theorem f_Mo_work_202 : fetch 81 202 = some (.irem, 1, 0, 0, 0) := rfl
theorem f_Mo_work_203 : fetch 81 203 = some (.iconst 0, 1, 0, 0, 0) := rfl
theorem f_Mo_work_204 : fetch 81 204 = some (.invokevirtual 320, 3, 84, 3, 90) := rfl
theorem f_Mo_work_207 : fetch 81 207 = some (.invokevirtual 305, 3, 77, 1, 85) := rfl
theorem f_Mo_work_210 : fetch 81 210 = some (.goto 298, 3, 508, 0, 0) := rfl
theorem f_Mo_work_213 : fetch 81 213 = some (.aload_n 0, 1, 0, 0, 0) := rfl
theorem f_Mo_work_214 : fetch 81 214 = some (.aload_n 0, 1, 0, 0, 0) := rfl
theorem f_Mo_work_215 : fetch 81 215 = some (.iload 7, 2, 0, 0, 0) := rfl
theorem f_Mo_work_217 : fetch 81 217 = some (.iload_n 3, 1, 0, 0, 0) := rfl
theorem f_Mo_work_218 : fetch 81 218 = some (.iconst 4, 1, 0, 0, 0) := rfl
theorem f_Mo_work_219 : fetch 81 219 = some (.irem, 1, 0, 0, 0) := rfl
theorem f_Mo_work_220 : fetch 81 220 = some (.iconst 0, 1, 0, 0, 0) := rfl
theorem f_Mo_work_221 : fetch 81 221 = some (.invokevirtual 320, 3, 84, 3, 90) := rfl
theorem f_Mo_work_224 : fetch 81 224 = some (.iload 4, 2, 0, 0, 0) := rfl
theorem f_Mo_work_226 : fetch 81 226 = some (.iload 5, 2, 0, 0, 0) := rfl
theorem f_Mo_work_228 : fetch 81 228 = some (.invokevirtual 311, 3, 79, 3, 87) := rfl
theorem f_Mo_work_231 : fetch 81 231 = some (.goto 277, 3, 508, 0, 0) := rfl
theorem f_Mo_work_234 : fetch 81 234 = some (.aload_n 0, 1, 0, 0, 0) := rfl
theorem f_Mo_work_235 : fetch 81 235 = some (.aload_n 0, 1, 0, 0, 0) := rfl
theorem f_Mo_work_236 : fetch 81 236 = some (.iload 4, 2, 0, 0, 0) := rfl
theorem f_Mo_work_238 : fetch 81 238 = some (.iload_n 3, 1, 0, 0, 0) := rfl
theorem f_Mo_work_239 : fetch 81 239 = some (.iconst 4, 1, 0, 0, 0) := rfl
theorem f_Mo_work_240 : fetch 81 240 = some (.irem, 1, 0, 0, 0) := rfl
theorem f_Mo_work_241 : fetch 81 241 = some (.iconst 0, 1, 0, 0, 0) := rfl
theorem f_Mo_work_242 : fetch 81 242 = some (.invokevirtual 320, 3, 84, 3, 90) := rfl
theorem f_Mo_work_245 : fetch 81 245 = some (.invokevirtual 324, 3, 85, 1, 91) := rfl
theorem f_Mo_work_248 : fetch 81 248 = some (.goto 260, 3, 508, 0, 0) := rfl
theorem f_Mo_work_251 : fetch 81 251 = some (.aload_n 0, 1, 0, 0, 0) := rfl
theorem f_Mo_work_252 : fetch 81 252 = some (.iload 4, 2, 0, 0, 0) := rfl
theorem f_Mo_work_254 : fetch 81 254 = some (.ifCond .lt 10, 3, 264, 0, 0) := rfl
theorem f_Mo_work_257 : fetch 81 257 = some (.iload 4, 2, 0, 0, 0) := rfl
theorem f_Mo_work_259 : fetch 81 259 = some (.bipush 20, 2, 0, 0, 0) := rfl
theorem f_Mo_work_261 : fetch 81 261 = some (.if_icmp .le 7, 3, 268, 0, 0) := rfl
theorem f_Mo_work_264 : fetch 81 264 = some (.iconst 3, 1, 0, 0, 0) := rfl
theorem f_Mo_work_265 : fetch 81 265 = some (.goto 4, 3, 269, 0, 0) := rfl
theorem f_Mo_work_268 : fetch 81 268 = some (.iconst 0, 1, 0, 0, 0) := rfl
theorem f_Mo_work_269 : fetch 81 269 = some (.putfield 287, 3, 8, 44, 72) := rfl
theorem f_Mo_work_272 : fetch 81 272 = some (.aload_n 0, 1, 0, 0, 0) := rfl
theorem f_Mo_work_273 : fetch 81 273 = some (.getfield 287, 3, 8, 44, 72) := rfl
theorem f_Mo_work_276 : fetch 81 276 = some (.ifCond .le 7, 3, 283, 0, 0) := rfl
theorem f_Mo_work_279 : fetch 81 279 = some (.iconst (-1), 1, 0, 0, 0) := rfl
theorem f_Mo_work_280 : fetch 81 280 = some (.goto 9, 3, 289, 0, 0) := rfl
theorem f_Mo_work_283 : fetch 81 283 = some (.aload_n 0, 1, 0, 0, 0) := rfl
theorem f_Mo_work_284 : fetch 81 284 = some (.iload 4, 2, 0, 0, 0) := rfl
theorem f_Mo_work_286 : fetch 81 286 = some (.invokevirtual 327, 3, 83, 1, 92) := rfl
theorem f_Mo_work_289 : fetch 81 289 = some (.istore 9, 2, 0, 0, 0) := rfl
theorem f_Mo_work_291 : fetch 81 291 = some (.iload 9, 2, 0, 0, 0) := rfl
theorem f_Mo_work_293 : fetch 81 293 = some (.ifCond .lt 215, 3, 508, 0, 0) := rfl
theorem f_Mo_work_296 : fetch 81 296 = some (.aload_n 0, 1, 0, 0, 0) := rfl
theorem f_Mo_work_297 : fetch 81 297 = some (.iload 9, 2, 0, 0, 0) := rfl
theorem f_Mo_work_299 : fetch 81 299 = some (.iconst 0, 1, 0, 0, 0) := rfl
theorem f_Mo_work_300 : fetch 81 300 = some (.invokevirtual 290, 3, 76, 2, 84) := rfl
theorem f_Mo_work_303 : fetch 81 303 = some (.goto 205, 3, 508, 0, 0) := rfl
theorem f_Mo_work_306 : fetch 81 306 = some (.aload_n 0, 1, 0, 0, 0) := rfl
theorem f_Mo_work_307 : fetch 81 307 = some (.aload_n 0, 1, 0, 0, 0) := rfl
theorem f_Mo_work_308 : fetch 81 308 = some (.iload 7, 2, 0, 0, 0) := rfl
theorem f_Mo_work_310 : fetch 81 310 = some (.iload 4, 2, 0, 0, 0) := rfl
theorem f_Mo_work_312 : fetch 81 312 = some (.iconst 1, 1, 0, 0, 0) := rfl
theorem f_Mo_work_313 : fetch 81 313 = some (.invokevirtual 320, 3, 84, 3, 90) := rfl
theorem f_Mo_work_316 : fetch 81 316 = some (.invokevirtual 305, 3, 77, 1, 85) := rfl
theorem f_Mo_work_319 : fetch 81 319 = some (.goto 189, 3, 508, 0, 0) := rfl
theorem f_Mo_work_322 : fetch 81 322 = some (.aload_n 0, 1, 0, 0, 0) := rfl
theorem f_Mo_work_323 : fetch 81 323 = some (.aload_n 0, 1, 0, 0, 0) := rfl
theorem f_Mo_work_324 : fetch 81 324 = some (.iload 8, 2, 0, 0, 0) := rfl
theorem f_Mo_work_326 : fetch 81 326 = some (.iload 7, 2, 0, 0, 0) := rfl
theorem f_Mo_work_328 : fetch 81 328 = some (.iconst 1, 1, 0, 0, 0) := rfl
theorem f_Mo_work_329 : fetch 81 329 = some (.invokevirtual 320, 3, 84, 3, 90) := rfl
theorem f_Mo_work_332 : fetch 81 332 = some (.iload 4, 2, 0, 0, 0) := rfl
theorem f_Mo_work_334 : fetch 81 334 = some (.iconst 0, 1, 0, 0, 0) := rfl
theorem f_Mo_work_335 : fetch 81 335 = some (.invokevirtual 311, 3, 79, 3, 87) := rfl
theorem f_Mo_work_338 : fetch 81 338 = some (.goto 170, 3, 508, 0, 0) := rfl
theorem f_Mo_work_341 : fetch 81 341 = some (.aload_n 0, 1, 0, 0, 0) := rfl
theorem f_Mo_work_342 : fetch 81 342 = some (.aload_n 0, 1, 0, 0, 0) := rfl
theorem f_Mo_work_343 : fetch 81 343 = some (.iload 7, 2, 0, 0, 0) := rfl
theorem f_Mo_work_345 : fetch 81 345 = some (.iload 4, 2, 0, 0, 0) := rfl
theorem f_Mo_work_347 : fetch 81 347 = some (.iconst 1, 1, 0, 0, 0) := rfl
theorem f_Mo_work_348 : fetch 81 348 = some (.invokevirtual 320, 3, 84, 3, 90) := rfl
theorem f_Mo_work_351 : fetch 81 351 = some (.invokevirtual 324, 3, 85, 1, 91) := rfl
theorem f_Mo_work_354 : fetch 81 354 = some (.goto 154, 3, 508, 0, 0) := rfl
theorem f_Mo_work_357 : fetch 81 357 = some (.aload_n 0, 1, 0, 0, 0) := rfl
theorem f_Mo_work_358 : fetch 81 358 = some (.iload 4, 2, 0, 0, 0) := rfl
theorem f_Mo_work_360 : fetch 81 360 = some (.ifCond .ge 7, 3, 367, 0, 0) := rfl
theorem f_Mo_work_363 : fetch 81 363 = some (.iconst 2, 1, 0, 0, 0) := rfl
theorem f_Mo_work_364 : fetch 81 364 = some (.goto 4, 3, 368, 0, 0) := rfl
theorem f_Mo_work_367 : fetch 81 367 = some (.iconst 0, 1, 0, 0, 0) := rfl
theorem f_Mo_work_368 : fetch 81 368 = some (.putfield 287, 3, 8, 44, 72) := rfl
theorem f_Mo_work_371 : fetch 81 371 = some (.iload 4, 2, 0, 0, 0) := rfl
theorem f_Mo_work_373 : fetch 81 373 = some (.ifCond .lt 135, 3, 508, 0, 0) := rfl
theorem f_Mo_work_376 : fetch 81 376 = some (.aload_n 0, 1, 0, 0, 0) := rfl
theorem f_Mo_work_377 : fetch 81 377 = some (.aload_n 0, 1, 0, 0, 0) := rfl
theorem f_Mo_work_378 : fetch 81 378 = some (.getfield 90, 3, 8, 39, 53) := rfl
theorem f_Mo_work_381 : fetch 81 381 = some (.iload 4, 2, 0, 0, 0) := rfl
theorem f_Mo_work_383 : fetch 81 383 = some (.iaload, 1, 0, 0, 0) := rfl
theorem f_Mo_work_384 : fetch 81 384 = some (.iconst 0, 1, 0, 0, 0) := rfl
theorem f_Mo_work_385 : fetch 81 385 = some (.invokevirtual 290, 3, 76, 2, 84) := rfl
theorem f_Mo_work_388 : fetch 81 388 = some (.goto 120, 3, 508, 0, 0) := rfl
theorem f_Mo_work_391 : fetch 81 391 = some (.aload_n 0, 1, 0, 0, 0) := rfl
theorem f_Mo_work_392 : fetch 81 392 = some (.aload_n 0, 1, 0, 0, 0) := rfl
theorem f_Mo_work_393 : fetch 81 393 = some (.getfield 84, 3, 8, 37, 51) := rfl
theorem f_Mo_work_396 : fetch 81 396 = some (.iload 4, 2, 0, 0, 0) := rfl
theorem f_Mo_work_398 : fetch 81 398 = some (.iaload, 1, 0, 0, 0) := rfl
theorem f_Mo_work_399 : fetch 81 399 = some (.iconst 0, 1, 0, 0, 0) := rfl
theorem f_Mo_work_400 : fetch 81 400 = some (.invokevirtual 290, 3, 76, 2, 84) := rfl
theorem f_Mo_work_403 : fetch 81 403 = some (.goto 105, 3, 508, 0, 0) := rfl
theorem f_Mo_work_406 : fetch 81 406 = some (.aload_n 0, 1, 0, 0, 0) := rfl
theorem f_Mo_work_407 : fetch 81 407 = some (.getfield 84, 3, 8, 37, 51) := rfl
theorem f_Mo_work_410 : fetch 81 410 = some (.iload 7, 2, 0, 0, 0) := rfl
theorem f_Mo_work_412 : fetch 81 412 = some (.iload 4, 2, 0, 0, 0) := rfl
theorem f_Mo_work_414 : fetch 81 414 = some (.iastore, 1, 0, 0, 0) := rfl
theorem f_Mo_work_415 : fetch 81 415 = some (.goto 93, 3, 508, 0, 0) := rfl
theorem f_Mo_work_418 : fetch 81 418 = some (.aload_n 0, 1, 0, 0, 0) := rfl
theorem f_Mo_work_419 : fetch 81 419 = some (.iload 7, 2, 0, 0, 0) := rfl
theorem f_Mo_work_421 : fetch 81 421 = some (.iload 4, 2, 0, 0, 0) := rfl
theorem f_Mo_work_423 : fetch 81 423 = some (.invokevirtual 290, 3, 76, 2, 84) := rfl
theorem f_Mo_work_426 : fetch 81 426 = some (.goto 82, 3, 508, 0, 0) := rfl
theorem f_Mo_work_429 : fetch 81 429 = some (.aload_n 0, 1, 0, 0, 0) := rfl
theorem f_Mo_work_430 : fetch 81 430 = some (.iload 4, 2, 0, 0, 0) := rfl
theorem f_Mo_work_432 : fetch 81 432 = some (.iconst 0, 1, 0, 0, 0) := rfl
theorem f_Mo_work_433 : fetch 81 433 = some (.invokevirtual 290, 3, 76, 2, 84) := rfl
theorem f_Mo_work_436 : fetch 81 436 = some (.goto 72, 3, 508, 0, 0) := rfl
theorem f_Mo_work_439 : fetch 81 439 = some (.aload_n 0, 1, 0, 0, 0) := rfl
theorem f_Mo_work_440 : fetch 81 440 = some (.iload 5, 2, 0, 0, 0) := rfl
theorem f_Mo_work_442 : fetch 81 442 = some (.iconst 0, 1, 0, 0, 0) := rfl
theorem f_Mo_work_443 : fetch 81 443 = some (.invokevirtual 290, 3, 76, 2, 84) := rfl
theorem f_Mo_work_446 : fetch 81 446 = some (.goto 62, 3, 508, 0, 0) := rfl
theorem f_Mo_work_449 : fetch 81 449 = some (.aload_n 0, 1, 0, 0, 0) := rfl
theorem f_Mo_work_450 : fetch 81 450 = some (.iconst 1, 1, 0, 0, 0) := rfl
theorem f_Mo_work_451 : fetch 81 451 = some (.invokevirtual 327, 3, 83, 1, 92) := rfl
theorem f_Mo_work_454 : fetch 81 454 = some (.istore 9, 2, 0, 0, 0) := rfl
theorem f_Mo_work_456 : fetch 81 456 = some (.aload_n 0, 1, 0, 0, 0) := rfl
theorem f_Mo_work_457 : fetch 81 457 = some (.iload 9, 2, 0, 0, 0) := rfl
theorem f_Mo_work_459 : fetch 81 459 = some (.ifCond .ge 7, 3, 466, 0, 0) := rfl
theorem f_Mo_work_462 : fetch 81 462 = some (.iconst (-1), 1, 0, 0, 0) := rfl
theorem f_Mo_work_463 : fetch 81 463 = some (.goto 11, 3, 474, 0, 0) := rfl
theorem f_Mo_work_466 : fetch 81 466 = some (.bipush 56, 2, 0, 0, 0) := rfl
theorem f_Mo_work_468 : fetch 81 468 = some (.bipush 20, 2, 0, 0, 0) := rfl
theorem f_Mo_work_470 : fetch 81 470 = some (.iload 9, 2, 0, 0, 0) := rfl
theorem f_Mo_work_472 : fetch 81 472 = some (.imul, 1, 0, 0, 0) := rfl
theorem f_Mo_work_473 : fetch 81 473 = some (.iadd, 1, 0, 0, 0) := rfl
theorem f_Mo_work_474 : fetch 81 474 = some (.iload 4, 2, 0, 0, 0) := rfl
theorem f_Mo_work_476 : fetch 81 476 = some (.iload 5, 2, 0, 0, 0) := rfl
theorem f_Mo_work_478 : fetch 81 478 = some (.invokevirtual 311, 3, 79, 3, 87) := rfl
theorem f_Mo_work_481 : fetch 81 481 = some (.iload 9, 2, 0, 0, 0) := rfl
theorem f_Mo_work_483 : fetch 81 483 = some (.ifCond .lt 25, 3, 508, 0, 0) := rfl
theorem f_Mo_work_486 : fetch 81 486 = some (.aload_n 0, 1, 0, 0, 0) := rfl
theorem f_Mo_work_487 : fetch 81 487 = some (.iload 9, 2, 0, 0, 0) := rfl
theorem f_Mo_work_489 : fetch 81 489 = some (.iconst 0, 1, 0, 0, 0) := rfl
theorem f_Mo_work_490 : fetch 81 490 = some (.invokevirtual 290, 3, 76, 2, 84) := rfl
theorem f_Mo_work_493 : fetch 81 493 = some (.goto 15, 3, 508, 0, 0) := rfl
theorem f_Mo_work_496 : fetch 81 496 = some (.aload_n 0, 1, 0, 0, 0) := rfl
theorem f_Mo_work_497 : fetch 81 497 = some (.aload_n 0, 1, 0, 0, 0) := rfl
theorem f_Mo_work_498 : fetch 81 498 = some (.iload 4, 2, 0, 0, 0) := rfl
theorem f_Mo_work_500 : fetch 81 500 = some (.iconst 0, 1, 0, 0, 0) := rfl
theorem f_Mo_work_501 : fetch 81 501 = some (.iconst 0, 1, 0, 0, 0) := rfl
theorem f_Mo_work_502 : fetch 81 502 = some (.invokevirtual 320, 3, 84, 3, 90) := rfl
theorem f_Mo_work_505 : fetch 81 505 = some (.invokevirtual 305, 3, 77, 1, 85) := rfl
theorem f_Mo_work_508 : fetch 81 508 = some (.return_, 1, 0, 0, 0) := rfl
def F_Mo_work_508   (σ : SG) : Option (SG) :=
  some σ
set_option maxHeartbeats 4000000 in
theorem w_Mo_work_508 {b d : Nat} {sc : SC} {pre tl : List PE} {B : Nat} {Q : Option Value → List PE → Prop} {res : SG} (hB : B = b + pre.length) (hd : 2 ≤ d)   (hQ : Q none (HH pre tl SHm B res)) (lv : LV) (σ : SG)   (hF : F_Mo_work_508   σ = some res) : Rn b sc d 81 508 lv [] (HH pre tl SHm B σ) Q := by
  obtain ⟨e0, rfl⟩ : ∃ e, d = e + 1 := ⟨d - 1, by omega⟩
  unfold F_Mo_work_508 at hF
  cases hF
  exact r_return f_Mo_work_508 hQ
def F_Mo_work_474  (x0 : Nat) (x4 : Int32) (x5 : Int32) (x9 : Int32) (y0 : Nat) (y1 : Int32) (σ : SG) : Option (SG) :=
  match F_Mo_setCell (y0) (y1) (x4) (x5) σ with
  | none => none
  | some q1 =>
  if x9 < 0 then
  F_Mo_work_508 q1
  else match F_Mo_put (x0) (x9) ((0 : Int32)) q1 with
  | none => none
  | some q3 =>
  F_Mo_work_508 q3
set_option maxHeartbeats 4000000 in
theorem w_Mo_work_474 {b d : Nat} {sc : SC} {pre tl : List PE} {B : Nat} {Q : Option Value → List PE → Prop} {res : SG} (hB : B = b + pre.length) (hd : 2 ≤ d)   (hQ : Q none (HH pre tl SHm B res)) (lv : LV) (σ : SG) (x0 : Nat) (x4 : Int32) (x5 : Int32) (x9 : Int32) (y0 : Nat) (y1 : Int32) (hx0 : isC SHm (x0) 8 = true) (hy0 : isC SHm (y0) 8 = true) (l0 : lv.lookup 0 = some (.ref (B + (x0)))) (l4 : lv.lookup 4 = some (.int (x4))) (l5 : lv.lookup 5 = some (.int (x5))) (l9 : lv.lookup 9 = some (.int (x9))) (hF : F_Mo_work_474  x0 x4 x5 x9 y0 y1 σ = some res) : Rn b sc d 81 474 lv [.int (y1), .ref (B + (y0))] (HH pre tl SHm B σ) Q := by
  obtain ⟨e0, rfl⟩ : ∃ e, d = e + 1 := ⟨d - 1, by omega⟩
  unfold F_Mo_work_474 at hF
  refine r_iload f_Mo_work_474 l4 ?_
  refine r_iload f_Mo_work_476 l5 ?_
  cases hq1 : F_Mo_setCell (y0) (y1) (x4) (x5) σ with
  | none => simp only [hq1] at hF; cases hF
  | some q1 =>
    simp only [hq1] at hF
    refine t_V3v hB hy0 rfl rfl f_Mo_work_478 (by decide) (Nat.le_of_ble_eq_true rfl) (Nat.le_of_ble_eq_true rfl) (w_Mo_setCell hB  (y0) (y1) (x4) (x5) hy0 hq1 ⟨rfl, ?_⟩)
    refine r_iload f_Mo_work_481 l9 ?_
    refine r_if_lt f_Mo_work_483 (fun c2 => ?_) (fun c2 => ?_)
    · rw [if_pos c2] at hF
      exact w_Mo_work_508 hB hd  hQ _ (q1) hF
    · rw [if_neg c2] at hF
      refine r_aload_n f_Mo_work_486 l0 ?_
      refine r_iload f_Mo_work_487 l9 ?_
      refine r_iconst f_Mo_work_489 (v := 0) (by decide) ?_
      cases hq3 : F_Mo_put (x0) (x9) ((0 : Int32)) q1 with
      | none => simp only [hq3] at hF; cases hF
      | some q3 =>
        simp only [hq3] at hF
        refine t_V2v hB hx0 rfl rfl f_Mo_work_490 (by decide) (Nat.le_of_ble_eq_true rfl) (Nat.le_of_ble_eq_true rfl) (w_Mo_put hB  (x0) (x9) ((0 : Int32)) hx0 hq3 ⟨rfl, ?_⟩)
        refine r_goto f_Mo_work_493 ?_
        exact w_Mo_work_508 hB hd  hQ _ (q3) hF
def F_Mo_work_368  (x0 : Nat) (x4 : Int32) (y0 : Nat) (y1 : Int32) (σ : SG) : Option (SG) :=
  stl (setI σ (y0) 44 (y1)) fun s4 =>
  if x4 < 0 then
  F_Mo_work_508 s4
  else if x4 < 0 ∨ 40 ≤ (x4).toNatClampNeg then none else
  match F_Mo_put (x0) ((s4.2.2.2.1 ((cref SHm (x0) 39)) ((x4).toNatClampNeg))) ((0 : Int32)) s4 with
  | none => none
  | some q7 =>
  F_Mo_work_508 q7
set_option maxHeartbeats 4000000 in
theorem w_Mo_work_368 {b d : Nat} {sc : SC} {pre tl : List PE} {B : Nat} {Q : Option Value → List PE → Prop} {res : SG} (hB : B = b + pre.length) (hd : 2 ≤ d)   (hQ : Q none (HH pre tl SHm B res)) (lv : LV) (σ : SG) (x0 : Nat) (x4 : Int32) (y0 : Nat) (y1 : Int32) (hx0 : isC SHm (x0) 8 = true) (hy0 : isC SHm (y0) 8 = true) (l0 : lv.lookup 0 = some (.ref (B + (x0)))) (l4 : lv.lookup 4 = some (.int (x4))) (hF : F_Mo_work_368  x0 x4 y0 y1 σ = some res) : Rn b sc d 81 368 lv [.int (y1), .ref (B + (y0))] (HH pre tl SHm B σ) Q := by
  obtain ⟨e0, rfl⟩ : ∃ e, d = e + 1 := ⟨d - 1, by omega⟩
  unfold F_Mo_work_368 at hF
  refine t_puti hB hy0 f_Mo_work_368 rfl rfl ?_
  generalize hs4 : setI σ (y0) 44 (y1) = s4 at hF ⊢
  rw [stl_eq] at hF
  refine r_iload f_Mo_work_371 l4 ?_
  refine r_if_lt f_Mo_work_373 (fun c5 => ?_) (fun c5 => ?_)
  · rw [if_pos c5] at hF
    exact w_Mo_work_508 hB hd  hQ _ (s4) hF
  · rw [if_neg c5] at hF
    refine r_aload_n f_Mo_work_376 l0 ?_
    refine r_aload_n f_Mo_work_377 l0 ?_
    refine t_getc hB hx0 f_Mo_work_378 rfl ?_
    refine r_iload f_Mo_work_381 l4 ?_
    by_cases c6 : x4 < 0 ∨ 40 ≤ (x4).toNatClampNeg
    · rw [if_pos c6] at hF; cases hF
    rw [if_neg c6] at hF
    refine t_iald hB (cc_8_39 hx0) f_Mo_work_383 c6 ?_
    refine r_iconst f_Mo_work_384 (v := 0) (by decide) ?_
    cases hq7 : F_Mo_put (x0) ((s4.2.2.2.1 ((cref SHm (x0) 39)) ((x4).toNatClampNeg))) ((0 : Int32)) s4 with
    | none => simp only [hq7] at hF; cases hF
    | some q7 =>
      simp only [hq7] at hF
      refine t_V2v hB hx0 rfl rfl f_Mo_work_385 (by decide) (Nat.le_of_ble_eq_true rfl) (Nat.le_of_ble_eq_true rfl) (w_Mo_put hB  (x0) ((s4.2.2.2.1 ((cref SHm (x0) 39)) ((x4).toNatClampNeg))) ((0 : Int32)) hx0 hq7 ⟨rfl, ?_⟩)
      refine r_goto f_Mo_work_388 ?_
      exact w_Mo_work_508 hB hd  hQ _ (q7) hF
def F_Mo_work_289  (x0 : Nat) (y0 : Int32) (σ : SG) : Option (SG) :=
  if y0 < 0 then
  F_Mo_work_508 σ
  else match F_Mo_put (x0) (y0) ((0 : Int32)) σ with
  | none => none
  | some q9 =>
  F_Mo_work_508 q9
set_option maxHeartbeats 4000000 in
theorem w_Mo_work_289 {b d : Nat} {sc : SC} {pre tl : List PE} {B : Nat} {Q : Option Value → List PE → Prop} {res : SG} (hB : B = b + pre.length) (hd : 2 ≤ d)   (hQ : Q none (HH pre tl SHm B res)) (lv : LV) (σ : SG) (x0 : Nat) (y0 : Int32) (hx0 : isC SHm (x0) 8 = true) (l0 : lv.lookup 0 = some (.ref (B + (x0)))) (hF : F_Mo_work_289  x0 y0 σ = some res) : Rn b sc d 81 289 lv [.int (y0)] (HH pre tl SHm B σ) Q := by
  obtain ⟨e0, rfl⟩ : ∃ e, d = e + 1 := ⟨d - 1, by omega⟩
  unfold F_Mo_work_289 at hF
  refine r_istore f_Mo_work_289 ?_
  refine r_iload f_Mo_work_291 lk_put ?_
  refine r_if_lt f_Mo_work_293 (fun c8 => ?_) (fun c8 => ?_)
  · rw [if_pos c8] at hF
    exact w_Mo_work_508 hB hd  hQ _ (σ) hF
  · rw [if_neg c8] at hF
    refine r_aload_n f_Mo_work_296 (lk_put_ne l0 (by decide) (Or.inl rfl)) ?_
    refine r_iload f_Mo_work_297 lk_put ?_
    refine r_iconst f_Mo_work_299 (v := 0) (by decide) ?_
    cases hq9 : F_Mo_put (x0) (y0) ((0 : Int32)) σ with
    | none => simp only [hq9] at hF; cases hF
    | some q9 =>
      simp only [hq9] at hF
      refine t_V2v hB hx0 rfl rfl f_Mo_work_300 (by decide) (Nat.le_of_ble_eq_true rfl) (Nat.le_of_ble_eq_true rfl) (w_Mo_put hB  (x0) (y0) ((0 : Int32)) hx0 hq9 ⟨rfl, ?_⟩)
      refine r_goto f_Mo_work_303 ?_
      exact w_Mo_work_508 hB hd  hQ _ (q9) hF
def F_Mo_work_269  (x0 : Nat) (x4 : Int32) (y0 : Nat) (y1 : Int32) (σ : SG) : Option (SG) :=
  stl (setI σ (y0) 44 (y1)) fun s10 =>
  if (s10.1 (x0) 44) ≤ 0 then
  match F_Mo_make (x0) (x4) s10 with
  | none => none
  | some q12 =>
  F_Mo_work_289 (x0) (q12.1) q12.2
  else F_Mo_work_289 (x0) (((-1) : Int32)) s10
set_option maxHeartbeats 4000000 in
theorem w_Mo_work_269 {b d : Nat} {sc : SC} {pre tl : List PE} {B : Nat} {Q : Option Value → List PE → Prop} {res : SG} (hB : B = b + pre.length) (hd : 2 ≤ d)   (hQ : Q none (HH pre tl SHm B res)) (lv : LV) (σ : SG) (x0 : Nat) (x4 : Int32) (y0 : Nat) (y1 : Int32) (hx0 : isC SHm (x0) 8 = true) (hy0 : isC SHm (y0) 8 = true) (l0 : lv.lookup 0 = some (.ref (B + (x0)))) (l4 : lv.lookup 4 = some (.int (x4))) (hF : F_Mo_work_269  x0 x4 y0 y1 σ = some res) : Rn b sc d 81 269 lv [.int (y1), .ref (B + (y0))] (HH pre tl SHm B σ) Q := by
  obtain ⟨e0, rfl⟩ : ∃ e, d = e + 1 := ⟨d - 1, by omega⟩
  unfold F_Mo_work_269 at hF
  refine t_puti hB hy0 f_Mo_work_269 rfl rfl ?_
  generalize hs10 : setI σ (y0) 44 (y1) = s10 at hF ⊢
  rw [stl_eq] at hF
  refine r_aload_n f_Mo_work_272 l0 ?_
  refine t_geti hB hx0 f_Mo_work_273 rfl ?_
  refine r_if_le f_Mo_work_276 (fun c11 => ?_) (fun c11 => ?_)
  · rw [if_pos c11] at hF
    refine r_aload_n f_Mo_work_283 l0 ?_
    refine r_iload f_Mo_work_284 l4 ?_
    cases hq12 : F_Mo_make (x0) (x4) s10 with
    | none => simp only [hq12] at hF; cases hF
    | some q12 =>
      simp only [hq12] at hF
      refine t_V1i hB hx0 rfl rfl f_Mo_work_286 (by decide) (Nat.le_of_ble_eq_true rfl) (Nat.le_of_ble_eq_true rfl) (w_Mo_make hB  (x0) (x4) hx0 hq12 ⟨_, rfl, ?_⟩)
      exact w_Mo_work_289 hB hd  hQ _ (q12.2) (x0) (q12.1) hx0 l0 hF
  · rw [if_neg c11] at hF
    refine r_iconst f_Mo_work_279 (v := (-1)) (by decide) ?_
    refine r_goto f_Mo_work_280 ?_
    exact w_Mo_work_289 hB hd  hQ _ (s10) (x0) (((-1) : Int32)) hx0 l0 hF
def F_Mo_work_264  (x0 : Nat) (x4 : Int32) (y0 : Nat) (σ : SG) : Option (SG) :=
  F_Mo_work_269 (x0) (x4) (y0) ((3 : Int32)) σ
set_option maxHeartbeats 4000000 in
theorem w_Mo_work_264 {b d : Nat} {sc : SC} {pre tl : List PE} {B : Nat} {Q : Option Value → List PE → Prop} {res : SG} (hB : B = b + pre.length) (hd : 2 ≤ d)   (hQ : Q none (HH pre tl SHm B res)) (lv : LV) (σ : SG) (x0 : Nat) (x4 : Int32) (y0 : Nat) (hx0 : isC SHm (x0) 8 = true) (hy0 : isC SHm (y0) 8 = true) (l0 : lv.lookup 0 = some (.ref (B + (x0)))) (l4 : lv.lookup 4 = some (.int (x4))) (hF : F_Mo_work_264  x0 x4 y0 σ = some res) : Rn b sc d 81 264 lv [.ref (B + (y0))] (HH pre tl SHm B σ) Q := by
  obtain ⟨e0, rfl⟩ : ∃ e, d = e + 1 := ⟨d - 1, by omega⟩
  unfold F_Mo_work_264 at hF
  refine r_iconst f_Mo_work_264 (v := 3) (by decide) ?_
  refine r_goto f_Mo_work_265 ?_
  exact w_Mo_work_269 hB hd  hQ _ (σ) (x0) (x4) (y0) ((3 : Int32)) hx0 hy0 l0 l4 hF
def F_Mo_work_110  (x0 : Nat) (x2 : Int32) (x3 : Int32) (x4 : Int32) (x5 : Int32) (x7 : Int32) (y0 : Int32) (σ : SG) : Option (SG) :=
  if x2 = 17 then
  match F_Mo_create (x0) (x3) σ with
  | none => none
  | some q14 =>
  F_Mo_work_508 q14
  else if x2 = 18 then
  match F_Mo_cellOf (x0) (x4) ((x3 - x3 / (4 : Int32) * (4 : Int32))) (false) σ with
  | none => none
  | some q16 =>
  match F_Mo_putCell (x0) (q16.1) q16.2 with
  | none => none
  | some q17 =>
  F_Mo_work_508 q17
  else if x2 = 19 then
  match F_Mo_cellOf (x0) (x7) ((x3 - x3 / (4 : Int32) * (4 : Int32))) (false) σ with
  | none => none
  | some q19 =>
  match F_Mo_setCell (x0) (q19.1) (x4) (x5) q19.2 with
  | none => none
  | some q20 =>
  F_Mo_work_508 q20
  else if x2 = 20 then
  match F_Mo_cellOf (x0) (x4) ((x3 - x3 / (4 : Int32) * (4 : Int32))) (false) σ with
  | none => none
  | some q22 =>
  match F_Mo_putPlace (x0) (q22.1) q22.2 with
  | none => none
  | some q23 =>
  F_Mo_work_508 q23
  else if x2 = 21 then
  if x4 < 0 then
  F_Mo_work_264 (x0) (x4) (x0) σ
  else if x4 ≤ (20 : Int32) then
  F_Mo_work_269 (x0) (x4) (x0) ((0 : Int32)) σ
  else F_Mo_work_264 (x0) (x4) (x0) σ
  else if x2 = 22 then
  match F_Mo_cellOf (x0) (x7) (x4) (true) σ with
  | none => none
  | some q28 =>
  match F_Mo_putCell (x0) (q28.1) q28.2 with
  | none => none
  | some q29 =>
  F_Mo_work_508 q29
  else if x2 = 23 then
  match F_Mo_cellOf (x0) (y0) (x7) (true) σ with
  | none => none
  | some q31 =>
  match F_Mo_setCell (x0) (q31.1) (x4) ((0 : Int32)) q31.2 with
  | none => none
  | some q32 =>
  F_Mo_work_508 q32
  else if x2 = 24 then
  match F_Mo_cellOf (x0) (x7) (x4) (true) σ with
  | none => none
  | some q34 =>
  match F_Mo_putPlace (x0) (q34.1) q34.2 with
  | none => none
  | some q35 =>
  F_Mo_work_508 q35
  else if x2 = 25 then
  if 0 ≤ x4 then
  F_Mo_work_368 (x0) (x4) (x0) ((0 : Int32)) σ
  else F_Mo_work_368 (x0) (x4) (x0) ((2 : Int32)) σ
  else if x2 = 26 then
  if x4 < 0 ∨ 856 ≤ (x4).toNatClampNeg then none else
  match F_Mo_put (x0) ((σ.2.2.2.1 ((cref SHm (x0) 37)) ((x4).toNatClampNeg))) ((0 : Int32)) σ with
  | none => none
  | some q40 =>
  F_Mo_work_508 q40
  else if x2 = 27 then
  if x7 < 0 ∨ 856 ≤ (x7).toNatClampNeg then none else
  stl (setA σ ((cref SHm (x0) 37)) ((x7).toNatClampNeg) (x4)) fun s43 =>
  F_Mo_work_508 s43
  else if x2 = 28 then
  match F_Mo_put (x0) (x7) (x4) σ with
  | none => none
  | some q45 =>
  F_Mo_work_508 q45
  else if x2 = 29 then
  match F_Mo_put (x0) (x4) ((0 : Int32)) σ with
  | none => none
  | some q47 =>
  F_Mo_work_508 q47
  else if x2 = 30 then
  match F_Mo_put (x0) (x5) ((0 : Int32)) σ with
  | none => none
  | some q49 =>
  F_Mo_work_508 q49
  else if x2 = 31 then
  match F_Mo_make (x0) ((1 : Int32)) σ with
  | none => none
  | some q51 =>
  if 0 ≤ q51.1 then
  F_Mo_work_474 (x0) (x4) (x5) (q51.1) (x0) (((56 : Int32) + ((20 : Int32) * q51.1))) q51.2
  else F_Mo_work_474 (x0) (x4) (x5) (q51.1) (x0) (((-1) : Int32)) q51.2
  else match F_Mo_cellOf (x0) (x4) ((0 : Int32)) (false) σ with
  | none => none
  | some q53 =>
  match F_Mo_putCell (x0) (q53.1) q53.2 with
  | none => none
  | some q54 =>
  F_Mo_work_508 q54
set_option maxHeartbeats 4000000 in
theorem w_Mo_work_110 {b d : Nat} {sc : SC} {pre tl : List PE} {B : Nat} {Q : Option Value → List PE → Prop} {res : SG} (hB : B = b + pre.length) (hd : 2 ≤ d)   (hQ : Q none (HH pre tl SHm B res)) (lv : LV) (σ : SG) (x0 : Nat) (x2 : Int32) (x3 : Int32) (x4 : Int32) (x5 : Int32) (x7 : Int32) (y0 : Int32) (hx0 : isC SHm (x0) 8 = true) (l0 : lv.lookup 0 = some (.ref (B + (x0)))) (l2 : lv.lookup 2 = some (.int (x2))) (l3 : lv.lookup 3 = some (.int (x3))) (l4 : lv.lookup 4 = some (.int (x4))) (l5 : lv.lookup 5 = some (.int (x5))) (l7 : lv.lookup 7 = some (.int (x7))) (hF : F_Mo_work_110  x0 x2 x3 x4 x5 x7 y0 σ = some res) : Rn b sc d 81 110 lv [.int (y0)] (HH pre tl SHm B σ) Q := by
  obtain ⟨e0, rfl⟩ : ∃ e, d = e + 1 := ⟨d - 1, by omega⟩
  unfold F_Mo_work_110 at hF
  refine r_istore f_Mo_work_110 ?_
  refine r_iload_n f_Mo_work_112 (lk_put_ne l2 (by decide) (Or.inl rfl)) ?_
  by_cases c13 : x2 = 17
  · rw [if_pos c13] at hF
    refine r_tswI (t := 188) (off := 75) 0 f_Mo_work_113 (by rw [c13]; decide) (by rw [c13]; decide) (by rfl) (by decide) ?_
    refine r_aload_n f_Mo_work_188 (lk_put_ne l0 (by decide) (Or.inl rfl)) ?_
    refine r_iload_n f_Mo_work_189 (lk_put_ne l3 (by decide) (Or.inl rfl)) ?_
    cases hq14 : F_Mo_create (x0) (x3) σ with
    | none => simp only [hq14] at hF; cases hF
    | some q14 =>
      simp only [hq14] at hF
      refine t_V1v hB hx0 rfl rfl f_Mo_work_190 (by decide) (Nat.le_of_ble_eq_true rfl) (Nat.le_of_ble_eq_true rfl) (w_Mo_create hB (by omega) (x0) (x3) hx0 hq14 ⟨rfl, ?_⟩)
      refine r_goto f_Mo_work_193 ?_
      exact w_Mo_work_508 hB hd  hQ _ (q14) hF
  rw [if_neg c13] at hF
  by_cases c15 : x2 = 18
  · rw [if_pos c15] at hF
    refine r_tswI (t := 196) (off := 83) 1 f_Mo_work_113 (by rw [c15]; decide) (by rw [c15]; decide) (by rfl) (by decide) ?_
    refine r_aload_n f_Mo_work_196 (lk_put_ne l0 (by decide) (Or.inl rfl)) ?_
    refine r_aload_n f_Mo_work_197 (lk_put_ne l0 (by decide) (Or.inl rfl)) ?_
    refine r_iload f_Mo_work_198 (lk_put_ne l4 (by decide) (Or.inl rfl)) ?_
    refine r_iload_n f_Mo_work_200 (lk_put_ne l3 (by decide) (Or.inl rfl)) ?_
    refine r_iconst f_Mo_work_201 (v := 4) (by decide) ?_
    refine r_irem f_Mo_work_202 (by decide) ?_
    refine r_iconst f_Mo_work_203 (v := 0) (by decide) ?_
    cases hq16 : F_Mo_cellOf (x0) (x4) ((x3 - x3 / (4 : Int32) * (4 : Int32))) (false) σ with
    | none => simp only [hq16] at hF; cases hF
    | some q16 =>
      simp only [hq16] at hF
      refine t_V3i hB hx0 rfl rfl f_Mo_work_204 (by decide) (Nat.le_of_ble_eq_true rfl) (Nat.le_of_ble_eq_true rfl) (w_Mo_cellOf hB  (x0) (x4) ((x3 - x3 / (4 : Int32) * (4 : Int32))) (false) hx0 hq16 ⟨_, rfl, ?_⟩)
      cases hq17 : F_Mo_putCell (x0) (q16.1) q16.2 with
      | none => simp only [hq17] at hF; cases hF
      | some q17 =>
        simp only [hq17] at hF
        refine t_V1v hB hx0 rfl rfl f_Mo_work_207 (by decide) (Nat.le_of_ble_eq_true rfl) (Nat.le_of_ble_eq_true rfl) (w_Mo_putCell hB (by omega) (x0) (q16.1) hx0 hq17 ⟨rfl, ?_⟩)
        refine r_goto f_Mo_work_210 ?_
        exact w_Mo_work_508 hB hd  hQ _ (q17) hF
  rw [if_neg c15] at hF
  by_cases c18 : x2 = 19
  · rw [if_pos c18] at hF
    refine r_tswI (t := 213) (off := 100) 2 f_Mo_work_113 (by rw [c18]; decide) (by rw [c18]; decide) (by rfl) (by decide) ?_
    refine r_aload_n f_Mo_work_213 (lk_put_ne l0 (by decide) (Or.inl rfl)) ?_
    refine r_aload_n f_Mo_work_214 (lk_put_ne l0 (by decide) (Or.inl rfl)) ?_
    refine r_iload f_Mo_work_215 (lk_put_ne l7 (by decide) (Or.inl rfl)) ?_
    refine r_iload_n f_Mo_work_217 (lk_put_ne l3 (by decide) (Or.inl rfl)) ?_
    refine r_iconst f_Mo_work_218 (v := 4) (by decide) ?_
    refine r_irem f_Mo_work_219 (by decide) ?_
    refine r_iconst f_Mo_work_220 (v := 0) (by decide) ?_
    cases hq19 : F_Mo_cellOf (x0) (x7) ((x3 - x3 / (4 : Int32) * (4 : Int32))) (false) σ with
    | none => simp only [hq19] at hF; cases hF
    | some q19 =>
      simp only [hq19] at hF
      refine t_V3i hB hx0 rfl rfl f_Mo_work_221 (by decide) (Nat.le_of_ble_eq_true rfl) (Nat.le_of_ble_eq_true rfl) (w_Mo_cellOf hB  (x0) (x7) ((x3 - x3 / (4 : Int32) * (4 : Int32))) (false) hx0 hq19 ⟨_, rfl, ?_⟩)
      refine r_iload f_Mo_work_224 (lk_put_ne l4 (by decide) (Or.inl rfl)) ?_
      refine r_iload f_Mo_work_226 (lk_put_ne l5 (by decide) (Or.inl rfl)) ?_
      cases hq20 : F_Mo_setCell (x0) (q19.1) (x4) (x5) q19.2 with
      | none => simp only [hq20] at hF; cases hF
      | some q20 =>
        simp only [hq20] at hF
        refine t_V3v hB hx0 rfl rfl f_Mo_work_228 (by decide) (Nat.le_of_ble_eq_true rfl) (Nat.le_of_ble_eq_true rfl) (w_Mo_setCell hB  (x0) (q19.1) (x4) (x5) hx0 hq20 ⟨rfl, ?_⟩)
        refine r_goto f_Mo_work_231 ?_
        exact w_Mo_work_508 hB hd  hQ _ (q20) hF
  rw [if_neg c18] at hF
  by_cases c21 : x2 = 20
  · rw [if_pos c21] at hF
    refine r_tswI (t := 234) (off := 121) 3 f_Mo_work_113 (by rw [c21]; decide) (by rw [c21]; decide) (by rfl) (by decide) ?_
    refine r_aload_n f_Mo_work_234 (lk_put_ne l0 (by decide) (Or.inl rfl)) ?_
    refine r_aload_n f_Mo_work_235 (lk_put_ne l0 (by decide) (Or.inl rfl)) ?_
    refine r_iload f_Mo_work_236 (lk_put_ne l4 (by decide) (Or.inl rfl)) ?_
    refine r_iload_n f_Mo_work_238 (lk_put_ne l3 (by decide) (Or.inl rfl)) ?_
    refine r_iconst f_Mo_work_239 (v := 4) (by decide) ?_
    refine r_irem f_Mo_work_240 (by decide) ?_
    refine r_iconst f_Mo_work_241 (v := 0) (by decide) ?_
    cases hq22 : F_Mo_cellOf (x0) (x4) ((x3 - x3 / (4 : Int32) * (4 : Int32))) (false) σ with
    | none => simp only [hq22] at hF; cases hF
    | some q22 =>
      simp only [hq22] at hF
      refine t_V3i hB hx0 rfl rfl f_Mo_work_242 (by decide) (Nat.le_of_ble_eq_true rfl) (Nat.le_of_ble_eq_true rfl) (w_Mo_cellOf hB  (x0) (x4) ((x3 - x3 / (4 : Int32) * (4 : Int32))) (false) hx0 hq22 ⟨_, rfl, ?_⟩)
      cases hq23 : F_Mo_putPlace (x0) (q22.1) q22.2 with
      | none => simp only [hq23] at hF; cases hF
      | some q23 =>
        simp only [hq23] at hF
        refine t_V1v hB hx0 rfl rfl f_Mo_work_245 (by decide) (Nat.le_of_ble_eq_true rfl) (Nat.le_of_ble_eq_true rfl) (w_Mo_putPlace hB (by omega) (x0) (q22.1) hx0 hq23 ⟨rfl, ?_⟩)
        refine r_goto f_Mo_work_248 ?_
        exact w_Mo_work_508 hB hd  hQ _ (q23) hF
  rw [if_neg c21] at hF
  by_cases c24 : x2 = 21
  · rw [if_pos c24] at hF
    refine r_tswI (t := 251) (off := 138) 4 f_Mo_work_113 (by rw [c24]; decide) (by rw [c24]; decide) (by rfl) (by decide) ?_
    refine r_aload_n f_Mo_work_251 (lk_put_ne l0 (by decide) (Or.inl rfl)) ?_
    refine r_iload f_Mo_work_252 (lk_put_ne l4 (by decide) (Or.inl rfl)) ?_
    refine r_if_lt f_Mo_work_254 (fun c25 => ?_) (fun c25 => ?_)
    · rw [if_pos c25] at hF
      exact w_Mo_work_264 hB hd  hQ _ (σ) (x0) (x4) (x0) hx0 hx0 (lk_put_ne l0 (by decide) (Or.inl rfl)) (lk_put_ne l4 (by decide) (Or.inl rfl)) hF
    · rw [if_neg c25] at hF
      refine r_iload f_Mo_work_257 (lk_put_ne l4 (by decide) (Or.inl rfl)) ?_
      refine r_bipush f_Mo_work_259 (v := 20) (by decide) ?_
      refine r_icmp_le f_Mo_work_261 (fun c26 => ?_) (fun c26 => ?_)
      · rw [if_pos c26] at hF
        refine r_iconst f_Mo_work_268 (v := 0) (by decide) ?_
        exact w_Mo_work_269 hB hd  hQ _ (σ) (x0) (x4) (x0) ((0 : Int32)) hx0 hx0 (lk_put_ne l0 (by decide) (Or.inl rfl)) (lk_put_ne l4 (by decide) (Or.inl rfl)) hF
      · rw [if_neg c26] at hF
        exact w_Mo_work_264 hB hd  hQ _ (σ) (x0) (x4) (x0) hx0 hx0 (lk_put_ne l0 (by decide) (Or.inl rfl)) (lk_put_ne l4 (by decide) (Or.inl rfl)) hF
  rw [if_neg c24] at hF
  by_cases c27 : x2 = 22
  · rw [if_pos c27] at hF
    refine r_tswI (t := 306) (off := 193) 5 f_Mo_work_113 (by rw [c27]; decide) (by rw [c27]; decide) (by rfl) (by decide) ?_
    refine r_aload_n f_Mo_work_306 (lk_put_ne l0 (by decide) (Or.inl rfl)) ?_
    refine r_aload_n f_Mo_work_307 (lk_put_ne l0 (by decide) (Or.inl rfl)) ?_
    refine r_iload f_Mo_work_308 (lk_put_ne l7 (by decide) (Or.inl rfl)) ?_
    refine r_iload f_Mo_work_310 (lk_put_ne l4 (by decide) (Or.inl rfl)) ?_
    refine r_iconst f_Mo_work_312 (v := 1) (by decide) ?_
    cases hq28 : F_Mo_cellOf (x0) (x7) (x4) (true) σ with
    | none => simp only [hq28] at hF; cases hF
    | some q28 =>
      simp only [hq28] at hF
      refine t_V3i hB hx0 rfl rfl f_Mo_work_313 (by decide) (Nat.le_of_ble_eq_true rfl) (Nat.le_of_ble_eq_true rfl) (w_Mo_cellOf hB  (x0) (x7) (x4) (true) hx0 hq28 ⟨_, rfl, ?_⟩)
      cases hq29 : F_Mo_putCell (x0) (q28.1) q28.2 with
      | none => simp only [hq29] at hF; cases hF
      | some q29 =>
        simp only [hq29] at hF
        refine t_V1v hB hx0 rfl rfl f_Mo_work_316 (by decide) (Nat.le_of_ble_eq_true rfl) (Nat.le_of_ble_eq_true rfl) (w_Mo_putCell hB (by omega) (x0) (q28.1) hx0 hq29 ⟨rfl, ?_⟩)
        refine r_goto f_Mo_work_319 ?_
        exact w_Mo_work_508 hB hd  hQ _ (q29) hF
  rw [if_neg c27] at hF
  by_cases c30 : x2 = 23
  · rw [if_pos c30] at hF
    refine r_tswI (t := 322) (off := 209) 6 f_Mo_work_113 (by rw [c30]; decide) (by rw [c30]; decide) (by rfl) (by decide) ?_
    refine r_aload_n f_Mo_work_322 (lk_put_ne l0 (by decide) (Or.inl rfl)) ?_
    refine r_aload_n f_Mo_work_323 (lk_put_ne l0 (by decide) (Or.inl rfl)) ?_
    refine r_iload f_Mo_work_324 lk_put ?_
    refine r_iload f_Mo_work_326 (lk_put_ne l7 (by decide) (Or.inl rfl)) ?_
    refine r_iconst f_Mo_work_328 (v := 1) (by decide) ?_
    cases hq31 : F_Mo_cellOf (x0) (y0) (x7) (true) σ with
    | none => simp only [hq31] at hF; cases hF
    | some q31 =>
      simp only [hq31] at hF
      refine t_V3i hB hx0 rfl rfl f_Mo_work_329 (by decide) (Nat.le_of_ble_eq_true rfl) (Nat.le_of_ble_eq_true rfl) (w_Mo_cellOf hB  (x0) (y0) (x7) (true) hx0 hq31 ⟨_, rfl, ?_⟩)
      refine r_iload f_Mo_work_332 (lk_put_ne l4 (by decide) (Or.inl rfl)) ?_
      refine r_iconst f_Mo_work_334 (v := 0) (by decide) ?_
      cases hq32 : F_Mo_setCell (x0) (q31.1) (x4) ((0 : Int32)) q31.2 with
      | none => simp only [hq32] at hF; cases hF
      | some q32 =>
        simp only [hq32] at hF
        refine t_V3v hB hx0 rfl rfl f_Mo_work_335 (by decide) (Nat.le_of_ble_eq_true rfl) (Nat.le_of_ble_eq_true rfl) (w_Mo_setCell hB  (x0) (q31.1) (x4) ((0 : Int32)) hx0 hq32 ⟨rfl, ?_⟩)
        refine r_goto f_Mo_work_338 ?_
        exact w_Mo_work_508 hB hd  hQ _ (q32) hF
  rw [if_neg c30] at hF
  by_cases c33 : x2 = 24
  · rw [if_pos c33] at hF
    refine r_tswI (t := 341) (off := 228) 7 f_Mo_work_113 (by rw [c33]; decide) (by rw [c33]; decide) (by rfl) (by decide) ?_
    refine r_aload_n f_Mo_work_341 (lk_put_ne l0 (by decide) (Or.inl rfl)) ?_
    refine r_aload_n f_Mo_work_342 (lk_put_ne l0 (by decide) (Or.inl rfl)) ?_
    refine r_iload f_Mo_work_343 (lk_put_ne l7 (by decide) (Or.inl rfl)) ?_
    refine r_iload f_Mo_work_345 (lk_put_ne l4 (by decide) (Or.inl rfl)) ?_
    refine r_iconst f_Mo_work_347 (v := 1) (by decide) ?_
    cases hq34 : F_Mo_cellOf (x0) (x7) (x4) (true) σ with
    | none => simp only [hq34] at hF; cases hF
    | some q34 =>
      simp only [hq34] at hF
      refine t_V3i hB hx0 rfl rfl f_Mo_work_348 (by decide) (Nat.le_of_ble_eq_true rfl) (Nat.le_of_ble_eq_true rfl) (w_Mo_cellOf hB  (x0) (x7) (x4) (true) hx0 hq34 ⟨_, rfl, ?_⟩)
      cases hq35 : F_Mo_putPlace (x0) (q34.1) q34.2 with
      | none => simp only [hq35] at hF; cases hF
      | some q35 =>
        simp only [hq35] at hF
        refine t_V1v hB hx0 rfl rfl f_Mo_work_351 (by decide) (Nat.le_of_ble_eq_true rfl) (Nat.le_of_ble_eq_true rfl) (w_Mo_putPlace hB (by omega) (x0) (q34.1) hx0 hq35 ⟨rfl, ?_⟩)
        refine r_goto f_Mo_work_354 ?_
        exact w_Mo_work_508 hB hd  hQ _ (q35) hF
  rw [if_neg c33] at hF
  by_cases c36 : x2 = 25
  · rw [if_pos c36] at hF
    refine r_tswI (t := 357) (off := 244) 8 f_Mo_work_113 (by rw [c36]; decide) (by rw [c36]; decide) (by rfl) (by decide) ?_
    refine r_aload_n f_Mo_work_357 (lk_put_ne l0 (by decide) (Or.inl rfl)) ?_
    refine r_iload f_Mo_work_358 (lk_put_ne l4 (by decide) (Or.inl rfl)) ?_
    refine r_if_ge f_Mo_work_360 (fun c37 => ?_) (fun c37 => ?_)
    · rw [if_pos c37] at hF
      refine r_iconst f_Mo_work_367 (v := 0) (by decide) ?_
      exact w_Mo_work_368 hB hd  hQ _ (σ) (x0) (x4) (x0) ((0 : Int32)) hx0 hx0 (lk_put_ne l0 (by decide) (Or.inl rfl)) (lk_put_ne l4 (by decide) (Or.inl rfl)) hF
    · rw [if_neg c37] at hF
      refine r_iconst f_Mo_work_363 (v := 2) (by decide) ?_
      refine r_goto f_Mo_work_364 ?_
      exact w_Mo_work_368 hB hd  hQ _ (σ) (x0) (x4) (x0) ((2 : Int32)) hx0 hx0 (lk_put_ne l0 (by decide) (Or.inl rfl)) (lk_put_ne l4 (by decide) (Or.inl rfl)) hF
  rw [if_neg c36] at hF
  by_cases c38 : x2 = 26
  · rw [if_pos c38] at hF
    refine r_tswI (t := 391) (off := 278) 9 f_Mo_work_113 (by rw [c38]; decide) (by rw [c38]; decide) (by rfl) (by decide) ?_
    refine r_aload_n f_Mo_work_391 (lk_put_ne l0 (by decide) (Or.inl rfl)) ?_
    refine r_aload_n f_Mo_work_392 (lk_put_ne l0 (by decide) (Or.inl rfl)) ?_
    refine t_getc hB hx0 f_Mo_work_393 rfl ?_
    refine r_iload f_Mo_work_396 (lk_put_ne l4 (by decide) (Or.inl rfl)) ?_
    by_cases c39 : x4 < 0 ∨ 856 ≤ (x4).toNatClampNeg
    · rw [if_pos c39] at hF; cases hF
    rw [if_neg c39] at hF
    refine t_iald hB (cc_8_37 hx0) f_Mo_work_398 c39 ?_
    refine r_iconst f_Mo_work_399 (v := 0) (by decide) ?_
    cases hq40 : F_Mo_put (x0) ((σ.2.2.2.1 ((cref SHm (x0) 37)) ((x4).toNatClampNeg))) ((0 : Int32)) σ with
    | none => simp only [hq40] at hF; cases hF
    | some q40 =>
      simp only [hq40] at hF
      refine t_V2v hB hx0 rfl rfl f_Mo_work_400 (by decide) (Nat.le_of_ble_eq_true rfl) (Nat.le_of_ble_eq_true rfl) (w_Mo_put hB  (x0) ((σ.2.2.2.1 ((cref SHm (x0) 37)) ((x4).toNatClampNeg))) ((0 : Int32)) hx0 hq40 ⟨rfl, ?_⟩)
      refine r_goto f_Mo_work_403 ?_
      exact w_Mo_work_508 hB hd  hQ _ (q40) hF
  rw [if_neg c38] at hF
  by_cases c41 : x2 = 27
  · rw [if_pos c41] at hF
    refine r_tswI (t := 406) (off := 293) 10 f_Mo_work_113 (by rw [c41]; decide) (by rw [c41]; decide) (by rfl) (by decide) ?_
    refine r_aload_n f_Mo_work_406 (lk_put_ne l0 (by decide) (Or.inl rfl)) ?_
    refine t_getc hB hx0 f_Mo_work_407 rfl ?_
    refine r_iload f_Mo_work_410 (lk_put_ne l7 (by decide) (Or.inl rfl)) ?_
    refine r_iload f_Mo_work_412 (lk_put_ne l4 (by decide) (Or.inl rfl)) ?_
    by_cases c42 : x7 < 0 ∨ 856 ≤ (x7).toNatClampNeg
    · rw [if_pos c42] at hF; cases hF
    rw [if_neg c42] at hF
    refine t_iast hB (cc_8_37 hx0) f_Mo_work_414 c42 ?_
    generalize hs43 : setA σ ((cref SHm (x0) 37)) ((x7).toNatClampNeg) (x4) = s43 at hF ⊢
    rw [stl_eq] at hF
    refine r_goto f_Mo_work_415 ?_
    exact w_Mo_work_508 hB hd  hQ _ (s43) hF
  rw [if_neg c41] at hF
  by_cases c44 : x2 = 28
  · rw [if_pos c44] at hF
    refine r_tswI (t := 418) (off := 305) 11 f_Mo_work_113 (by rw [c44]; decide) (by rw [c44]; decide) (by rfl) (by decide) ?_
    refine r_aload_n f_Mo_work_418 (lk_put_ne l0 (by decide) (Or.inl rfl)) ?_
    refine r_iload f_Mo_work_419 (lk_put_ne l7 (by decide) (Or.inl rfl)) ?_
    refine r_iload f_Mo_work_421 (lk_put_ne l4 (by decide) (Or.inl rfl)) ?_
    cases hq45 : F_Mo_put (x0) (x7) (x4) σ with
    | none => simp only [hq45] at hF; cases hF
    | some q45 =>
      simp only [hq45] at hF
      refine t_V2v hB hx0 rfl rfl f_Mo_work_423 (by decide) (Nat.le_of_ble_eq_true rfl) (Nat.le_of_ble_eq_true rfl) (w_Mo_put hB  (x0) (x7) (x4) hx0 hq45 ⟨rfl, ?_⟩)
      refine r_goto f_Mo_work_426 ?_
      exact w_Mo_work_508 hB hd  hQ _ (q45) hF
  rw [if_neg c44] at hF
  by_cases c46 : x2 = 29
  · rw [if_pos c46] at hF
    refine r_tswI (t := 429) (off := 316) 12 f_Mo_work_113 (by rw [c46]; decide) (by rw [c46]; decide) (by rfl) (by decide) ?_
    refine r_aload_n f_Mo_work_429 (lk_put_ne l0 (by decide) (Or.inl rfl)) ?_
    refine r_iload f_Mo_work_430 (lk_put_ne l4 (by decide) (Or.inl rfl)) ?_
    refine r_iconst f_Mo_work_432 (v := 0) (by decide) ?_
    cases hq47 : F_Mo_put (x0) (x4) ((0 : Int32)) σ with
    | none => simp only [hq47] at hF; cases hF
    | some q47 =>
      simp only [hq47] at hF
      refine t_V2v hB hx0 rfl rfl f_Mo_work_433 (by decide) (Nat.le_of_ble_eq_true rfl) (Nat.le_of_ble_eq_true rfl) (w_Mo_put hB  (x0) (x4) ((0 : Int32)) hx0 hq47 ⟨rfl, ?_⟩)
      refine r_goto f_Mo_work_436 ?_
      exact w_Mo_work_508 hB hd  hQ _ (q47) hF
  rw [if_neg c46] at hF
  by_cases c48 : x2 = 30
  · rw [if_pos c48] at hF
    refine r_tswI (t := 439) (off := 326) 13 f_Mo_work_113 (by rw [c48]; decide) (by rw [c48]; decide) (by rfl) (by decide) ?_
    refine r_aload_n f_Mo_work_439 (lk_put_ne l0 (by decide) (Or.inl rfl)) ?_
    refine r_iload f_Mo_work_440 (lk_put_ne l5 (by decide) (Or.inl rfl)) ?_
    refine r_iconst f_Mo_work_442 (v := 0) (by decide) ?_
    cases hq49 : F_Mo_put (x0) (x5) ((0 : Int32)) σ with
    | none => simp only [hq49] at hF; cases hF
    | some q49 =>
      simp only [hq49] at hF
      refine t_V2v hB hx0 rfl rfl f_Mo_work_443 (by decide) (Nat.le_of_ble_eq_true rfl) (Nat.le_of_ble_eq_true rfl) (w_Mo_put hB  (x0) (x5) ((0 : Int32)) hx0 hq49 ⟨rfl, ?_⟩)
      refine r_goto f_Mo_work_446 ?_
      exact w_Mo_work_508 hB hd  hQ _ (q49) hF
  rw [if_neg c48] at hF
  by_cases c50 : x2 = 31
  · rw [if_pos c50] at hF
    refine r_tswI (t := 449) (off := 336) 14 f_Mo_work_113 (by rw [c50]; decide) (by rw [c50]; decide) (by rfl) (by decide) ?_
    refine r_aload_n f_Mo_work_449 (lk_put_ne l0 (by decide) (Or.inl rfl)) ?_
    refine r_iconst f_Mo_work_450 (v := 1) (by decide) ?_
    cases hq51 : F_Mo_make (x0) ((1 : Int32)) σ with
    | none => simp only [hq51] at hF; cases hF
    | some q51 =>
      simp only [hq51] at hF
      refine t_V1i hB hx0 rfl rfl f_Mo_work_451 (by decide) (Nat.le_of_ble_eq_true rfl) (Nat.le_of_ble_eq_true rfl) (w_Mo_make hB  (x0) ((1 : Int32)) hx0 hq51 ⟨_, rfl, ?_⟩)
      refine r_istore f_Mo_work_454 ?_
      refine r_aload_n f_Mo_work_456 (lk_put_ne (lk_put_ne l0 (by decide) (Or.inl rfl)) (by decide) (Or.inl rfl)) ?_
      refine r_iload f_Mo_work_457 lk_put ?_
      refine r_if_ge f_Mo_work_459 (fun c52 => ?_) (fun c52 => ?_)
      · rw [if_pos c52] at hF
        refine r_bipush f_Mo_work_466 (v := 56) (by decide) ?_
        refine r_bipush f_Mo_work_468 (v := 20) (by decide) ?_
        refine r_iload f_Mo_work_470 lk_put ?_
        refine r_imul f_Mo_work_472 ?_
        refine r_iadd f_Mo_work_473 ?_
        exact w_Mo_work_474 hB hd  hQ _ (q51.2) (x0) (x4) (x5) (q51.1) (x0) (((56 : Int32) + ((20 : Int32) * q51.1))) hx0 hx0 (lk_put_ne (lk_put_ne l0 (by decide) (Or.inl rfl)) (by decide) (Or.inl rfl)) (lk_put_ne (lk_put_ne l4 (by decide) (Or.inl rfl)) (by decide) (Or.inl rfl)) (lk_put_ne (lk_put_ne l5 (by decide) (Or.inl rfl)) (by decide) (Or.inl rfl)) lk_put hF
      · rw [if_neg c52] at hF
        refine r_iconst f_Mo_work_462 (v := (-1)) (by decide) ?_
        refine r_goto f_Mo_work_463 ?_
        exact w_Mo_work_474 hB hd  hQ _ (q51.2) (x0) (x4) (x5) (q51.1) (x0) (((-1) : Int32)) hx0 hx0 (lk_put_ne (lk_put_ne l0 (by decide) (Or.inl rfl)) (by decide) (Or.inl rfl)) (lk_put_ne (lk_put_ne l4 (by decide) (Or.inl rfl)) (by decide) (Or.inl rfl)) (lk_put_ne (lk_put_ne l5 (by decide) (Or.inl rfl)) (by decide) (Or.inl rfl)) lk_put hF
  rw [if_neg c50] at hF
  refine r_tswO f_Mo_work_113 (by have zc13 := lv_neT c13 (by decide : (17 : Int32).toInt = 17); have zc15 := lv_neT c15 (by decide : (18 : Int32).toInt = 18); have zc18 := lv_neT c18 (by decide : (19 : Int32).toInt = 19); have zc21 := lv_neT c21 (by decide : (20 : Int32).toInt = 20); have zc24 := lv_neT c24 (by decide : (21 : Int32).toInt = 21); have zc27 := lv_neT c27 (by decide : (22 : Int32).toInt = 22); have zc30 := lv_neT c30 (by decide : (23 : Int32).toInt = 23); have zc33 := lv_neT c33 (by decide : (24 : Int32).toInt = 24); have zc36 := lv_neT c36 (by decide : (25 : Int32).toInt = 25); have zc38 := lv_neT c38 (by decide : (26 : Int32).toInt = 26); have zc41 := lv_neT c41 (by decide : (27 : Int32).toInt = 27); have zc44 := lv_neT c44 (by decide : (28 : Int32).toInt = 28); have zc46 := lv_neT c46 (by decide : (29 : Int32).toInt = 29); have zc48 := lv_neT c48 (by decide : (30 : Int32).toInt = 30); have zc50 := lv_neT c50 (by decide : (31 : Int32).toInt = 31); omega) ?_
  refine r_aload_n f_Mo_work_496 (lk_put_ne l0 (by decide) (Or.inl rfl)) ?_
  refine r_aload_n f_Mo_work_497 (lk_put_ne l0 (by decide) (Or.inl rfl)) ?_
  refine r_iload f_Mo_work_498 (lk_put_ne l4 (by decide) (Or.inl rfl)) ?_
  refine r_iconst f_Mo_work_500 (v := 0) (by decide) ?_
  refine r_iconst f_Mo_work_501 (v := 0) (by decide) ?_
  cases hq53 : F_Mo_cellOf (x0) (x4) ((0 : Int32)) (false) σ with
  | none => simp only [hq53] at hF; cases hF
  | some q53 =>
    simp only [hq53] at hF
    refine t_V3i hB hx0 rfl rfl f_Mo_work_502 (by decide) (Nat.le_of_ble_eq_true rfl) (Nat.le_of_ble_eq_true rfl) (w_Mo_cellOf hB  (x0) (x4) ((0 : Int32)) (false) hx0 hq53 ⟨_, rfl, ?_⟩)
    cases hq54 : F_Mo_putCell (x0) (q53.1) q53.2 with
    | none => simp only [hq54] at hF; cases hF
    | some q54 =>
      simp only [hq54] at hF
      refine t_V1v hB hx0 rfl rfl f_Mo_work_505 (by decide) (Nat.le_of_ble_eq_true rfl) (Nat.le_of_ble_eq_true rfl) (w_Mo_putCell hB (by omega) (x0) (q53.1) hx0 hq54 ⟨rfl, ?_⟩)
      exact w_Mo_work_508 hB hd  hQ _ (q54) hF
def F_Mo_work_94  (x0 : Nat) (x2 : Int32) (x3 : Int32) (x4 : Int32) (x5 : Int32) (y0 : Int32) (σ : SG) : Option (SG) :=
  if x2 = (23 : Int32) then
  match F_Mo_get (x0) σ with
  | none => none
  | some q56 =>
  F_Mo_work_110 (x0) (x2) (x3) (x4) (x5) (y0) (q56.1) q56.2
  else F_Mo_work_110 (x0) (x2) (x3) (x4) (x5) (y0) ((0 : Int32)) σ
set_option maxHeartbeats 4000000 in
theorem w_Mo_work_94 {b d : Nat} {sc : SC} {pre tl : List PE} {B : Nat} {Q : Option Value → List PE → Prop} {res : SG} (hB : B = b + pre.length) (hd : 2 ≤ d)   (hQ : Q none (HH pre tl SHm B res)) (lv : LV) (σ : SG) (x0 : Nat) (x2 : Int32) (x3 : Int32) (x4 : Int32) (x5 : Int32) (y0 : Int32) (hx0 : isC SHm (x0) 8 = true) (l0 : lv.lookup 0 = some (.ref (B + (x0)))) (l2 : lv.lookup 2 = some (.int (x2))) (l3 : lv.lookup 3 = some (.int (x3))) (l4 : lv.lookup 4 = some (.int (x4))) (l5 : lv.lookup 5 = some (.int (x5))) (hF : F_Mo_work_94  x0 x2 x3 x4 x5 y0 σ = some res) : Rn b sc d 81 94 lv [.int (y0)] (HH pre tl SHm B σ) Q := by
  obtain ⟨e0, rfl⟩ : ∃ e, d = e + 1 := ⟨d - 1, by omega⟩
  unfold F_Mo_work_94 at hF
  refine r_istore f_Mo_work_94 ?_
  refine r_iload_n f_Mo_work_96 (lk_put_ne l2 (by decide) (Or.inl rfl)) ?_
  refine r_bipush f_Mo_work_97 (v := 23) (by decide) ?_
  refine r_icmp_ne f_Mo_work_99 (fun c55 => ?_) (fun c55 => ?_)
  · rw [if_neg c55] at hF
    refine r_iconst f_Mo_work_109 (v := 0) (by decide) ?_
    exact w_Mo_work_110 hB hd  hQ _ (σ) (x0) (x2) (x3) (x4) (x5) (y0) ((0 : Int32)) hx0 (lk_put_ne l0 (by decide) (Or.inl rfl)) (lk_put_ne l2 (by decide) (Or.inl rfl)) (lk_put_ne l3 (by decide) (Or.inl rfl)) (lk_put_ne l4 (by decide) (Or.inl rfl)) (lk_put_ne l5 (by decide) (Or.inl rfl)) lk_put hF
  · rw [if_pos (Decidable.not_not.mp c55)] at hF
    refine r_aload_n f_Mo_work_102 (lk_put_ne l0 (by decide) (Or.inl rfl)) ?_
    cases hq56 : F_Mo_get (x0) σ with
    | none => simp only [hq56] at hF; cases hF
    | some q56 =>
      simp only [hq56] at hF
      refine t_V0i hB hx0 rfl rfl f_Mo_work_103 (by decide) (Nat.le_of_ble_eq_true rfl) (Nat.le_of_ble_eq_true rfl) (w_Mo_get hB  (x0) hx0 hq56 ⟨_, rfl, ?_⟩)
      refine r_goto f_Mo_work_106 ?_
      exact w_Mo_work_110 hB hd  hQ _ (q56.2) (x0) (x2) (x3) (x4) (x5) (y0) (q56.1) hx0 (lk_put_ne l0 (by decide) (Or.inl rfl)) (lk_put_ne l2 (by decide) (Or.inl rfl)) (lk_put_ne l3 (by decide) (Or.inl rfl)) (lk_put_ne l4 (by decide) (Or.inl rfl)) (lk_put_ne l5 (by decide) (Or.inl rfl)) lk_put hF
def F_Mo_work_79  (x0 : Nat) (x2 : Int32) (x3 : Int32) (x4 : Int32) (x5 : Int32) (y0 : Bool) (σ : SG) : Option (SG) :=
  if y0 = true then
  match F_Mo_get (x0) σ with
  | none => none
  | some q58 =>
  F_Mo_work_94 (x0) (x2) (x3) (x4) (x5) (q58.1) q58.2
  else F_Mo_work_94 (x0) (x2) (x3) (x4) (x5) ((0 : Int32)) σ
set_option maxHeartbeats 4000000 in
theorem w_Mo_work_79 {b d : Nat} {sc : SC} {pre tl : List PE} {B : Nat} {Q : Option Value → List PE → Prop} {res : SG} (hB : B = b + pre.length) (hd : 2 ≤ d)   (hQ : Q none (HH pre tl SHm B res)) (lv : LV) (σ : SG) (x0 : Nat) (x2 : Int32) (x3 : Int32) (x4 : Int32) (x5 : Int32) (y0 : Bool) (hx0 : isC SHm (x0) 8 = true) (l0 : lv.lookup 0 = some (.ref (B + (x0)))) (l2 : lv.lookup 2 = some (.int (x2))) (l3 : lv.lookup 3 = some (.int (x3))) (l4 : lv.lookup 4 = some (.int (x4))) (l5 : lv.lookup 5 = some (.int (x5))) (hF : F_Mo_work_79  x0 x2 x3 x4 x5 y0 σ = some res) : Rn b sc d 81 79 lv [.int (bz (y0))] (HH pre tl SHm B σ) Q := by
  obtain ⟨e0, rfl⟩ : ∃ e, d = e + 1 := ⟨d - 1, by omega⟩
  unfold F_Mo_work_79 at hF
  refine r_istore f_Mo_work_79 ?_
  refine r_iload f_Mo_work_81 lk_put ?_
  refine r_if_eq f_Mo_work_83 (fun c57 => ?_) (fun c57 => ?_)
  · rw [if_neg (bz_nt c57)] at hF
    refine r_iconst f_Mo_work_93 (v := 0) (by decide) ?_
    exact w_Mo_work_94 hB hd  hQ _ (σ) (x0) (x2) (x3) (x4) (x5) ((0 : Int32)) hx0 (lk_put_ne l0 (by decide) (Or.inl rfl)) (lk_put_ne l2 (by decide) (Or.inl rfl)) (lk_put_ne l3 (by decide) (Or.inl rfl)) (lk_put_ne l4 (by decide) (Or.inl rfl)) (lk_put_ne l5 (by decide) (Or.inl rfl)) hF
  · rw [if_pos (bz_t c57)] at hF
    refine r_aload_n f_Mo_work_86 (lk_put_ne l0 (by decide) (Or.inl rfl)) ?_
    cases hq58 : F_Mo_get (x0) σ with
    | none => simp only [hq58] at hF; cases hF
    | some q58 =>
      simp only [hq58] at hF
      refine t_V0i hB hx0 rfl rfl f_Mo_work_87 (by decide) (Nat.le_of_ble_eq_true rfl) (Nat.le_of_ble_eq_true rfl) (w_Mo_get hB  (x0) hx0 hq58 ⟨_, rfl, ?_⟩)
      refine r_goto f_Mo_work_90 ?_
      exact w_Mo_work_94 hB hd  hQ _ (q58.2) (x0) (x2) (x3) (x4) (x5) (q58.1) hx0 (lk_put_ne l0 (by decide) (Or.inl rfl)) (lk_put_ne l2 (by decide) (Or.inl rfl)) (lk_put_ne l3 (by decide) (Or.inl rfl)) (lk_put_ne l4 (by decide) (Or.inl rfl)) (lk_put_ne l5 (by decide) (Or.inl rfl)) hF
def F_Mo_work_74  (x0 : Nat) (x2 : Int32) (x3 : Int32) (x4 : Int32) (x5 : Int32) (σ : SG) : Option (SG) :=
  F_Mo_work_79 (x0) (x2) (x3) (x4) (x5) (true) σ
set_option maxHeartbeats 4000000 in
theorem w_Mo_work_74 {b d : Nat} {sc : SC} {pre tl : List PE} {B : Nat} {Q : Option Value → List PE → Prop} {res : SG} (hB : B = b + pre.length) (hd : 2 ≤ d)   (hQ : Q none (HH pre tl SHm B res)) (lv : LV) (σ : SG) (x0 : Nat) (x2 : Int32) (x3 : Int32) (x4 : Int32) (x5 : Int32) (hx0 : isC SHm (x0) 8 = true) (l0 : lv.lookup 0 = some (.ref (B + (x0)))) (l2 : lv.lookup 2 = some (.int (x2))) (l3 : lv.lookup 3 = some (.int (x3))) (l4 : lv.lookup 4 = some (.int (x4))) (l5 : lv.lookup 5 = some (.int (x5))) (hF : F_Mo_work_74  x0 x2 x3 x4 x5 σ = some res) : Rn b sc d 81 74 lv [] (HH pre tl SHm B σ) Q := by
  obtain ⟨e0, rfl⟩ : ∃ e, d = e + 1 := ⟨d - 1, by omega⟩
  unfold F_Mo_work_74 at hF
  refine r_iconst f_Mo_work_74 (v := 1) (by decide) ?_
  refine r_goto f_Mo_work_75 ?_
  exact w_Mo_work_79 hB hd  hQ _ (σ) (x0) (x2) (x3) (x4) (x5) (true) hx0 l0 l2 l3 l4 l5 hF
def F_Mo_work_30  (x0 : Nat) (x2 : Int32) (x3 : Int32) (y0 : Int32) (σ : SG) : Option (SG) :=
  if x2 = (19 : Int32) then
  F_Mo_work_74 (x0) (x2) (x3) (y0) ((σ.1 (x0) 46)) σ
  else if x2 = (22 : Int32) then
  F_Mo_work_74 (x0) (x2) (x3) (y0) ((σ.1 (x0) 46)) σ
  else if x2 = (23 : Int32) then
  F_Mo_work_74 (x0) (x2) (x3) (y0) ((σ.1 (x0) 46)) σ
  else if x2 = (24 : Int32) then
  F_Mo_work_74 (x0) (x2) (x3) (y0) ((σ.1 (x0) 46)) σ
  else if x2 = (27 : Int32) then
  F_Mo_work_74 (x0) (x2) (x3) (y0) ((σ.1 (x0) 46)) σ
  else if x2 = (28 : Int32) then
  F_Mo_work_74 (x0) (x2) (x3) (y0) ((σ.1 (x0) 46)) σ
  else F_Mo_work_79 (x0) (x2) (x3) (y0) ((σ.1 (x0) 46)) (false) σ
set_option maxHeartbeats 4000000 in
theorem w_Mo_work_30 {b d : Nat} {sc : SC} {pre tl : List PE} {B : Nat} {Q : Option Value → List PE → Prop} {res : SG} (hB : B = b + pre.length) (hd : 2 ≤ d)   (hQ : Q none (HH pre tl SHm B res)) (lv : LV) (σ : SG) (x0 : Nat) (x2 : Int32) (x3 : Int32) (y0 : Int32) (hx0 : isC SHm (x0) 8 = true) (l0 : lv.lookup 0 = some (.ref (B + (x0)))) (l2 : lv.lookup 2 = some (.int (x2))) (l3 : lv.lookup 3 = some (.int (x3))) (hF : F_Mo_work_30  x0 x2 x3 y0 σ = some res) : Rn b sc d 81 30 lv [.int (y0)] (HH pre tl SHm B σ) Q := by
  obtain ⟨e0, rfl⟩ : ∃ e, d = e + 1 := ⟨d - 1, by omega⟩
  unfold F_Mo_work_30 at hF
  refine r_istore f_Mo_work_30 ?_
  refine r_aload_n f_Mo_work_32 (lk_put_ne l0 (by decide) (Or.inl rfl)) ?_
  refine t_geti hB hx0 f_Mo_work_33 rfl ?_
  refine r_istore f_Mo_work_36 ?_
  refine r_iload_n f_Mo_work_38 (lk_put_ne (lk_put_ne l2 (by decide) (Or.inl rfl)) (by decide) (Or.inl rfl)) ?_
  refine r_bipush f_Mo_work_39 (v := 19) (by decide) ?_
  refine r_icmp_eq f_Mo_work_41 (fun c59 => ?_) (fun c59 => ?_)
  · rw [if_pos c59] at hF
    exact w_Mo_work_74 hB hd  hQ _ (σ) (x0) (x2) (x3) (y0) ((σ.1 (x0) 46)) hx0 (lk_put_ne (lk_put_ne l0 (by decide) (Or.inl rfl)) (by decide) (Or.inl rfl)) (lk_put_ne (lk_put_ne l2 (by decide) (Or.inl rfl)) (by decide) (Or.inl rfl)) (lk_put_ne (lk_put_ne l3 (by decide) (Or.inl rfl)) (by decide) (Or.inl rfl)) (lk_put_ne lk_put (by decide) (Or.inl rfl)) lk_put hF
  · rw [if_neg c59] at hF
    refine r_iload_n f_Mo_work_44 (lk_put_ne (lk_put_ne l2 (by decide) (Or.inl rfl)) (by decide) (Or.inl rfl)) ?_
    refine r_bipush f_Mo_work_45 (v := 22) (by decide) ?_
    refine r_icmp_eq f_Mo_work_47 (fun c60 => ?_) (fun c60 => ?_)
    · rw [if_pos c60] at hF
      exact w_Mo_work_74 hB hd  hQ _ (σ) (x0) (x2) (x3) (y0) ((σ.1 (x0) 46)) hx0 (lk_put_ne (lk_put_ne l0 (by decide) (Or.inl rfl)) (by decide) (Or.inl rfl)) (lk_put_ne (lk_put_ne l2 (by decide) (Or.inl rfl)) (by decide) (Or.inl rfl)) (lk_put_ne (lk_put_ne l3 (by decide) (Or.inl rfl)) (by decide) (Or.inl rfl)) (lk_put_ne lk_put (by decide) (Or.inl rfl)) lk_put hF
    · rw [if_neg c60] at hF
      refine r_iload_n f_Mo_work_50 (lk_put_ne (lk_put_ne l2 (by decide) (Or.inl rfl)) (by decide) (Or.inl rfl)) ?_
      refine r_bipush f_Mo_work_51 (v := 23) (by decide) ?_
      refine r_icmp_eq f_Mo_work_53 (fun c61 => ?_) (fun c61 => ?_)
      · rw [if_pos c61] at hF
        exact w_Mo_work_74 hB hd  hQ _ (σ) (x0) (x2) (x3) (y0) ((σ.1 (x0) 46)) hx0 (lk_put_ne (lk_put_ne l0 (by decide) (Or.inl rfl)) (by decide) (Or.inl rfl)) (lk_put_ne (lk_put_ne l2 (by decide) (Or.inl rfl)) (by decide) (Or.inl rfl)) (lk_put_ne (lk_put_ne l3 (by decide) (Or.inl rfl)) (by decide) (Or.inl rfl)) (lk_put_ne lk_put (by decide) (Or.inl rfl)) lk_put hF
      · rw [if_neg c61] at hF
        refine r_iload_n f_Mo_work_56 (lk_put_ne (lk_put_ne l2 (by decide) (Or.inl rfl)) (by decide) (Or.inl rfl)) ?_
        refine r_bipush f_Mo_work_57 (v := 24) (by decide) ?_
        refine r_icmp_eq f_Mo_work_59 (fun c62 => ?_) (fun c62 => ?_)
        · rw [if_pos c62] at hF
          exact w_Mo_work_74 hB hd  hQ _ (σ) (x0) (x2) (x3) (y0) ((σ.1 (x0) 46)) hx0 (lk_put_ne (lk_put_ne l0 (by decide) (Or.inl rfl)) (by decide) (Or.inl rfl)) (lk_put_ne (lk_put_ne l2 (by decide) (Or.inl rfl)) (by decide) (Or.inl rfl)) (lk_put_ne (lk_put_ne l3 (by decide) (Or.inl rfl)) (by decide) (Or.inl rfl)) (lk_put_ne lk_put (by decide) (Or.inl rfl)) lk_put hF
        · rw [if_neg c62] at hF
          refine r_iload_n f_Mo_work_62 (lk_put_ne (lk_put_ne l2 (by decide) (Or.inl rfl)) (by decide) (Or.inl rfl)) ?_
          refine r_bipush f_Mo_work_63 (v := 27) (by decide) ?_
          refine r_icmp_eq f_Mo_work_65 (fun c63 => ?_) (fun c63 => ?_)
          · rw [if_pos c63] at hF
            exact w_Mo_work_74 hB hd  hQ _ (σ) (x0) (x2) (x3) (y0) ((σ.1 (x0) 46)) hx0 (lk_put_ne (lk_put_ne l0 (by decide) (Or.inl rfl)) (by decide) (Or.inl rfl)) (lk_put_ne (lk_put_ne l2 (by decide) (Or.inl rfl)) (by decide) (Or.inl rfl)) (lk_put_ne (lk_put_ne l3 (by decide) (Or.inl rfl)) (by decide) (Or.inl rfl)) (lk_put_ne lk_put (by decide) (Or.inl rfl)) lk_put hF
          · rw [if_neg c63] at hF
            refine r_iload_n f_Mo_work_68 (lk_put_ne (lk_put_ne l2 (by decide) (Or.inl rfl)) (by decide) (Or.inl rfl)) ?_
            refine r_bipush f_Mo_work_69 (v := 28) (by decide) ?_
            refine r_icmp_ne f_Mo_work_71 (fun c64 => ?_) (fun c64 => ?_)
            · rw [if_neg c64] at hF
              refine r_iconst f_Mo_work_78 (v := 0) (by decide) ?_
              exact w_Mo_work_79 hB hd  hQ _ (σ) (x0) (x2) (x3) (y0) ((σ.1 (x0) 46)) (false) hx0 (lk_put_ne (lk_put_ne l0 (by decide) (Or.inl rfl)) (by decide) (Or.inl rfl)) (lk_put_ne (lk_put_ne l2 (by decide) (Or.inl rfl)) (by decide) (Or.inl rfl)) (lk_put_ne (lk_put_ne l3 (by decide) (Or.inl rfl)) (by decide) (Or.inl rfl)) (lk_put_ne lk_put (by decide) (Or.inl rfl)) lk_put hF
            · rw [if_pos (Decidable.not_not.mp c64)] at hF
              exact w_Mo_work_74 hB hd  hQ _ (σ) (x0) (x2) (x3) (y0) ((σ.1 (x0) 46)) hx0 (lk_put_ne (lk_put_ne l0 (by decide) (Or.inl rfl)) (by decide) (Or.inl rfl)) (lk_put_ne (lk_put_ne l2 (by decide) (Or.inl rfl)) (by decide) (Or.inl rfl)) (lk_put_ne (lk_put_ne l3 (by decide) (Or.inl rfl)) (by decide) (Or.inl rfl)) (lk_put_ne lk_put (by decide) (Or.inl rfl)) lk_put hF
def F_Mo_work_15  (x0 : Nat) (x2 : Int32) (y0 : Int32) (σ : SG) : Option (SG) :=
  if x2 = (17 : Int32) then
  F_Mo_work_30 (x0) (x2) (y0) ((0 : Int32)) σ
  else match F_Mo_get (x0) σ with
  | none => none
  | some q66 =>
  F_Mo_work_30 (x0) (x2) (y0) (q66.1) q66.2
set_option maxHeartbeats 4000000 in
theorem w_Mo_work_15 {b d : Nat} {sc : SC} {pre tl : List PE} {B : Nat} {Q : Option Value → List PE → Prop} {res : SG} (hB : B = b + pre.length) (hd : 2 ≤ d)   (hQ : Q none (HH pre tl SHm B res)) (lv : LV) (σ : SG) (x0 : Nat) (x2 : Int32) (y0 : Int32) (hx0 : isC SHm (x0) 8 = true) (l0 : lv.lookup 0 = some (.ref (B + (x0)))) (l2 : lv.lookup 2 = some (.int (x2))) (hF : F_Mo_work_15  x0 x2 y0 σ = some res) : Rn b sc d 81 15 lv [.int (y0)] (HH pre tl SHm B σ) Q := by
  obtain ⟨e0, rfl⟩ : ∃ e, d = e + 1 := ⟨d - 1, by omega⟩
  unfold F_Mo_work_15 at hF
  refine r_istore_n f_Mo_work_15 ?_
  refine r_iload_n f_Mo_work_16 (lk_put_ne l2 (by decide) (Or.inl rfl)) ?_
  refine r_bipush f_Mo_work_17 (v := 17) (by decide) ?_
  refine r_icmp_ne f_Mo_work_19 (fun c65 => ?_) (fun c65 => ?_)
  · rw [if_neg c65] at hF
    refine r_aload_n f_Mo_work_26 (lk_put_ne l0 (by decide) (Or.inl rfl)) ?_
    cases hq66 : F_Mo_get (x0) σ with
    | none => simp only [hq66] at hF; cases hF
    | some q66 =>
      simp only [hq66] at hF
      refine t_V0i hB hx0 rfl rfl f_Mo_work_27 (by decide) (Nat.le_of_ble_eq_true rfl) (Nat.le_of_ble_eq_true rfl) (w_Mo_get hB  (x0) hx0 hq66 ⟨_, rfl, ?_⟩)
      exact w_Mo_work_30 hB hd  hQ _ (q66.2) (x0) (x2) (y0) (q66.1) hx0 (lk_put_ne l0 (by decide) (Or.inl rfl)) (lk_put_ne l2 (by decide) (Or.inl rfl)) lk_put hF
  · rw [if_pos (Decidable.not_not.mp c65)] at hF
    refine r_iconst f_Mo_work_22 (v := 0) (by decide) ?_
    refine r_goto f_Mo_work_23 ?_
    exact w_Mo_work_30 hB hd  hQ _ (σ) (x0) (x2) (y0) ((0 : Int32)) hx0 (lk_put_ne l0 (by decide) (Or.inl rfl)) (lk_put_ne l2 (by decide) (Or.inl rfl)) lk_put hF
def F_Mo_work (a0 : Nat) (a1 : Int32) (a2 : Int32) (σ : SG) : Option (SG) :=
  if (21 : Int32) ≤ a2 then
  F_Mo_work_15 (a0) (a2) ((0 : Int32)) σ
  else match F_Mo_operand (a0) (a1) σ with
  | none => none
  | some q68 =>
  F_Mo_work_15 (a0) (a2) (q68.1) q68.2
set_option maxHeartbeats 4000000 in
theorem w_Mo_work {b d : Nat} {pre tl : List PE} {B : Nat} {Q : Option Value → List PE → Prop} {res : SG} (hB : B = b + pre.length) (hd : 2 ≤ d)  {σ : SG} (a0 : Nat) (a1 : Int32) (a2 : Int32) (ha0 : isC SHm (a0) 8 = true) (hF : F_Mo_work a0 a1 a2 σ = some res) (hQ : Q none (HH pre tl SHm B res)) : Cl b d 81 [.ref (B + (a0)), .int (a1), .int (a2)] (HH pre tl SHm B σ) Q := by
  obtain ⟨e0, rfl⟩ : ∃ e, d = e + 1 := ⟨d - 1, by omega⟩
  unfold Cl
  unfold F_Mo_work at hF
  refine r_iload_n f_Mo_work_0 rfl ?_
  refine r_bipush f_Mo_work_1 (v := 21) (by decide) ?_
  refine r_icmp_ge f_Mo_work_3 (fun c67 => ?_) (fun c67 => ?_)
  · rw [if_pos c67] at hF
    refine r_iconst f_Mo_work_14 (v := 0) (by decide) ?_
    exact w_Mo_work_15 hB hd  hQ _ (σ) (a0) (a2) ((0 : Int32)) ha0 rfl rfl hF
  · rw [if_neg c67] at hF
    refine r_aload_n f_Mo_work_6 rfl ?_
    refine r_iload_n f_Mo_work_7 rfl ?_
    cases hq68 : F_Mo_operand (a0) (a1) σ with
    | none => simp only [hq68] at hF; cases hF
    | some q68 =>
      simp only [hq68] at hF
      refine t_V1i hB ha0 rfl rfl f_Mo_work_8 (by decide) (Nat.le_of_ble_eq_true rfl) (Nat.le_of_ble_eq_true rfl) (w_Mo_operand hB  (a0) (a1) ha0 hq68 ⟨_, rfl, ?_⟩)
      refine r_goto f_Mo_work_11 ?_
      exact w_Mo_work_15 hB hd  hQ _ (q68.2) (a0) (a2) (q68.1) ha0 rfl rfl hF
