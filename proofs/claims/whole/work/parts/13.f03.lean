theorem f_Mo_localAt_0 : fetch 48 0 = some (.aload_n 0, 1, 0, 0, 0) := rfl
theorem f_Mo_localAt_1 : fetch 48 1 = some (.iload_n 1, 1, 0, 0, 0) := rfl
theorem f_Mo_localAt_2 : fetch 48 2 = some (.aload_n 0, 1, 0, 0, 0) := rfl
theorem f_Mo_localAt_3 : fetch 48 3 = some (.getfield 28, 3, 8, 11, 33) := rfl
theorem f_Mo_localAt_6 : fetch 48 6 = some (.aload_n 0, 1, 0, 0, 0) := rfl
theorem f_Mo_localAt_7 : fetch 48 7 = some (.getfield 154, 3, 8, 24, 65) := rfl
theorem f_Mo_localAt_10 : fetch 48 10 = some (.iaload, 1, 0, 0, 0) := rfl
theorem f_Mo_localAt_11 : fetch 48 11 = some (.if_icmp .ge 7, 3, 18, 0, 0) := rfl
theorem f_Mo_localAt_14 : fetch 48 14 = some (.iconst 1, 1, 0, 0, 0) := rfl
theorem f_Mo_localAt_15 : fetch 48 15 = some (.goto 4, 3, 19, 0, 0) := rfl
theorem f_Mo_localAt_18 : fetch 48 18 = some (.iconst 0, 1, 0, 0, 0) := rfl
theorem f_Mo_localAt_19 : fetch 48 19 = some (.invokevirtual 229, 3, 49, 1, 64) := rfl
theorem f_Mo_localAt_22 : fetch 48 22 = some (.aload_n 0, 1, 0, 0, 0) := rfl
theorem f_Mo_localAt_23 : fetch 48 23 = some (.getfield 181, 3, 8, 27, 66) := rfl
theorem f_Mo_localAt_26 : fetch 48 26 = some (.ifCond .eq 19, 3, 45, 0, 0) := rfl
theorem f_Mo_localAt_29 : fetch 48 29 = some (.aload_n 0, 1, 0, 0, 0) := rfl
theorem f_Mo_localAt_30 : fetch 48 30 = some (.getfield 31, 3, 8, 12, 34) := rfl
theorem f_Mo_localAt_33 : fetch 48 33 = some (.iconst 4, 1, 0, 0, 0) := rfl
theorem f_Mo_localAt_34 : fetch 48 34 = some (.aload_n 0, 1, 0, 0, 0) := rfl
theorem f_Mo_localAt_35 : fetch 48 35 = some (.getfield 154, 3, 8, 24, 65) := rfl
theorem f_Mo_localAt_38 : fetch 48 38 = some (.imul, 1, 0, 0, 0) := rfl
theorem f_Mo_localAt_39 : fetch 48 39 = some (.iload_n 1, 1, 0, 0, 0) := rfl
theorem f_Mo_localAt_40 : fetch 48 40 = some (.iadd, 1, 0, 0, 0) := rfl
theorem f_Mo_localAt_41 : fetch 48 41 = some (.iaload, 1, 0, 0, 0) := rfl
theorem f_Mo_localAt_42 : fetch 48 42 = some (.goto 4, 3, 46, 0, 0) := rfl
theorem f_Mo_localAt_45 : fetch 48 45 = some (.iconst 0, 1, 0, 0, 0) := rfl
theorem f_Mo_localAt_46 : fetch 48 46 = some (.ireturn, 1, 0, 0, 0) := rfl
def F_Mo_localAt_46  (y0 : Int32) (σ : SG) : Option (Int32 × SG) :=
  some (y0, σ)
set_option maxHeartbeats 4000000 in
theorem w_Mo_localAt_46 {b d : Nat} {sc : SC} {pre tl : List PE} {B : Nat} {Q : Option Value → List PE → Prop} {res : Int32 × SG} (hB : B = b + pre.length) (hd : 1 ≤ d)   (hQ : Q (some (.int res.1)) (HH pre tl SHm B res.2)) (lv : LV) (σ : SG) (y0 : Int32)  (hF : F_Mo_localAt_46  y0 σ = some res) : Rn b sc d 48 46 lv [.int (y0)] (HH pre tl SHm B σ) Q := by
  obtain ⟨e0, rfl⟩ : ∃ e, d = e + 1 := ⟨d - 1, by omega⟩
  unfold F_Mo_localAt_46 at hF
  cases hF
  exact r_ireturn f_Mo_localAt_46 hQ
def F_Mo_localAt_19  (x0 : Nat) (x1 : Int32) (y0 : Nat) (y1 : Bool) (σ : SG) : Option (Int32 × SG) :=
  match F_Mo_need (y0) (y1) σ with
  | none => none
  | some q1 =>
  if (zb (q1.1 (x0) 27)) = true then
  if (((4 : Int32) * (q1.1 (x0) 24)) + x1) < 0 ∨ 24 ≤ ((((4 : Int32) * (q1.1 (x0) 24)) + x1)).toNatClampNeg then none else
  F_Mo_localAt_46 ((q1.2.2.2.1 ((cref SHm (x0) 12)) (((((4 : Int32) * (q1.1 (x0) 24)) + x1)).toNatClampNeg))) q1
  else F_Mo_localAt_46 ((0 : Int32)) q1
set_option maxHeartbeats 4000000 in
theorem w_Mo_localAt_19 {b d : Nat} {sc : SC} {pre tl : List PE} {B : Nat} {Q : Option Value → List PE → Prop} {res : Int32 × SG} (hB : B = b + pre.length) (hd : 1 ≤ d)   (hQ : Q (some (.int res.1)) (HH pre tl SHm B res.2)) (lv : LV) (σ : SG) (x0 : Nat) (x1 : Int32) (y0 : Nat) (y1 : Bool) (hx0 : isC SHm (x0) 8 = true) (hy0 : isC SHm (y0) 8 = true) (l0 : lv.lookup 0 = some (.ref (B + (x0)))) (l1 : lv.lookup 1 = some (.int (x1))) (hF : F_Mo_localAt_19  x0 x1 y0 y1 σ = some res) : Rn b sc d 48 19 lv [.int (bz (y1)), .ref (B + (y0))] (HH pre tl SHm B σ) Q := by
  obtain ⟨e0, rfl⟩ : ∃ e, d = e + 1 := ⟨d - 1, by omega⟩
  unfold F_Mo_localAt_19 at hF
  cases hq1 : F_Mo_need (y0) (y1) σ with
  | none => simp only [hq1] at hF; cases hF
  | some q1 =>
    simp only [hq1] at hF
    refine t_V1v hB hy0 rfl rfl f_Mo_localAt_19 (by decide) (Nat.le_of_ble_eq_true rfl) (Nat.le_of_ble_eq_true rfl) (w_Mo_need hB  (y0) (y1) hy0 hq1 ⟨rfl, ?_⟩)
    refine r_aload_n f_Mo_localAt_22 l0 ?_
    refine t_getz hB hx0 f_Mo_localAt_23 rfl ?_
    refine r_if_eq f_Mo_localAt_26 (fun c2 => ?_) (fun c2 => ?_)
    · rw [if_neg (bz_nt c2)] at hF
      refine r_iconst f_Mo_localAt_45 (v := 0) (by decide) ?_
      exact w_Mo_localAt_46 hB hd  hQ _ (q1) ((0 : Int32)) hF
    · rw [if_pos (bz_t c2)] at hF
      refine r_aload_n f_Mo_localAt_29 l0 ?_
      refine t_getc hB hx0 f_Mo_localAt_30 rfl ?_
      refine r_iconst f_Mo_localAt_33 (v := 4) (by decide) ?_
      refine r_aload_n f_Mo_localAt_34 l0 ?_
      refine t_geti hB hx0 f_Mo_localAt_35 rfl ?_
      refine r_imul f_Mo_localAt_38 ?_
      refine r_iload_n f_Mo_localAt_39 l1 ?_
      refine r_iadd f_Mo_localAt_40 ?_
      by_cases c3 : (((4 : Int32) * (q1.1 (x0) 24)) + x1) < 0 ∨ 24 ≤ ((((4 : Int32) * (q1.1 (x0) 24)) + x1)).toNatClampNeg
      · rw [if_pos c3] at hF; cases hF
      rw [if_neg c3] at hF
      refine t_iald hB (cc_8_12 hx0) f_Mo_localAt_41 c3 ?_
      refine r_goto f_Mo_localAt_42 ?_
      exact w_Mo_localAt_46 hB hd  hQ _ (q1) ((q1.2.2.2.1 ((cref SHm (x0) 12)) (((((4 : Int32) * (q1.1 (x0) 24)) + x1)).toNatClampNeg))) hF
def F_Mo_localAt (a0 : Nat) (a1 : Int32) (σ : SG) : Option (Int32 × SG) :=
  if (σ.1 (a0) 24) < 0 ∨ 6 ≤ ((σ.1 (a0) 24)).toNatClampNeg then none else
  if (σ.2.2.2.1 ((cref SHm (a0) 11)) (((σ.1 (a0) 24)).toNatClampNeg)) ≤ a1 then
  F_Mo_localAt_19 (a0) (a1) (a0) (false) σ
  else F_Mo_localAt_19 (a0) (a1) (a0) (true) σ
set_option maxHeartbeats 4000000 in
theorem w_Mo_localAt {b d : Nat} {pre tl : List PE} {B : Nat} {Q : Option Value → List PE → Prop} {res : Int32 × SG} (hB : B = b + pre.length) (hd : 1 ≤ d)  {σ : SG} (a0 : Nat) (a1 : Int32) (ha0 : isC SHm (a0) 8 = true) (hF : F_Mo_localAt a0 a1 σ = some res) (hQ : Q (some (.int res.1)) (HH pre tl SHm B res.2)) : Cl b d 48 [.ref (B + (a0)), .int (a1)] (HH pre tl SHm B σ) Q := by
  obtain ⟨e0, rfl⟩ : ∃ e, d = e + 1 := ⟨d - 1, by omega⟩
  unfold Cl
  unfold F_Mo_localAt at hF
  refine r_aload_n f_Mo_localAt_0 rfl ?_
  refine r_iload_n f_Mo_localAt_1 rfl ?_
  refine r_aload_n f_Mo_localAt_2 rfl ?_
  refine t_getc hB ha0 f_Mo_localAt_3 rfl ?_
  refine r_aload_n f_Mo_localAt_6 rfl ?_
  refine t_geti hB ha0 f_Mo_localAt_7 rfl ?_
  by_cases c4 : (σ.1 (a0) 24) < 0 ∨ 6 ≤ ((σ.1 (a0) 24)).toNatClampNeg
  · rw [if_pos c4] at hF; cases hF
  rw [if_neg c4] at hF
  refine t_iald hB (cc_8_11 ha0) f_Mo_localAt_10 c4 ?_
  refine r_icmp_ge f_Mo_localAt_11 (fun c5 => ?_) (fun c5 => ?_)
  · rw [if_pos c5] at hF
    refine r_iconst f_Mo_localAt_18 (v := 0) (by decide) ?_
    exact w_Mo_localAt_19 hB hd  hQ _ (σ) (a0) (a1) (a0) (false) ha0 ha0 rfl rfl hF
  · rw [if_neg c5] at hF
    refine r_iconst f_Mo_localAt_14 (v := 1) (by decide) ?_
    refine r_goto f_Mo_localAt_15 ?_
    exact w_Mo_localAt_19 hB hd  hQ _ (σ) (a0) (a1) (a0) (true) ha0 ha0 rfl rfl hF
theorem f_Mo_pop_0 : fetch 51 0 = some (.aload_n 0, 1, 0, 0, 0) := rfl
theorem f_Mo_pop_1 : fetch 51 1 = some (.aload_n 0, 1, 0, 0, 0) := rfl
theorem f_Mo_pop_2 : fetch 51 2 = some (.getfield 181, 3, 8, 27, 66) := rfl
theorem f_Mo_pop_5 : fetch 51 5 = some (.ifCond .eq 14, 3, 19, 0, 0) := rfl
theorem f_Mo_pop_8 : fetch 51 8 = some (.aload_n 0, 1, 0, 0, 0) := rfl
theorem f_Mo_pop_9 : fetch 51 9 = some (.getfield 191, 3, 8, 25, 67) := rfl
theorem f_Mo_pop_12 : fetch 51 12 = some (.ifCond .le 7, 3, 19, 0, 0) := rfl
theorem f_Mo_pop_15 : fetch 51 15 = some (.iconst 1, 1, 0, 0, 0) := rfl
theorem f_Mo_pop_16 : fetch 51 16 = some (.goto 4, 3, 20, 0, 0) := rfl
theorem f_Mo_pop_19 : fetch 51 19 = some (.iconst 0, 1, 0, 0, 0) := rfl
theorem f_Mo_pop_20 : fetch 51 20 = some (.putfield 181, 3, 8, 27, 66) := rfl
theorem f_Mo_pop_23 : fetch 51 23 = some (.aload_n 0, 1, 0, 0, 0) := rfl
theorem f_Mo_pop_24 : fetch 51 24 = some (.getfield 181, 3, 8, 27, 66) := rfl
theorem f_Mo_pop_27 : fetch 51 27 = some (.ifCond .ne 5, 3, 32, 0, 0) := rfl
theorem f_Mo_pop_30 : fetch 51 30 = some (.iconst 0, 1, 0, 0, 0) := rfl
theorem f_Mo_pop_31 : fetch 51 31 = some (.ireturn, 1, 0, 0, 0) := rfl
theorem f_Mo_pop_32 : fetch 51 32 = some (.aload_n 0, 1, 0, 0, 0) := rfl
theorem f_Mo_pop_33 : fetch 51 33 = some (.dup, 1, 0, 0, 0) := rfl
theorem f_Mo_pop_34 : fetch 51 34 = some (.getfield 191, 3, 8, 25, 67) := rfl
theorem f_Mo_pop_37 : fetch 51 37 = some (.iconst 1, 1, 0, 0, 0) := rfl
theorem f_Mo_pop_38 : fetch 51 38 = some (.isub, 1, 0, 0, 0) := rfl
theorem f_Mo_pop_39 : fetch 51 39 = some (.putfield 191, 3, 8, 25, 67) := rfl
theorem f_Mo_pop_42 : fetch 51 42 = some (.aload_n 0, 1, 0, 0, 0) := rfl
theorem f_Mo_pop_43 : fetch 51 43 = some (.getfield 194, 3, 8, 26, 68) := rfl
theorem f_Mo_pop_46 : fetch 51 46 = some (.iconst 4, 1, 0, 0, 0) := rfl
theorem f_Mo_pop_47 : fetch 51 47 = some (.aload_n 0, 1, 0, 0, 0) := rfl
theorem f_Mo_pop_48 : fetch 51 48 = some (.getfield 191, 3, 8, 25, 67) := rfl
theorem f_Mo_pop_51 : fetch 51 51 = some (.imul, 1, 0, 0, 0) := rfl
theorem f_Mo_pop_52 : fetch 51 52 = some (.lshr, 1, 0, 0, 0) := rfl
theorem f_Mo_pop_53 : fetch 51 53 = some (.ldc2_w 198, 3, 15, 0, 2) := rfl
theorem f_Mo_pop_56 : fetch 51 56 = some (.land, 1, 0, 0, 0) := rfl
theorem f_Mo_pop_57 : fetch 51 57 = some (.l2i, 1, 0, 0, 0) := rfl
theorem f_Mo_pop_58 : fetch 51 58 = some (.istore_n 1, 1, 0, 0, 0) := rfl
theorem f_Mo_pop_59 : fetch 51 59 = some (.aload_n 0, 1, 0, 0, 0) := rfl
theorem f_Mo_pop_60 : fetch 51 60 = some (.aload_n 0, 1, 0, 0, 0) := rfl
theorem f_Mo_pop_61 : fetch 51 61 = some (.getfield 194, 3, 8, 26, 68) := rfl
theorem f_Mo_pop_64 : fetch 51 64 = some (.lconst 1, 1, 0, 0, 0) := rfl
theorem f_Mo_pop_65 : fetch 51 65 = some (.iconst 4, 1, 0, 0, 0) := rfl
theorem f_Mo_pop_66 : fetch 51 66 = some (.aload_n 0, 1, 0, 0, 0) := rfl
theorem f_Mo_pop_67 : fetch 51 67 = some (.getfield 191, 3, 8, 25, 67) := rfl
theorem f_Mo_pop_70 : fetch 51 70 = some (.imul, 1, 0, 0, 0) := rfl
theorem f_Mo_pop_71 : fetch 51 71 = some (.lshl, 1, 0, 0, 0) := rfl
theorem f_Mo_pop_72 : fetch 51 72 = some (.lconst 1, 1, 0, 0, 0) := rfl
theorem f_Mo_pop_73 : fetch 51 73 = some (.lsub, 1, 0, 0, 0) := rfl
theorem f_Mo_pop_74 : fetch 51 74 = some (.land, 1, 0, 0, 0) := rfl
theorem f_Mo_pop_75 : fetch 51 75 = some (.putfield 194, 3, 8, 26, 68) := rfl
theorem f_Mo_pop_78 : fetch 51 78 = some (.iload_n 1, 1, 0, 0, 0) := rfl
theorem f_Mo_pop_79 : fetch 51 79 = some (.ireturn, 1, 0, 0, 0) := rfl
def F_Mo_pop_20  (x0 : Nat) (y0 : Nat) (y1 : Bool) (σ : SG) : Option (Int32 × SG) :=
  stl (setI σ (y0) 27 (bz (y1))) fun s1 =>
  if (zb (s1.1 (x0) 27)) = true then
  stl (setI s1 (x0) 25 (((s1.1 (x0) 25) - (1 : Int32)))) fun s3 =>
  stl (setJ s3 (x0) 26 (((s3.2.1 (x0) 26) &&& (((1 : Int64) <<< ((((4 : Int32) * (s3.1 (x0) 25))).toInt64 &&& 63)) - (1 : Int64))))) fun s4 =>
  some ((((((s3.2.1 (x0) 26) >>> ((((4 : Int32) * (s3.1 (x0) 25))).toInt64 &&& 63)) &&& (15 : Int64)) : Int64).toInt32), s4)
  else some ((0 : Int32), s1)
set_option maxHeartbeats 4000000 in
theorem w_Mo_pop_20 {b d : Nat} {sc : SC} {pre tl : List PE} {B : Nat} {Q : Option Value → List PE → Prop} {res : Int32 × SG} (hB : B = b + pre.length)   (hQ : Q (some (.int res.1)) (HH pre tl SHm B res.2)) (lv : LV) (σ : SG) (x0 : Nat) (y0 : Nat) (y1 : Bool) (hx0 : isC SHm (x0) 8 = true) (hy0 : isC SHm (y0) 8 = true) (l0 : lv.lookup 0 = some (.ref (B + (x0)))) (hF : F_Mo_pop_20  x0 y0 y1 σ = some res) : Rn b sc d 51 20 lv [.int (bz (y1)), .ref (B + (y0))] (HH pre tl SHm B σ) Q := by
  unfold F_Mo_pop_20 at hF
  refine t_putz (v := y1) hB hy0 f_Mo_pop_20 rfl rfl ?_
  generalize hs1 : setI σ (y0) 27 (bz (y1)) = s1 at hF ⊢
  rw [stl_eq] at hF
  refine r_aload_n f_Mo_pop_23 l0 ?_
  refine t_getz hB hx0 f_Mo_pop_24 rfl ?_
  refine r_if_ne f_Mo_pop_27 (fun c2 => ?_) (fun c2 => ?_)
  · rw [if_pos (bz_t c2)] at hF
    refine r_aload_n f_Mo_pop_32 l0 ?_
    refine r_dup f_Mo_pop_33 rfl ?_
    refine t_geti hB hx0 f_Mo_pop_34 rfl ?_
    refine r_iconst f_Mo_pop_37 (v := 1) (by decide) ?_
    refine r_isub f_Mo_pop_38 ?_
    refine t_puti hB hx0 f_Mo_pop_39 rfl rfl ?_
    generalize hs3 : setI s1 (x0) 25 (((s1.1 (x0) 25) - (1 : Int32))) = s3 at hF ⊢
    rw [stl_eq] at hF
    refine r_aload_n f_Mo_pop_42 l0 ?_
    refine t_getj hB hx0 f_Mo_pop_43 rfl ?_
    refine r_iconst f_Mo_pop_46 (v := 4) (by decide) ?_
    refine r_aload_n f_Mo_pop_47 l0 ?_
    refine t_geti hB hx0 f_Mo_pop_48 rfl ?_
    refine r_imul f_Mo_pop_51 ?_
    refine r_lshr f_Mo_pop_52 ?_
    refine r_ldc2 f_Mo_pop_53 (v := 15) (by decide) ?_
    refine r_land f_Mo_pop_56 ?_
    refine r_l2i f_Mo_pop_57 ?_
    refine r_istore_n f_Mo_pop_58 ?_
    refine r_aload_n f_Mo_pop_59 (lk_put_ne l0 (by decide) (Or.inl rfl)) ?_
    refine r_aload_n f_Mo_pop_60 (lk_put_ne l0 (by decide) (Or.inl rfl)) ?_
    refine t_getj hB hx0 f_Mo_pop_61 rfl ?_
    refine r_lconst f_Mo_pop_64 (v := 1) (by decide) ?_
    refine r_iconst f_Mo_pop_65 (v := 4) (by decide) ?_
    refine r_aload_n f_Mo_pop_66 (lk_put_ne l0 (by decide) (Or.inl rfl)) ?_
    refine t_geti hB hx0 f_Mo_pop_67 rfl ?_
    refine r_imul f_Mo_pop_70 ?_
    refine r_lshl f_Mo_pop_71 ?_
    refine r_lconst f_Mo_pop_72 (v := 1) (by decide) ?_
    refine r_lsub f_Mo_pop_73 ?_
    refine r_land f_Mo_pop_74 ?_
    refine t_putj hB hx0 f_Mo_pop_75 rfl rfl ?_
    generalize hs4 : setJ s3 (x0) 26 (((s3.2.1 (x0) 26) &&& (((1 : Int64) <<< ((((4 : Int32) * (s3.1 (x0) 25))).toInt64 &&& 63)) - (1 : Int64)))) = s4 at hF ⊢
    rw [stl_eq] at hF
    refine r_iload_n f_Mo_pop_78 lk_put ?_
    cases hF
    exact r_ireturn f_Mo_pop_79 hQ
  · rw [if_neg (bz_nt (Decidable.not_not.mp c2))] at hF
    refine r_iconst f_Mo_pop_30 (v := 0) (by decide) ?_
    cases hF
    exact r_ireturn f_Mo_pop_31 hQ
def F_Mo_pop_19  (x0 : Nat) (y0 : Nat) (σ : SG) : Option (Int32 × SG) :=
  F_Mo_pop_20 (x0) (y0) (false) σ
set_option maxHeartbeats 4000000 in
theorem w_Mo_pop_19 {b d : Nat} {sc : SC} {pre tl : List PE} {B : Nat} {Q : Option Value → List PE → Prop} {res : Int32 × SG} (hB : B = b + pre.length)   (hQ : Q (some (.int res.1)) (HH pre tl SHm B res.2)) (lv : LV) (σ : SG) (x0 : Nat) (y0 : Nat) (hx0 : isC SHm (x0) 8 = true) (hy0 : isC SHm (y0) 8 = true) (l0 : lv.lookup 0 = some (.ref (B + (x0)))) (hF : F_Mo_pop_19  x0 y0 σ = some res) : Rn b sc d 51 19 lv [.ref (B + (y0))] (HH pre tl SHm B σ) Q := by
  unfold F_Mo_pop_19 at hF
  refine r_iconst f_Mo_pop_19 (v := 0) (by decide) ?_
  exact w_Mo_pop_20 hB   hQ _ (σ) (x0) (y0) (false) hx0 hy0 l0 hF
def F_Mo_pop (a0 : Nat) (σ : SG) : Option (Int32 × SG) :=
  if (zb (σ.1 (a0) 27)) = true then
  if (σ.1 (a0) 25) ≤ 0 then
  F_Mo_pop_19 (a0) (a0) σ
  else F_Mo_pop_20 (a0) (a0) (true) σ
  else F_Mo_pop_19 (a0) (a0) σ
set_option maxHeartbeats 4000000 in
theorem w_Mo_pop {b d : Nat} {pre tl : List PE} {B : Nat} {Q : Option Value → List PE → Prop} {res : Int32 × SG} (hB : B = b + pre.length)  {σ : SG} (a0 : Nat) (ha0 : isC SHm (a0) 8 = true) (hF : F_Mo_pop a0 σ = some res) (hQ : Q (some (.int res.1)) (HH pre tl SHm B res.2)) : Cl b d 51 [.ref (B + (a0))] (HH pre tl SHm B σ) Q := by
  unfold Cl
  unfold F_Mo_pop at hF
  refine r_aload_n f_Mo_pop_0 rfl ?_
  refine r_aload_n f_Mo_pop_1 rfl ?_
  refine t_getz hB ha0 f_Mo_pop_2 rfl ?_
  refine r_if_eq f_Mo_pop_5 (fun c5 => ?_) (fun c5 => ?_)
  · rw [if_neg (bz_nt c5)] at hF
    exact w_Mo_pop_19 hB   hQ _ (σ) (a0) (a0) ha0 ha0 rfl hF
  · rw [if_pos (bz_t c5)] at hF
    refine r_aload_n f_Mo_pop_8 rfl ?_
    refine t_geti hB ha0 f_Mo_pop_9 rfl ?_
    refine r_if_le f_Mo_pop_12 (fun c6 => ?_) (fun c6 => ?_)
    · rw [if_pos c6] at hF
      exact w_Mo_pop_19 hB   hQ _ (σ) (a0) (a0) ha0 ha0 rfl hF
    · rw [if_neg c6] at hF
      refine r_iconst f_Mo_pop_15 (v := 1) (by decide) ?_
      refine r_goto f_Mo_pop_16 ?_
      exact w_Mo_pop_20 hB   hQ _ (σ) (a0) (a0) (true) ha0 ha0 rfl hF
theorem f_Mo_take_0 : fetch 50 0 = some (.aload_n 0, 1, 0, 0, 0) := rfl
theorem f_Mo_take_1 : fetch 50 1 = some (.invokevirtual 200, 3, 51, 0, 66) := rfl
theorem f_Mo_take_4 : fetch 50 4 = some (.istore_n 2, 1, 0, 0, 0) := rfl
theorem f_Mo_take_5 : fetch 50 5 = some (.aload_n 0, 1, 0, 0, 0) := rfl
theorem f_Mo_take_6 : fetch 50 6 = some (.aload_n 0, 1, 0, 0, 0) := rfl
theorem f_Mo_take_7 : fetch 50 7 = some (.getfield 181, 3, 8, 27, 66) := rfl
theorem f_Mo_take_10 : fetch 50 10 = some (.ifCond .eq 12, 3, 22, 0, 0) := rfl
theorem f_Mo_take_13 : fetch 50 13 = some (.iload_n 2, 1, 0, 0, 0) := rfl
theorem f_Mo_take_14 : fetch 50 14 = some (.iload_n 1, 1, 0, 0, 0) := rfl
theorem f_Mo_take_15 : fetch 50 15 = some (.if_icmp .ne 7, 3, 22, 0, 0) := rfl
theorem f_Mo_take_18 : fetch 50 18 = some (.iconst 1, 1, 0, 0, 0) := rfl
theorem f_Mo_take_19 : fetch 50 19 = some (.goto 4, 3, 23, 0, 0) := rfl
theorem f_Mo_take_22 : fetch 50 22 = some (.iconst 0, 1, 0, 0, 0) := rfl
theorem f_Mo_take_23 : fetch 50 23 = some (.putfield 181, 3, 8, 27, 66) := rfl
theorem f_Mo_take_26 : fetch 50 26 = some (.return_, 1, 0, 0, 0) := rfl
def F_Mo_take_23  (y0 : Nat) (y1 : Bool) (σ : SG) : Option (SG) :=
  stl (setI σ (y0) 27 (bz (y1))) fun s1 =>
  some s1
set_option maxHeartbeats 4000000 in
theorem w_Mo_take_23 {b d : Nat} {sc : SC} {pre tl : List PE} {B : Nat} {Q : Option Value → List PE → Prop} {res : SG} (hB : B = b + pre.length) (hd : 1 ≤ d)   (hQ : Q none (HH pre tl SHm B res)) (lv : LV) (σ : SG) (y0 : Nat) (y1 : Bool) (hy0 : isC SHm (y0) 8 = true) (hF : F_Mo_take_23  y0 y1 σ = some res) : Rn b sc d 50 23 lv [.int (bz (y1)), .ref (B + (y0))] (HH pre tl SHm B σ) Q := by
  obtain ⟨e0, rfl⟩ : ∃ e, d = e + 1 := ⟨d - 1, by omega⟩
  unfold F_Mo_take_23 at hF
  refine t_putz (v := y1) hB hy0 f_Mo_take_23 rfl rfl ?_
  generalize hs1 : setI σ (y0) 27 (bz (y1)) = s1 at hF ⊢
  rw [stl_eq] at hF
  cases hF
  exact r_return f_Mo_take_26 hQ
def F_Mo_take_22  (y0 : Nat) (σ : SG) : Option (SG) :=
  F_Mo_take_23 (y0) (false) σ
set_option maxHeartbeats 4000000 in
theorem w_Mo_take_22 {b d : Nat} {sc : SC} {pre tl : List PE} {B : Nat} {Q : Option Value → List PE → Prop} {res : SG} (hB : B = b + pre.length) (hd : 1 ≤ d)   (hQ : Q none (HH pre tl SHm B res)) (lv : LV) (σ : SG) (y0 : Nat) (hy0 : isC SHm (y0) 8 = true) (hF : F_Mo_take_22  y0 σ = some res) : Rn b sc d 50 22 lv [.ref (B + (y0))] (HH pre tl SHm B σ) Q := by
  obtain ⟨e0, rfl⟩ : ∃ e, d = e + 1 := ⟨d - 1, by omega⟩
  unfold F_Mo_take_22 at hF
  refine r_iconst f_Mo_take_22 (v := 0) (by decide) ?_
  exact w_Mo_take_23 hB hd  hQ _ (σ) (y0) (false) hy0 hF
def F_Mo_take (a0 : Nat) (a1 : Int32) (σ : SG) : Option (SG) :=
  match F_Mo_pop (a0) σ with
  | none => none
  | some q2 =>
  if (zb (q2.2.1 (a0) 27)) = true then
  if q2.1 = a1 then
  F_Mo_take_23 (a0) (true) q2.2
  else F_Mo_take_22 (a0) q2.2
  else F_Mo_take_22 (a0) q2.2
set_option maxHeartbeats 4000000 in
theorem w_Mo_take {b d : Nat} {pre tl : List PE} {B : Nat} {Q : Option Value → List PE → Prop} {res : SG} (hB : B = b + pre.length) (hd : 1 ≤ d)  {σ : SG} (a0 : Nat) (a1 : Int32) (ha0 : isC SHm (a0) 8 = true) (hF : F_Mo_take a0 a1 σ = some res) (hQ : Q none (HH pre tl SHm B res)) : Cl b d 50 [.ref (B + (a0)), .int (a1)] (HH pre tl SHm B σ) Q := by
  obtain ⟨e0, rfl⟩ : ∃ e, d = e + 1 := ⟨d - 1, by omega⟩
  unfold Cl
  unfold F_Mo_take at hF
  refine r_aload_n f_Mo_take_0 rfl ?_
  cases hq2 : F_Mo_pop (a0) σ with
  | none => simp only [hq2] at hF; cases hF
  | some q2 =>
    simp only [hq2] at hF
    refine t_V0i hB ha0 rfl rfl f_Mo_take_1 (by decide) (Nat.le_of_ble_eq_true rfl) (Nat.le_of_ble_eq_true rfl) (w_Mo_pop hB  (a0) ha0 hq2 ⟨_, rfl, ?_⟩)
    refine r_istore_n f_Mo_take_4 ?_
    refine r_aload_n f_Mo_take_5 (lk_put_ne rfl (by decide) (Or.inl rfl)) ?_
    refine r_aload_n f_Mo_take_6 (lk_put_ne rfl (by decide) (Or.inl rfl)) ?_
    refine t_getz hB ha0 f_Mo_take_7 rfl ?_
    refine r_if_eq f_Mo_take_10 (fun c3 => ?_) (fun c3 => ?_)
    · rw [if_neg (bz_nt c3)] at hF
      exact w_Mo_take_22 hB hd  hQ _ (q2.2) (a0) ha0 hF
    · rw [if_pos (bz_t c3)] at hF
      refine r_iload_n f_Mo_take_13 lk_put ?_
      refine r_iload_n f_Mo_take_14 (lk_put_ne rfl (by decide) (Or.inl rfl)) ?_
      refine r_icmp_ne f_Mo_take_15 (fun c4 => ?_) (fun c4 => ?_)
      · rw [if_neg c4] at hF
        exact w_Mo_take_22 hB hd  hQ _ (q2.2) (a0) ha0 hF
      · rw [if_pos (Decidable.not_not.mp c4)] at hF
        refine r_iconst f_Mo_take_18 (v := 1) (by decide) ?_
        refine r_goto f_Mo_take_19 ?_
        exact w_Mo_take_23 hB hd  hQ _ (q2.2) (a0) (true) ha0 hF
theorem f_Mo_argumentAt_0 : fetch 52 0 = some (.aload_n 0, 1, 0, 0, 0) := rfl
theorem f_Mo_argumentAt_1 : fetch 52 1 = some (.iload_n 1, 1, 0, 0, 0) := rfl
theorem f_Mo_argumentAt_2 : fetch 52 2 = some (.aload_n 0, 1, 0, 0, 0) := rfl
theorem f_Mo_argumentAt_3 : fetch 52 3 = some (.getfield 22, 3, 8, 9, 31) := rfl
theorem f_Mo_argumentAt_6 : fetch 52 6 = some (.aload_n 0, 1, 0, 0, 0) := rfl
theorem f_Mo_argumentAt_7 : fetch 52 7 = some (.getfield 154, 3, 8, 24, 65) := rfl
theorem f_Mo_argumentAt_10 : fetch 52 10 = some (.iaload, 1, 0, 0, 0) := rfl
theorem f_Mo_argumentAt_11 : fetch 52 11 = some (.if_icmp .ge 7, 3, 18, 0, 0) := rfl
theorem f_Mo_argumentAt_14 : fetch 52 14 = some (.iconst 1, 1, 0, 0, 0) := rfl
theorem f_Mo_argumentAt_15 : fetch 52 15 = some (.goto 4, 3, 19, 0, 0) := rfl
theorem f_Mo_argumentAt_18 : fetch 52 18 = some (.iconst 0, 1, 0, 0, 0) := rfl
theorem f_Mo_argumentAt_19 : fetch 52 19 = some (.invokevirtual 229, 3, 49, 1, 64) := rfl
theorem f_Mo_argumentAt_22 : fetch 52 22 = some (.aload_n 0, 1, 0, 0, 0) := rfl
theorem f_Mo_argumentAt_23 : fetch 52 23 = some (.getfield 181, 3, 8, 27, 66) := rfl
theorem f_Mo_argumentAt_26 : fetch 52 26 = some (.ifCond .eq 19, 3, 45, 0, 0) := rfl
theorem f_Mo_argumentAt_29 : fetch 52 29 = some (.aload_n 0, 1, 0, 0, 0) := rfl
theorem f_Mo_argumentAt_30 : fetch 52 30 = some (.getfield 25, 3, 8, 10, 32) := rfl
theorem f_Mo_argumentAt_33 : fetch 52 33 = some (.iconst 3, 1, 0, 0, 0) := rfl
theorem f_Mo_argumentAt_34 : fetch 52 34 = some (.aload_n 0, 1, 0, 0, 0) := rfl
theorem f_Mo_argumentAt_35 : fetch 52 35 = some (.getfield 154, 3, 8, 24, 65) := rfl
theorem f_Mo_argumentAt_38 : fetch 52 38 = some (.imul, 1, 0, 0, 0) := rfl
theorem f_Mo_argumentAt_39 : fetch 52 39 = some (.iload_n 1, 1, 0, 0, 0) := rfl
theorem f_Mo_argumentAt_40 : fetch 52 40 = some (.iadd, 1, 0, 0, 0) := rfl
theorem f_Mo_argumentAt_41 : fetch 52 41 = some (.iaload, 1, 0, 0, 0) := rfl
theorem f_Mo_argumentAt_42 : fetch 52 42 = some (.goto 4, 3, 46, 0, 0) := rfl
theorem f_Mo_argumentAt_45 : fetch 52 45 = some (.iconst 0, 1, 0, 0, 0) := rfl
theorem f_Mo_argumentAt_46 : fetch 52 46 = some (.ireturn, 1, 0, 0, 0) := rfl
def F_Mo_argumentAt_46  (y0 : Int32) (σ : SG) : Option (Int32 × SG) :=
  some (y0, σ)
set_option maxHeartbeats 4000000 in
theorem w_Mo_argumentAt_46 {b d : Nat} {sc : SC} {pre tl : List PE} {B : Nat} {Q : Option Value → List PE → Prop} {res : Int32 × SG} (hB : B = b + pre.length) (hd : 1 ≤ d)   (hQ : Q (some (.int res.1)) (HH pre tl SHm B res.2)) (lv : LV) (σ : SG) (y0 : Int32)  (hF : F_Mo_argumentAt_46  y0 σ = some res) : Rn b sc d 52 46 lv [.int (y0)] (HH pre tl SHm B σ) Q := by
  obtain ⟨e0, rfl⟩ : ∃ e, d = e + 1 := ⟨d - 1, by omega⟩
  unfold F_Mo_argumentAt_46 at hF
  cases hF
  exact r_ireturn f_Mo_argumentAt_46 hQ
def F_Mo_argumentAt_19  (x0 : Nat) (x1 : Int32) (y0 : Nat) (y1 : Bool) (σ : SG) : Option (Int32 × SG) :=
  match F_Mo_need (y0) (y1) σ with
  | none => none
  | some q1 =>
  if (zb (q1.1 (x0) 27)) = true then
  if (((3 : Int32) * (q1.1 (x0) 24)) + x1) < 0 ∨ 18 ≤ ((((3 : Int32) * (q1.1 (x0) 24)) + x1)).toNatClampNeg then none else
  F_Mo_argumentAt_46 ((q1.2.2.2.1 ((cref SHm (x0) 10)) (((((3 : Int32) * (q1.1 (x0) 24)) + x1)).toNatClampNeg))) q1
  else F_Mo_argumentAt_46 ((0 : Int32)) q1
set_option maxHeartbeats 4000000 in
theorem w_Mo_argumentAt_19 {b d : Nat} {sc : SC} {pre tl : List PE} {B : Nat} {Q : Option Value → List PE → Prop} {res : Int32 × SG} (hB : B = b + pre.length) (hd : 1 ≤ d)   (hQ : Q (some (.int res.1)) (HH pre tl SHm B res.2)) (lv : LV) (σ : SG) (x0 : Nat) (x1 : Int32) (y0 : Nat) (y1 : Bool) (hx0 : isC SHm (x0) 8 = true) (hy0 : isC SHm (y0) 8 = true) (l0 : lv.lookup 0 = some (.ref (B + (x0)))) (l1 : lv.lookup 1 = some (.int (x1))) (hF : F_Mo_argumentAt_19  x0 x1 y0 y1 σ = some res) : Rn b sc d 52 19 lv [.int (bz (y1)), .ref (B + (y0))] (HH pre tl SHm B σ) Q := by
  obtain ⟨e0, rfl⟩ : ∃ e, d = e + 1 := ⟨d - 1, by omega⟩
  unfold F_Mo_argumentAt_19 at hF
  cases hq1 : F_Mo_need (y0) (y1) σ with
  | none => simp only [hq1] at hF; cases hF
  | some q1 =>
    simp only [hq1] at hF
    refine t_V1v hB hy0 rfl rfl f_Mo_argumentAt_19 (by decide) (Nat.le_of_ble_eq_true rfl) (Nat.le_of_ble_eq_true rfl) (w_Mo_need hB  (y0) (y1) hy0 hq1 ⟨rfl, ?_⟩)
    refine r_aload_n f_Mo_argumentAt_22 l0 ?_
    refine t_getz hB hx0 f_Mo_argumentAt_23 rfl ?_
    refine r_if_eq f_Mo_argumentAt_26 (fun c2 => ?_) (fun c2 => ?_)
    · rw [if_neg (bz_nt c2)] at hF
      refine r_iconst f_Mo_argumentAt_45 (v := 0) (by decide) ?_
      exact w_Mo_argumentAt_46 hB hd  hQ _ (q1) ((0 : Int32)) hF
    · rw [if_pos (bz_t c2)] at hF
      refine r_aload_n f_Mo_argumentAt_29 l0 ?_
      refine t_getc hB hx0 f_Mo_argumentAt_30 rfl ?_
      refine r_iconst f_Mo_argumentAt_33 (v := 3) (by decide) ?_
      refine r_aload_n f_Mo_argumentAt_34 l0 ?_
      refine t_geti hB hx0 f_Mo_argumentAt_35 rfl ?_
      refine r_imul f_Mo_argumentAt_38 ?_
      refine r_iload_n f_Mo_argumentAt_39 l1 ?_
      refine r_iadd f_Mo_argumentAt_40 ?_
      by_cases c3 : (((3 : Int32) * (q1.1 (x0) 24)) + x1) < 0 ∨ 18 ≤ ((((3 : Int32) * (q1.1 (x0) 24)) + x1)).toNatClampNeg
      · rw [if_pos c3] at hF; cases hF
      rw [if_neg c3] at hF
      refine t_iald hB (cc_8_10 hx0) f_Mo_argumentAt_41 c3 ?_
      refine r_goto f_Mo_argumentAt_42 ?_
      exact w_Mo_argumentAt_46 hB hd  hQ _ (q1) ((q1.2.2.2.1 ((cref SHm (x0) 10)) (((((3 : Int32) * (q1.1 (x0) 24)) + x1)).toNatClampNeg))) hF
def F_Mo_argumentAt (a0 : Nat) (a1 : Int32) (σ : SG) : Option (Int32 × SG) :=
  if (σ.1 (a0) 24) < 0 ∨ 6 ≤ ((σ.1 (a0) 24)).toNatClampNeg then none else
  if (σ.2.2.2.1 ((cref SHm (a0) 9)) (((σ.1 (a0) 24)).toNatClampNeg)) ≤ a1 then
  F_Mo_argumentAt_19 (a0) (a1) (a0) (false) σ
  else F_Mo_argumentAt_19 (a0) (a1) (a0) (true) σ
set_option maxHeartbeats 4000000 in
theorem w_Mo_argumentAt {b d : Nat} {pre tl : List PE} {B : Nat} {Q : Option Value → List PE → Prop} {res : Int32 × SG} (hB : B = b + pre.length) (hd : 1 ≤ d)  {σ : SG} (a0 : Nat) (a1 : Int32) (ha0 : isC SHm (a0) 8 = true) (hF : F_Mo_argumentAt a0 a1 σ = some res) (hQ : Q (some (.int res.1)) (HH pre tl SHm B res.2)) : Cl b d 52 [.ref (B + (a0)), .int (a1)] (HH pre tl SHm B σ) Q := by
  obtain ⟨e0, rfl⟩ : ∃ e, d = e + 1 := ⟨d - 1, by omega⟩
  unfold Cl
  unfold F_Mo_argumentAt at hF
  refine r_aload_n f_Mo_argumentAt_0 rfl ?_
  refine r_iload_n f_Mo_argumentAt_1 rfl ?_
  refine r_aload_n f_Mo_argumentAt_2 rfl ?_
  refine t_getc hB ha0 f_Mo_argumentAt_3 rfl ?_
  refine r_aload_n f_Mo_argumentAt_6 rfl ?_
  refine t_geti hB ha0 f_Mo_argumentAt_7 rfl ?_
  by_cases c4 : (σ.1 (a0) 24) < 0 ∨ 6 ≤ ((σ.1 (a0) 24)).toNatClampNeg
  · rw [if_pos c4] at hF; cases hF
  rw [if_neg c4] at hF
  refine t_iald hB (cc_8_9 ha0) f_Mo_argumentAt_10 c4 ?_
  refine r_icmp_ge f_Mo_argumentAt_11 (fun c5 => ?_) (fun c5 => ?_)
  · rw [if_pos c5] at hF
    refine r_iconst f_Mo_argumentAt_18 (v := 0) (by decide) ?_
    exact w_Mo_argumentAt_19 hB hd  hQ _ (σ) (a0) (a1) (a0) (false) ha0 ha0 rfl rfl hF
  · rw [if_neg c5] at hF
    refine r_iconst f_Mo_argumentAt_14 (v := 1) (by decide) ?_
    refine r_goto f_Mo_argumentAt_15 ?_
    exact w_Mo_argumentAt_19 hB hd  hQ _ (σ) (a0) (a1) (a0) (true) ha0 ha0 rfl rfl hF
theorem f_Mo_isObject_0 : fetch 53 0 = some (.iload_n 1, 1, 0, 0, 0) := rfl
theorem f_Mo_isObject_1 : fetch 53 1 = some (.bipush 8, 2, 0, 0, 0) := rfl
theorem f_Mo_isObject_3 : fetch 53 3 = some (.if_icmp .lt 18, 3, 21, 0, 0) := rfl
theorem f_Mo_isObject_6 : fetch 53 6 = some (.iload_n 1, 1, 0, 0, 0) := rfl
theorem f_Mo_isObject_7 : fetch 53 7 = some (.bipush 8, 2, 0, 0, 0) := rfl
theorem f_Mo_isObject_9 : fetch 53 9 = some (.aload_n 0, 1, 0, 0, 0) := rfl
theorem f_Mo_isObject_10 : fetch 53 10 = some (.getfield 129, 3, 8, 4, 64) := rfl
theorem f_Mo_isObject_13 : fetch 53 13 = some (.iadd, 1, 0, 0, 0) := rfl
theorem f_Mo_isObject_14 : fetch 53 14 = some (.if_icmp .ge 7, 3, 21, 0, 0) := rfl
theorem f_Mo_isObject_17 : fetch 53 17 = some (.iconst 1, 1, 0, 0, 0) := rfl
theorem f_Mo_isObject_18 : fetch 53 18 = some (.goto 4, 3, 22, 0, 0) := rfl
theorem f_Mo_isObject_21 : fetch 53 21 = some (.iconst 0, 1, 0, 0, 0) := rfl
theorem f_Mo_isObject_22 : fetch 53 22 = some (.ireturn, 1, 2, 0, 0) := rfl
def F_Mo_isObject_22  (y0 : Bool) (σ : SG) : Option (Bool × SG) :=
  some (y0, σ)
set_option maxHeartbeats 4000000 in
theorem w_Mo_isObject_22 {b d : Nat} {sc : SC} {pre tl : List PE} {B : Nat} {Q : Option Value → List PE → Prop} {res : Bool × SG} (hB : B = b + pre.length)   (hQ : Q (some (.int (bz res.1))) (HH pre tl SHm B res.2)) (lv : LV) (σ : SG) (y0 : Bool)  (hF : F_Mo_isObject_22  y0 σ = some res) : Rn b sc d 53 22 lv [.int (bz (y0))] (HH pre tl SHm B σ) Q := by
  unfold F_Mo_isObject_22 at hF
  cases hF
  exact r_zreturn f_Mo_isObject_22 (bz_or (y0)) hQ
def F_Mo_isObject_21   (σ : SG) : Option (Bool × SG) :=
  F_Mo_isObject_22 (false) σ
set_option maxHeartbeats 4000000 in
theorem w_Mo_isObject_21 {b d : Nat} {sc : SC} {pre tl : List PE} {B : Nat} {Q : Option Value → List PE → Prop} {res : Bool × SG} (hB : B = b + pre.length)   (hQ : Q (some (.int (bz res.1))) (HH pre tl SHm B res.2)) (lv : LV) (σ : SG)   (hF : F_Mo_isObject_21   σ = some res) : Rn b sc d 53 21 lv [] (HH pre tl SHm B σ) Q := by
  unfold F_Mo_isObject_21 at hF
  refine r_iconst f_Mo_isObject_21 (v := 0) (by decide) ?_
  exact w_Mo_isObject_22 hB   hQ _ (σ) (false) hF
def F_Mo_isObject (a0 : Nat) (a1 : Int32) (σ : SG) : Option (Bool × SG) :=
  if a1 < (8 : Int32) then
  F_Mo_isObject_21 σ
  else if ((8 : Int32) + (σ.1 (a0) 4)) ≤ a1 then
  F_Mo_isObject_21 σ
  else F_Mo_isObject_22 (true) σ
set_option maxHeartbeats 4000000 in
theorem w_Mo_isObject {b d : Nat} {pre tl : List PE} {B : Nat} {Q : Option Value → List PE → Prop} {res : Bool × SG} (hB : B = b + pre.length)  {σ : SG} (a0 : Nat) (a1 : Int32) (ha0 : isC SHm (a0) 8 = true) (hF : F_Mo_isObject a0 a1 σ = some res) (hQ : Q (some (.int (bz res.1))) (HH pre tl SHm B res.2)) : Cl b d 53 [.ref (B + (a0)), .int (a1)] (HH pre tl SHm B σ) Q := by
  unfold Cl
  unfold F_Mo_isObject at hF
  refine r_iload_n f_Mo_isObject_0 rfl ?_
  refine r_bipush f_Mo_isObject_1 (v := 8) (by decide) ?_
  refine r_icmp_lt f_Mo_isObject_3 (fun c1 => ?_) (fun c1 => ?_)
  · rw [if_pos c1] at hF
    exact w_Mo_isObject_21 hB   hQ _ (σ) hF
  · rw [if_neg c1] at hF
    refine r_iload_n f_Mo_isObject_6 rfl ?_
    refine r_bipush f_Mo_isObject_7 (v := 8) (by decide) ?_
    refine r_aload_n f_Mo_isObject_9 rfl ?_
    refine t_geti hB ha0 f_Mo_isObject_10 rfl ?_
    refine r_iadd f_Mo_isObject_13 ?_
    refine r_icmp_ge f_Mo_isObject_14 (fun c2 => ?_) (fun c2 => ?_)
    · rw [if_pos c2] at hF
      exact w_Mo_isObject_21 hB   hQ _ (σ) hF
    · rw [if_neg c2] at hF
      refine r_iconst f_Mo_isObject_17 (v := 1) (by decide) ?_
      refine r_goto f_Mo_isObject_18 ?_
      exact w_Mo_isObject_22 hB   hQ _ (σ) (true) hF
theorem f_Mo_simple_0 : fetch 45 0 = some (.iload_n 2, 1, 0, 0, 0) := rfl
theorem f_Mo_simple_1 : fetch 45 1 = some (.tableswitch 286 0 16 #[83, 86, 94, 110, 126, 156, 172, 286, 286, 286, 286, 188, 206, 83, 214, 222, 235], 83, 287, 0, 0) := rfl
theorem f_Mo_simple_84 : fetch 45 84 = some (.goto 218, 3, 302, 0, 0) := rfl
theorem f_Mo_simple_87 : fetch 45 87 = some (.aload_n 0, 1, 0, 0, 0) := rfl
theorem f_Mo_simple_88 : fetch 45 88 = some (.iconst 1, 1, 0, 0, 0) := rfl
theorem f_Mo_simple_89 : fetch 45 89 = some (.invokevirtual 232, 3, 46, 1, 60) := rfl
theorem f_Mo_simple_92 : fetch 45 92 = some (.goto 210, 3, 302, 0, 0) := rfl
theorem f_Mo_simple_95 : fetch 45 95 = some (.aload_n 0, 1, 0, 0, 0) := rfl
theorem f_Mo_simple_96 : fetch 45 96 = some (.aload_n 0, 1, 0, 0, 0) := rfl
theorem f_Mo_simple_97 : fetch 45 97 = some (.aload_n 0, 1, 0, 0, 0) := rfl
theorem f_Mo_simple_98 : fetch 45 98 = some (.iload_n 1, 1, 0, 0, 0) := rfl
theorem f_Mo_simple_99 : fetch 45 99 = some (.invokevirtual 157, 3, 47, 1, 61) := rfl
theorem f_Mo_simple_102 : fetch 45 102 = some (.invokevirtual 235, 3, 48, 1, 62) := rfl
theorem f_Mo_simple_105 : fetch 45 105 = some (.invokevirtual 232, 3, 46, 1, 60) := rfl
theorem f_Mo_simple_108 : fetch 45 108 = some (.goto 194, 3, 302, 0, 0) := rfl
theorem f_Mo_simple_111 : fetch 45 111 = some (.aload_n 0, 1, 0, 0, 0) := rfl
theorem f_Mo_simple_112 : fetch 45 112 = some (.aload_n 0, 1, 0, 0, 0) := rfl
theorem f_Mo_simple_113 : fetch 45 113 = some (.aload_n 0, 1, 0, 0, 0) := rfl
theorem f_Mo_simple_114 : fetch 45 114 = some (.iload_n 1, 1, 0, 0, 0) := rfl
theorem f_Mo_simple_115 : fetch 45 115 = some (.invokevirtual 157, 3, 47, 1, 61) := rfl
theorem f_Mo_simple_118 : fetch 45 118 = some (.invokevirtual 235, 3, 48, 1, 62) := rfl
theorem f_Mo_simple_121 : fetch 45 121 = some (.invokevirtual 238, 3, 50, 1, 63) := rfl
theorem f_Mo_simple_124 : fetch 45 124 = some (.goto 178, 3, 302, 0, 0) := rfl
theorem f_Mo_simple_127 : fetch 45 127 = some (.aload_n 0, 1, 0, 0, 0) := rfl
theorem f_Mo_simple_128 : fetch 45 128 = some (.aload_n 0, 1, 0, 0, 0) := rfl
theorem f_Mo_simple_129 : fetch 45 129 = some (.aload_n 0, 1, 0, 0, 0) := rfl
theorem f_Mo_simple_130 : fetch 45 130 = some (.iload_n 1, 1, 0, 0, 0) := rfl
theorem f_Mo_simple_131 : fetch 45 131 = some (.invokevirtual 157, 3, 47, 1, 61) := rfl
theorem f_Mo_simple_134 : fetch 45 134 = some (.invokevirtual 235, 3, 48, 1, 62) := rfl
theorem f_Mo_simple_137 : fetch 45 137 = some (.iconst 1, 1, 0, 0, 0) := rfl
theorem f_Mo_simple_138 : fetch 45 138 = some (.if_icmp .ne 7, 3, 145, 0, 0) := rfl
theorem f_Mo_simple_141 : fetch 45 141 = some (.iconst 1, 1, 0, 0, 0) := rfl
theorem f_Mo_simple_142 : fetch 45 142 = some (.goto 4, 3, 146, 0, 0) := rfl
theorem f_Mo_simple_145 : fetch 45 145 = some (.iconst 0, 1, 0, 0, 0) := rfl
theorem f_Mo_simple_146 : fetch 45 146 = some (.invokevirtual 229, 3, 49, 1, 64) := rfl
theorem f_Mo_simple_149 : fetch 45 149 = some (.aload_n 0, 1, 0, 0, 0) := rfl
theorem f_Mo_simple_150 : fetch 45 150 = some (.iconst 3, 1, 0, 0, 0) := rfl
theorem f_Mo_simple_151 : fetch 45 151 = some (.invokevirtual 232, 3, 46, 1, 60) := rfl
theorem f_Mo_simple_154 : fetch 45 154 = some (.goto 148, 3, 302, 0, 0) := rfl
theorem f_Mo_simple_157 : fetch 45 157 = some (.aload_n 0, 1, 0, 0, 0) := rfl
theorem f_Mo_simple_158 : fetch 45 158 = some (.aload_n 0, 1, 0, 0, 0) := rfl
theorem f_Mo_simple_159 : fetch 45 159 = some (.aload_n 0, 1, 0, 0, 0) := rfl
theorem f_Mo_simple_160 : fetch 45 160 = some (.iload_n 1, 1, 0, 0, 0) := rfl
theorem f_Mo_simple_161 : fetch 45 161 = some (.invokevirtual 157, 3, 47, 1, 61) := rfl
theorem f_Mo_simple_164 : fetch 45 164 = some (.invokevirtual 241, 3, 52, 1, 65) := rfl
theorem f_Mo_simple_167 : fetch 45 167 = some (.invokevirtual 232, 3, 46, 1, 60) := rfl
theorem f_Mo_simple_170 : fetch 45 170 = some (.goto 132, 3, 302, 0, 0) := rfl
theorem f_Mo_simple_173 : fetch 45 173 = some (.aload_n 0, 1, 0, 0, 0) := rfl
theorem f_Mo_simple_174 : fetch 45 174 = some (.aload_n 0, 1, 0, 0, 0) := rfl
theorem f_Mo_simple_175 : fetch 45 175 = some (.aload_n 0, 1, 0, 0, 0) := rfl
theorem f_Mo_simple_176 : fetch 45 176 = some (.iload_n 1, 1, 0, 0, 0) := rfl
theorem f_Mo_simple_177 : fetch 45 177 = some (.invokevirtual 157, 3, 47, 1, 61) := rfl
theorem f_Mo_simple_180 : fetch 45 180 = some (.invokevirtual 241, 3, 52, 1, 65) := rfl
theorem f_Mo_simple_183 : fetch 45 183 = some (.invokevirtual 238, 3, 50, 1, 63) := rfl
theorem f_Mo_simple_186 : fetch 45 186 = some (.goto 116, 3, 302, 0, 0) := rfl
theorem f_Mo_simple_189 : fetch 45 189 = some (.aload_n 0, 1, 0, 0, 0) := rfl
theorem f_Mo_simple_190 : fetch 45 190 = some (.invokevirtual 200, 3, 51, 0, 66) := rfl
theorem f_Mo_simple_193 : fetch 45 193 = some (.istore_n 3, 1, 0, 0, 0) := rfl
theorem f_Mo_simple_194 : fetch 45 194 = some (.aload_n 0, 1, 0, 0, 0) := rfl
theorem f_Mo_simple_195 : fetch 45 195 = some (.iload_n 3, 1, 0, 0, 0) := rfl
theorem f_Mo_simple_196 : fetch 45 196 = some (.invokevirtual 232, 3, 46, 1, 60) := rfl
theorem f_Mo_simple_199 : fetch 45 199 = some (.aload_n 0, 1, 0, 0, 0) := rfl
theorem f_Mo_simple_200 : fetch 45 200 = some (.iload_n 3, 1, 0, 0, 0) := rfl
theorem f_Mo_simple_201 : fetch 45 201 = some (.invokevirtual 232, 3, 46, 1, 60) := rfl
theorem f_Mo_simple_204 : fetch 45 204 = some (.goto 98, 3, 302, 0, 0) := rfl
theorem f_Mo_simple_207 : fetch 45 207 = some (.aload_n 0, 1, 0, 0, 0) := rfl
theorem f_Mo_simple_208 : fetch 45 208 = some (.invokevirtual 200, 3, 51, 0, 66) := rfl
theorem f_Mo_simple_211 : fetch 45 211 = some (.pop, 1, 0, 0, 0) := rfl
theorem f_Mo_simple_212 : fetch 45 212 = some (.goto 90, 3, 302, 0, 0) := rfl
theorem f_Mo_simple_215 : fetch 45 215 = some (.aload_n 0, 1, 0, 0, 0) := rfl
theorem f_Mo_simple_216 : fetch 45 216 = some (.iconst 1, 1, 0, 0, 0) := rfl
theorem f_Mo_simple_217 : fetch 45 217 = some (.invokevirtual 238, 3, 50, 1, 63) := rfl
theorem f_Mo_simple_220 : fetch 45 220 = some (.goto 82, 3, 302, 0, 0) := rfl
theorem f_Mo_simple_223 : fetch 45 223 = some (.aload_n 0, 1, 0, 0, 0) := rfl
theorem f_Mo_simple_224 : fetch 45 224 = some (.iconst 1, 1, 0, 0, 0) := rfl
theorem f_Mo_simple_225 : fetch 45 225 = some (.invokevirtual 238, 3, 50, 1, 63) := rfl
theorem f_Mo_simple_228 : fetch 45 228 = some (.aload_n 0, 1, 0, 0, 0) := rfl
theorem f_Mo_simple_229 : fetch 45 229 = some (.iconst 1, 1, 0, 0, 0) := rfl
theorem f_Mo_simple_230 : fetch 45 230 = some (.invokevirtual 238, 3, 50, 1, 63) := rfl
theorem f_Mo_simple_233 : fetch 45 233 = some (.goto 69, 3, 302, 0, 0) := rfl
theorem f_Mo_simple_236 : fetch 45 236 = some (.aload_n 0, 1, 0, 0, 0) := rfl
theorem f_Mo_simple_237 : fetch 45 237 = some (.aload_n 0, 1, 0, 0, 0) := rfl
theorem f_Mo_simple_238 : fetch 45 238 = some (.iload_n 1, 1, 0, 0, 0) := rfl
theorem f_Mo_simple_239 : fetch 45 239 = some (.invokevirtual 157, 3, 47, 1, 61) := rfl
theorem f_Mo_simple_242 : fetch 45 242 = some (.iconst 4, 1, 0, 0, 0) := rfl
theorem f_Mo_simple_243 : fetch 45 243 = some (.if_icmp .eq 24, 3, 267, 0, 0) := rfl
theorem f_Mo_simple_246 : fetch 45 246 = some (.aload_n 0, 1, 0, 0, 0) := rfl
theorem f_Mo_simple_247 : fetch 45 247 = some (.iload_n 1, 1, 0, 0, 0) := rfl
theorem f_Mo_simple_248 : fetch 45 248 = some (.invokevirtual 157, 3, 47, 1, 61) := rfl
theorem f_Mo_simple_251 : fetch 45 251 = some (.iconst 5, 1, 0, 0, 0) := rfl
theorem f_Mo_simple_252 : fetch 45 252 = some (.if_icmp .eq 15, 3, 267, 0, 0) := rfl
theorem f_Mo_simple_255 : fetch 45 255 = some (.aload_n 0, 1, 0, 0, 0) := rfl
theorem f_Mo_simple_256 : fetch 45 256 = some (.aload_n 0, 1, 0, 0, 0) := rfl
theorem f_Mo_simple_257 : fetch 45 257 = some (.iload_n 1, 1, 0, 0, 0) := rfl
theorem f_Mo_simple_258 : fetch 45 258 = some (.invokevirtual 157, 3, 47, 1, 61) := rfl
theorem f_Mo_simple_261 : fetch 45 261 = some (.invokevirtual 244, 3, 53, 1, 67) := rfl
theorem f_Mo_simple_264 : fetch 45 264 = some (.ifCond .eq 7, 3, 271, 0, 0) := rfl
theorem f_Mo_simple_267 : fetch 45 267 = some (.iconst 1, 1, 0, 0, 0) := rfl
theorem f_Mo_simple_268 : fetch 45 268 = some (.goto 4, 3, 272, 0, 0) := rfl
theorem f_Mo_simple_271 : fetch 45 271 = some (.iconst 0, 1, 0, 0, 0) := rfl
theorem f_Mo_simple_272 : fetch 45 272 = some (.invokevirtual 229, 3, 49, 1, 64) := rfl
theorem f_Mo_simple_275 : fetch 45 275 = some (.aload_n 0, 1, 0, 0, 0) := rfl
theorem f_Mo_simple_276 : fetch 45 276 = some (.aload_n 0, 1, 0, 0, 0) := rfl
theorem f_Mo_simple_277 : fetch 45 277 = some (.iload_n 1, 1, 0, 0, 0) := rfl
theorem f_Mo_simple_278 : fetch 45 278 = some (.invokevirtual 157, 3, 47, 1, 61) := rfl
theorem f_Mo_simple_281 : fetch 45 281 = some (.invokevirtual 232, 3, 46, 1, 60) := rfl
theorem f_Mo_simple_284 : fetch 45 284 = some (.goto 18, 3, 302, 0, 0) := rfl
theorem f_Mo_simple_287 : fetch 45 287 = some (.aload_n 0, 1, 0, 0, 0) := rfl
theorem f_Mo_simple_288 : fetch 45 288 = some (.iconst 1, 1, 0, 0, 0) := rfl
theorem f_Mo_simple_289 : fetch 45 289 = some (.invokevirtual 238, 3, 50, 1, 63) := rfl
theorem f_Mo_simple_292 : fetch 45 292 = some (.aload_n 0, 1, 0, 0, 0) := rfl
theorem f_Mo_simple_293 : fetch 45 293 = some (.iconst 1, 1, 0, 0, 0) := rfl
theorem f_Mo_simple_294 : fetch 45 294 = some (.invokevirtual 238, 3, 50, 1, 63) := rfl
theorem f_Mo_simple_297 : fetch 45 297 = some (.aload_n 0, 1, 0, 0, 0) := rfl
theorem f_Mo_simple_298 : fetch 45 298 = some (.iconst 1, 1, 0, 0, 0) := rfl
theorem f_Mo_simple_299 : fetch 45 299 = some (.invokevirtual 232, 3, 46, 1, 60) := rfl
theorem f_Mo_simple_302 : fetch 45 302 = some (.return_, 1, 0, 0, 0) := rfl
def F_Mo_simple_302   (σ : SG) : Option (SG) :=
  some σ
set_option maxHeartbeats 4000000 in
theorem w_Mo_simple_302 {b d : Nat} {sc : SC} {pre tl : List PE} {B : Nat} {Q : Option Value → List PE → Prop} {res : SG} (hB : B = b + pre.length) (hd : 2 ≤ d)   (hQ : Q none (HH pre tl SHm B res)) (lv : LV) (σ : SG)   (hF : F_Mo_simple_302   σ = some res) : Rn b sc d 45 302 lv [] (HH pre tl SHm B σ) Q := by
  obtain ⟨e0, rfl⟩ : ∃ e, d = e + 1 := ⟨d - 1, by omega⟩
  unfold F_Mo_simple_302 at hF
  cases hF
  exact r_return f_Mo_simple_302 hQ
def F_Mo_simple_287  (x0 : Nat) (σ : SG) : Option (SG) :=
  match F_Mo_take (x0) ((1 : Int32)) σ with
  | none => none
  | some q1 =>
  match F_Mo_take (x0) ((1 : Int32)) q1 with
  | none => none
  | some q2 =>
  match F_Mo_push (x0) ((1 : Int32)) q2 with
  | none => none
  | some q3 =>
  F_Mo_simple_302 q3
set_option maxHeartbeats 4000000 in
theorem w_Mo_simple_287 {b d : Nat} {sc : SC} {pre tl : List PE} {B : Nat} {Q : Option Value → List PE → Prop} {res : SG} (hB : B = b + pre.length) (hd : 2 ≤ d)   (hQ : Q none (HH pre tl SHm B res)) (lv : LV) (σ : SG) (x0 : Nat) (hx0 : isC SHm (x0) 8 = true) (l0 : lv.lookup 0 = some (.ref (B + (x0)))) (hF : F_Mo_simple_287  x0 σ = some res) : Rn b sc d 45 287 lv [] (HH pre tl SHm B σ) Q := by
  obtain ⟨e0, rfl⟩ : ∃ e, d = e + 1 := ⟨d - 1, by omega⟩
  unfold F_Mo_simple_287 at hF
  refine r_aload_n f_Mo_simple_287 l0 ?_
  refine r_iconst f_Mo_simple_288 (v := 1) (by decide) ?_
  cases hq1 : F_Mo_take (x0) ((1 : Int32)) σ with
  | none => simp only [hq1] at hF; cases hF
  | some q1 =>
    simp only [hq1] at hF
    refine t_V1v hB hx0 rfl rfl f_Mo_simple_289 (by decide) (Nat.le_of_ble_eq_true rfl) (Nat.le_of_ble_eq_true rfl) (w_Mo_take hB (by omega) (x0) ((1 : Int32)) hx0 hq1 ⟨rfl, ?_⟩)
    refine r_aload_n f_Mo_simple_292 l0 ?_
    refine r_iconst f_Mo_simple_293 (v := 1) (by decide) ?_
    cases hq2 : F_Mo_take (x0) ((1 : Int32)) q1 with
    | none => simp only [hq2] at hF; cases hF
    | some q2 =>
      simp only [hq2] at hF
      refine t_V1v hB hx0 rfl rfl f_Mo_simple_294 (by decide) (Nat.le_of_ble_eq_true rfl) (Nat.le_of_ble_eq_true rfl) (w_Mo_take hB (by omega) (x0) ((1 : Int32)) hx0 hq2 ⟨rfl, ?_⟩)
      refine r_aload_n f_Mo_simple_297 l0 ?_
      refine r_iconst f_Mo_simple_298 (v := 1) (by decide) ?_
      cases hq3 : F_Mo_push (x0) ((1 : Int32)) q2 with
      | none => simp only [hq3] at hF; cases hF
      | some q3 =>
        simp only [hq3] at hF
        refine t_V1v hB hx0 rfl rfl f_Mo_simple_299 (by decide) (Nat.le_of_ble_eq_true rfl) (Nat.le_of_ble_eq_true rfl) (w_Mo_push hB  (x0) ((1 : Int32)) hx0 hq3 ⟨rfl, ?_⟩)
        exact w_Mo_simple_302 hB hd  hQ _ (q3) hF
def F_Mo_simple_272  (x0 : Nat) (x1 : Int32) (y0 : Nat) (y1 : Bool) (σ : SG) : Option (SG) :=
  match F_Mo_need (y0) (y1) σ with
  | none => none
  | some q4 =>
  match F_Mo_operand (x0) (x1) q4 with
  | none => none
  | some q5 =>
  match F_Mo_push (x0) (q5.1) q5.2 with
  | none => none
  | some q6 =>
  F_Mo_simple_302 q6
set_option maxHeartbeats 4000000 in
theorem w_Mo_simple_272 {b d : Nat} {sc : SC} {pre tl : List PE} {B : Nat} {Q : Option Value → List PE → Prop} {res : SG} (hB : B = b + pre.length) (hd : 2 ≤ d)   (hQ : Q none (HH pre tl SHm B res)) (lv : LV) (σ : SG) (x0 : Nat) (x1 : Int32) (y0 : Nat) (y1 : Bool) (hx0 : isC SHm (x0) 8 = true) (hy0 : isC SHm (y0) 8 = true) (l0 : lv.lookup 0 = some (.ref (B + (x0)))) (l1 : lv.lookup 1 = some (.int (x1))) (hF : F_Mo_simple_272  x0 x1 y0 y1 σ = some res) : Rn b sc d 45 272 lv [.int (bz (y1)), .ref (B + (y0))] (HH pre tl SHm B σ) Q := by
  obtain ⟨e0, rfl⟩ : ∃ e, d = e + 1 := ⟨d - 1, by omega⟩
  unfold F_Mo_simple_272 at hF
  cases hq4 : F_Mo_need (y0) (y1) σ with
  | none => simp only [hq4] at hF; cases hF
  | some q4 =>
    simp only [hq4] at hF
    refine t_V1v hB hy0 rfl rfl f_Mo_simple_272 (by decide) (Nat.le_of_ble_eq_true rfl) (Nat.le_of_ble_eq_true rfl) (w_Mo_need hB  (y0) (y1) hy0 hq4 ⟨rfl, ?_⟩)
    refine r_aload_n f_Mo_simple_275 l0 ?_
    refine r_aload_n f_Mo_simple_276 l0 ?_
    refine r_iload_n f_Mo_simple_277 l1 ?_
    cases hq5 : F_Mo_operand (x0) (x1) q4 with
    | none => simp only [hq5] at hF; cases hF
    | some q5 =>
      simp only [hq5] at hF
      refine t_V1i hB hx0 rfl rfl f_Mo_simple_278 (by decide) (Nat.le_of_ble_eq_true rfl) (Nat.le_of_ble_eq_true rfl) (w_Mo_operand hB  (x0) (x1) hx0 hq5 ⟨_, rfl, ?_⟩)
      cases hq6 : F_Mo_push (x0) (q5.1) q5.2 with
      | none => simp only [hq6] at hF; cases hF
      | some q6 =>
        simp only [hq6] at hF
        refine t_V1v hB hx0 rfl rfl f_Mo_simple_281 (by decide) (Nat.le_of_ble_eq_true rfl) (Nat.le_of_ble_eq_true rfl) (w_Mo_push hB  (x0) (q5.1) hx0 hq6 ⟨rfl, ?_⟩)
        refine r_goto f_Mo_simple_284 ?_
        exact w_Mo_simple_302 hB hd  hQ _ (q6) hF
def F_Mo_simple_267  (x0 : Nat) (x1 : Int32) (y0 : Nat) (σ : SG) : Option (SG) :=
  F_Mo_simple_272 (x0) (x1) (y0) (true) σ
set_option maxHeartbeats 4000000 in
theorem w_Mo_simple_267 {b d : Nat} {sc : SC} {pre tl : List PE} {B : Nat} {Q : Option Value → List PE → Prop} {res : SG} (hB : B = b + pre.length) (hd : 2 ≤ d)   (hQ : Q none (HH pre tl SHm B res)) (lv : LV) (σ : SG) (x0 : Nat) (x1 : Int32) (y0 : Nat) (hx0 : isC SHm (x0) 8 = true) (hy0 : isC SHm (y0) 8 = true) (l0 : lv.lookup 0 = some (.ref (B + (x0)))) (l1 : lv.lookup 1 = some (.int (x1))) (hF : F_Mo_simple_267  x0 x1 y0 σ = some res) : Rn b sc d 45 267 lv [.ref (B + (y0))] (HH pre tl SHm B σ) Q := by
  obtain ⟨e0, rfl⟩ : ∃ e, d = e + 1 := ⟨d - 1, by omega⟩
  unfold F_Mo_simple_267 at hF
  refine r_iconst f_Mo_simple_267 (v := 1) (by decide) ?_
  refine r_goto f_Mo_simple_268 ?_
  exact w_Mo_simple_272 hB hd  hQ _ (σ) (x0) (x1) (y0) (true) hx0 hy0 l0 l1 hF
def F_Mo_simple_146  (x0 : Nat) (y0 : Nat) (y1 : Bool) (σ : SG) : Option (SG) :=
  match F_Mo_need (y0) (y1) σ with
  | none => none
  | some q7 =>
  match F_Mo_push (x0) ((3 : Int32)) q7 with
  | none => none
  | some q8 =>
  F_Mo_simple_302 q8
set_option maxHeartbeats 4000000 in
theorem w_Mo_simple_146 {b d : Nat} {sc : SC} {pre tl : List PE} {B : Nat} {Q : Option Value → List PE → Prop} {res : SG} (hB : B = b + pre.length) (hd : 2 ≤ d)   (hQ : Q none (HH pre tl SHm B res)) (lv : LV) (σ : SG) (x0 : Nat) (y0 : Nat) (y1 : Bool) (hx0 : isC SHm (x0) 8 = true) (hy0 : isC SHm (y0) 8 = true) (l0 : lv.lookup 0 = some (.ref (B + (x0)))) (hF : F_Mo_simple_146  x0 y0 y1 σ = some res) : Rn b sc d 45 146 lv [.int (bz (y1)), .ref (B + (y0))] (HH pre tl SHm B σ) Q := by
  obtain ⟨e0, rfl⟩ : ∃ e, d = e + 1 := ⟨d - 1, by omega⟩
  unfold F_Mo_simple_146 at hF
  cases hq7 : F_Mo_need (y0) (y1) σ with
  | none => simp only [hq7] at hF; cases hF
  | some q7 =>
    simp only [hq7] at hF
    refine t_V1v hB hy0 rfl rfl f_Mo_simple_146 (by decide) (Nat.le_of_ble_eq_true rfl) (Nat.le_of_ble_eq_true rfl) (w_Mo_need hB  (y0) (y1) hy0 hq7 ⟨rfl, ?_⟩)
    refine r_aload_n f_Mo_simple_149 l0 ?_
    refine r_iconst f_Mo_simple_150 (v := 3) (by decide) ?_
    cases hq8 : F_Mo_push (x0) ((3 : Int32)) q7 with
    | none => simp only [hq8] at hF; cases hF
    | some q8 =>
      simp only [hq8] at hF
      refine t_V1v hB hx0 rfl rfl f_Mo_simple_151 (by decide) (Nat.le_of_ble_eq_true rfl) (Nat.le_of_ble_eq_true rfl) (w_Mo_push hB  (x0) ((3 : Int32)) hx0 hq8 ⟨rfl, ?_⟩)
      refine r_goto f_Mo_simple_154 ?_
      exact w_Mo_simple_302 hB hd  hQ _ (q8) hF
def F_Mo_simple_84   (σ : SG) : Option (SG) :=
  F_Mo_simple_302 σ
set_option maxHeartbeats 4000000 in
theorem w_Mo_simple_84 {b d : Nat} {sc : SC} {pre tl : List PE} {B : Nat} {Q : Option Value → List PE → Prop} {res : SG} (hB : B = b + pre.length) (hd : 2 ≤ d)   (hQ : Q none (HH pre tl SHm B res)) (lv : LV) (σ : SG)   (hF : F_Mo_simple_84   σ = some res) : Rn b sc d 45 84 lv [] (HH pre tl SHm B σ) Q := by
  obtain ⟨e0, rfl⟩ : ∃ e, d = e + 1 := ⟨d - 1, by omega⟩
  unfold F_Mo_simple_84 at hF
  refine r_goto f_Mo_simple_84 ?_
  exact w_Mo_simple_302 hB hd  hQ _ (σ) hF
def F_Mo_simple (a0 : Nat) (a1 : Int32) (a2 : Int32) (σ : SG) : Option (SG) :=
  if a2 = 0 then
  F_Mo_simple_84 σ
  else if a2 = 1 then
  match F_Mo_push (a0) ((1 : Int32)) σ with
  | none => none
  | some q11 =>
  F_Mo_simple_302 q11
  else if a2 = 2 then
  match F_Mo_operand (a0) (a1) σ with
  | none => none
  | some q13 =>
  match F_Mo_localAt (a0) (q13.1) q13.2 with
  | none => none
  | some q14 =>
  match F_Mo_push (a0) (q14.1) q14.2 with
  | none => none
  | some q15 =>
  F_Mo_simple_302 q15
  else if a2 = 3 then
  match F_Mo_operand (a0) (a1) σ with
  | none => none
  | some q17 =>
  match F_Mo_localAt (a0) (q17.1) q17.2 with
  | none => none
  | some q18 =>
  match F_Mo_take (a0) (q18.1) q18.2 with
  | none => none
  | some q19 =>
  F_Mo_simple_302 q19
  else if a2 = 4 then
  match F_Mo_operand (a0) (a1) σ with
  | none => none
  | some q21 =>
  match F_Mo_localAt (a0) (q21.1) q21.2 with
  | none => none
  | some q22 =>
  if q22.1 = (1 : Int32) then
  F_Mo_simple_146 (a0) (a0) (true) q22.2
  else F_Mo_simple_146 (a0) (a0) (false) q22.2
  else if a2 = 5 then
  match F_Mo_operand (a0) (a1) σ with
  | none => none
  | some q25 =>
  match F_Mo_argumentAt (a0) (q25.1) q25.2 with
  | none => none
  | some q26 =>
  match F_Mo_push (a0) (q26.1) q26.2 with
  | none => none
  | some q27 =>
  F_Mo_simple_302 q27
  else if a2 = 6 then
  match F_Mo_operand (a0) (a1) σ with
  | none => none
  | some q29 =>
  match F_Mo_argumentAt (a0) (q29.1) q29.2 with
  | none => none
  | some q30 =>
  match F_Mo_take (a0) (q30.1) q30.2 with
  | none => none
  | some q31 =>
  F_Mo_simple_302 q31
  else if a2 = 7 then
  F_Mo_simple_287 (a0) σ
  else if a2 = 8 then
  F_Mo_simple_287 (a0) σ
  else if a2 = 9 then
  F_Mo_simple_287 (a0) σ
  else if a2 = 10 then
  F_Mo_simple_287 (a0) σ
  else if a2 = 11 then
  match F_Mo_pop (a0) σ with
  | none => none
  | some q37 =>
  match F_Mo_push (a0) (q37.1) q37.2 with
  | none => none
  | some q38 =>
  match F_Mo_push (a0) (q37.1) q38 with
  | none => none
  | some q39 =>
  F_Mo_simple_302 q39
  else if a2 = 12 then
  match F_Mo_pop (a0) σ with
  | none => none
  | some q41 =>
  F_Mo_simple_302 q41.2
  else if a2 = 13 then
  F_Mo_simple_84 σ
  else if a2 = 14 then
  match F_Mo_take (a0) ((1 : Int32)) σ with
  | none => none
  | some q44 =>
  F_Mo_simple_302 q44
  else if a2 = 15 then
  match F_Mo_take (a0) ((1 : Int32)) σ with
  | none => none
  | some q46 =>
  match F_Mo_take (a0) ((1 : Int32)) q46 with
  | none => none
  | some q47 =>
  F_Mo_simple_302 q47
  else if a2 = 16 then
  match F_Mo_operand (a0) (a1) σ with
  | none => none
  | some q49 =>
  if q49.1 = (4 : Int32) then
  F_Mo_simple_267 (a0) (a1) (a0) q49.2
  else match F_Mo_operand (a0) (a1) q49.2 with
  | none => none
  | some q51 =>
  if q51.1 = (5 : Int32) then
  F_Mo_simple_267 (a0) (a1) (a0) q51.2
  else match F_Mo_operand (a0) (a1) q51.2 with
  | none => none
  | some q53 =>
  match F_Mo_isObject (a0) (q53.1) q53.2 with
  | none => none
  | some q54 =>
  if q54.1 = true then
  F_Mo_simple_267 (a0) (a1) (a0) q54.2
  else F_Mo_simple_272 (a0) (a1) (a0) (false) q54.2
  else F_Mo_simple_287 (a0) σ
set_option maxHeartbeats 4000000 in
theorem w_Mo_simple {b d : Nat} {pre tl : List PE} {B : Nat} {Q : Option Value → List PE → Prop} {res : SG} (hB : B = b + pre.length) (hd : 2 ≤ d)  {σ : SG} (a0 : Nat) (a1 : Int32) (a2 : Int32) (ha0 : isC SHm (a0) 8 = true) (hF : F_Mo_simple a0 a1 a2 σ = some res) (hQ : Q none (HH pre tl SHm B res)) : Cl b d 45 [.ref (B + (a0)), .int (a1), .int (a2)] (HH pre tl SHm B σ) Q := by
  obtain ⟨e0, rfl⟩ : ∃ e, d = e + 1 := ⟨d - 1, by omega⟩
  unfold Cl
  unfold F_Mo_simple at hF
  refine r_iload_n f_Mo_simple_0 rfl ?_
  by_cases c9 : a2 = 0
  · rw [if_pos c9] at hF
    refine r_tswI (t := 84) (off := 83) 0 f_Mo_simple_1 (by rw [c9]; decide) (by rw [c9]; decide) (by rfl) (by decide) ?_
    exact w_Mo_simple_84 hB hd  hQ _ (σ) hF
  rw [if_neg c9] at hF
  by_cases c10 : a2 = 1
  · rw [if_pos c10] at hF
    refine r_tswI (t := 87) (off := 86) 1 f_Mo_simple_1 (by rw [c10]; decide) (by rw [c10]; decide) (by rfl) (by decide) ?_
    refine r_aload_n f_Mo_simple_87 rfl ?_
    refine r_iconst f_Mo_simple_88 (v := 1) (by decide) ?_
    cases hq11 : F_Mo_push (a0) ((1 : Int32)) σ with
    | none => simp only [hq11] at hF; cases hF
    | some q11 =>
      simp only [hq11] at hF
      refine t_V1v hB ha0 rfl rfl f_Mo_simple_89 (by decide) (Nat.le_of_ble_eq_true rfl) (Nat.le_of_ble_eq_true rfl) (w_Mo_push hB  (a0) ((1 : Int32)) ha0 hq11 ⟨rfl, ?_⟩)
      refine r_goto f_Mo_simple_92 ?_
      exact w_Mo_simple_302 hB hd  hQ _ (q11) hF
  rw [if_neg c10] at hF
  by_cases c12 : a2 = 2
  · rw [if_pos c12] at hF
    refine r_tswI (t := 95) (off := 94) 2 f_Mo_simple_1 (by rw [c12]; decide) (by rw [c12]; decide) (by rfl) (by decide) ?_
    refine r_aload_n f_Mo_simple_95 rfl ?_
    refine r_aload_n f_Mo_simple_96 rfl ?_
    refine r_aload_n f_Mo_simple_97 rfl ?_
    refine r_iload_n f_Mo_simple_98 rfl ?_
    cases hq13 : F_Mo_operand (a0) (a1) σ with
    | none => simp only [hq13] at hF; cases hF
    | some q13 =>
      simp only [hq13] at hF
      refine t_V1i hB ha0 rfl rfl f_Mo_simple_99 (by decide) (Nat.le_of_ble_eq_true rfl) (Nat.le_of_ble_eq_true rfl) (w_Mo_operand hB  (a0) (a1) ha0 hq13 ⟨_, rfl, ?_⟩)
      cases hq14 : F_Mo_localAt (a0) (q13.1) q13.2 with
      | none => simp only [hq14] at hF; cases hF
      | some q14 =>
        simp only [hq14] at hF
        refine t_V1i hB ha0 rfl rfl f_Mo_simple_102 (by decide) (Nat.le_of_ble_eq_true rfl) (Nat.le_of_ble_eq_true rfl) (w_Mo_localAt hB (by omega) (a0) (q13.1) ha0 hq14 ⟨_, rfl, ?_⟩)
        cases hq15 : F_Mo_push (a0) (q14.1) q14.2 with
        | none => simp only [hq15] at hF; cases hF
        | some q15 =>
          simp only [hq15] at hF
          refine t_V1v hB ha0 rfl rfl f_Mo_simple_105 (by decide) (Nat.le_of_ble_eq_true rfl) (Nat.le_of_ble_eq_true rfl) (w_Mo_push hB  (a0) (q14.1) ha0 hq15 ⟨rfl, ?_⟩)
          refine r_goto f_Mo_simple_108 ?_
          exact w_Mo_simple_302 hB hd  hQ _ (q15) hF
  rw [if_neg c12] at hF
  by_cases c16 : a2 = 3
  · rw [if_pos c16] at hF
    refine r_tswI (t := 111) (off := 110) 3 f_Mo_simple_1 (by rw [c16]; decide) (by rw [c16]; decide) (by rfl) (by decide) ?_
    refine r_aload_n f_Mo_simple_111 rfl ?_
    refine r_aload_n f_Mo_simple_112 rfl ?_
    refine r_aload_n f_Mo_simple_113 rfl ?_
    refine r_iload_n f_Mo_simple_114 rfl ?_
    cases hq17 : F_Mo_operand (a0) (a1) σ with
    | none => simp only [hq17] at hF; cases hF
    | some q17 =>
      simp only [hq17] at hF
      refine t_V1i hB ha0 rfl rfl f_Mo_simple_115 (by decide) (Nat.le_of_ble_eq_true rfl) (Nat.le_of_ble_eq_true rfl) (w_Mo_operand hB  (a0) (a1) ha0 hq17 ⟨_, rfl, ?_⟩)
      cases hq18 : F_Mo_localAt (a0) (q17.1) q17.2 with
      | none => simp only [hq18] at hF; cases hF
      | some q18 =>
        simp only [hq18] at hF
        refine t_V1i hB ha0 rfl rfl f_Mo_simple_118 (by decide) (Nat.le_of_ble_eq_true rfl) (Nat.le_of_ble_eq_true rfl) (w_Mo_localAt hB (by omega) (a0) (q17.1) ha0 hq18 ⟨_, rfl, ?_⟩)
        cases hq19 : F_Mo_take (a0) (q18.1) q18.2 with
        | none => simp only [hq19] at hF; cases hF
        | some q19 =>
          simp only [hq19] at hF
          refine t_V1v hB ha0 rfl rfl f_Mo_simple_121 (by decide) (Nat.le_of_ble_eq_true rfl) (Nat.le_of_ble_eq_true rfl) (w_Mo_take hB (by omega) (a0) (q18.1) ha0 hq19 ⟨rfl, ?_⟩)
          refine r_goto f_Mo_simple_124 ?_
          exact w_Mo_simple_302 hB hd  hQ _ (q19) hF
  rw [if_neg c16] at hF
  by_cases c20 : a2 = 4
  · rw [if_pos c20] at hF
    refine r_tswI (t := 127) (off := 126) 4 f_Mo_simple_1 (by rw [c20]; decide) (by rw [c20]; decide) (by rfl) (by decide) ?_
    refine r_aload_n f_Mo_simple_127 rfl ?_
    refine r_aload_n f_Mo_simple_128 rfl ?_
    refine r_aload_n f_Mo_simple_129 rfl ?_
    refine r_iload_n f_Mo_simple_130 rfl ?_
    cases hq21 : F_Mo_operand (a0) (a1) σ with
    | none => simp only [hq21] at hF; cases hF
    | some q21 =>
      simp only [hq21] at hF
      refine t_V1i hB ha0 rfl rfl f_Mo_simple_131 (by decide) (Nat.le_of_ble_eq_true rfl) (Nat.le_of_ble_eq_true rfl) (w_Mo_operand hB  (a0) (a1) ha0 hq21 ⟨_, rfl, ?_⟩)
      cases hq22 : F_Mo_localAt (a0) (q21.1) q21.2 with
      | none => simp only [hq22] at hF; cases hF
      | some q22 =>
        simp only [hq22] at hF
        refine t_V1i hB ha0 rfl rfl f_Mo_simple_134 (by decide) (Nat.le_of_ble_eq_true rfl) (Nat.le_of_ble_eq_true rfl) (w_Mo_localAt hB (by omega) (a0) (q21.1) ha0 hq22 ⟨_, rfl, ?_⟩)
        refine r_iconst f_Mo_simple_137 (v := 1) (by decide) ?_
        refine r_icmp_ne f_Mo_simple_138 (fun c23 => ?_) (fun c23 => ?_)
        · rw [if_neg c23] at hF
          refine r_iconst f_Mo_simple_145 (v := 0) (by decide) ?_
          exact w_Mo_simple_146 hB hd  hQ _ (q22.2) (a0) (a0) (false) ha0 ha0 rfl hF
        · rw [if_pos (Decidable.not_not.mp c23)] at hF
          refine r_iconst f_Mo_simple_141 (v := 1) (by decide) ?_
          refine r_goto f_Mo_simple_142 ?_
          exact w_Mo_simple_146 hB hd  hQ _ (q22.2) (a0) (a0) (true) ha0 ha0 rfl hF
  rw [if_neg c20] at hF
  by_cases c24 : a2 = 5
  · rw [if_pos c24] at hF
    refine r_tswI (t := 157) (off := 156) 5 f_Mo_simple_1 (by rw [c24]; decide) (by rw [c24]; decide) (by rfl) (by decide) ?_
    refine r_aload_n f_Mo_simple_157 rfl ?_
    refine r_aload_n f_Mo_simple_158 rfl ?_
    refine r_aload_n f_Mo_simple_159 rfl ?_
    refine r_iload_n f_Mo_simple_160 rfl ?_
    cases hq25 : F_Mo_operand (a0) (a1) σ with
    | none => simp only [hq25] at hF; cases hF
    | some q25 =>
      simp only [hq25] at hF
      refine t_V1i hB ha0 rfl rfl f_Mo_simple_161 (by decide) (Nat.le_of_ble_eq_true rfl) (Nat.le_of_ble_eq_true rfl) (w_Mo_operand hB  (a0) (a1) ha0 hq25 ⟨_, rfl, ?_⟩)
      cases hq26 : F_Mo_argumentAt (a0) (q25.1) q25.2 with
      | none => simp only [hq26] at hF; cases hF
      | some q26 =>
        simp only [hq26] at hF
        refine t_V1i hB ha0 rfl rfl f_Mo_simple_164 (by decide) (Nat.le_of_ble_eq_true rfl) (Nat.le_of_ble_eq_true rfl) (w_Mo_argumentAt hB (by omega) (a0) (q25.1) ha0 hq26 ⟨_, rfl, ?_⟩)
        cases hq27 : F_Mo_push (a0) (q26.1) q26.2 with
        | none => simp only [hq27] at hF; cases hF
        | some q27 =>
          simp only [hq27] at hF
          refine t_V1v hB ha0 rfl rfl f_Mo_simple_167 (by decide) (Nat.le_of_ble_eq_true rfl) (Nat.le_of_ble_eq_true rfl) (w_Mo_push hB  (a0) (q26.1) ha0 hq27 ⟨rfl, ?_⟩)
          refine r_goto f_Mo_simple_170 ?_
          exact w_Mo_simple_302 hB hd  hQ _ (q27) hF
  rw [if_neg c24] at hF
  by_cases c28 : a2 = 6
  · rw [if_pos c28] at hF
    refine r_tswI (t := 173) (off := 172) 6 f_Mo_simple_1 (by rw [c28]; decide) (by rw [c28]; decide) (by rfl) (by decide) ?_
    refine r_aload_n f_Mo_simple_173 rfl ?_
    refine r_aload_n f_Mo_simple_174 rfl ?_
    refine r_aload_n f_Mo_simple_175 rfl ?_
    refine r_iload_n f_Mo_simple_176 rfl ?_
    cases hq29 : F_Mo_operand (a0) (a1) σ with
    | none => simp only [hq29] at hF; cases hF
    | some q29 =>
      simp only [hq29] at hF
      refine t_V1i hB ha0 rfl rfl f_Mo_simple_177 (by decide) (Nat.le_of_ble_eq_true rfl) (Nat.le_of_ble_eq_true rfl) (w_Mo_operand hB  (a0) (a1) ha0 hq29 ⟨_, rfl, ?_⟩)
      cases hq30 : F_Mo_argumentAt (a0) (q29.1) q29.2 with
      | none => simp only [hq30] at hF; cases hF
      | some q30 =>
        simp only [hq30] at hF
        refine t_V1i hB ha0 rfl rfl f_Mo_simple_180 (by decide) (Nat.le_of_ble_eq_true rfl) (Nat.le_of_ble_eq_true rfl) (w_Mo_argumentAt hB (by omega) (a0) (q29.1) ha0 hq30 ⟨_, rfl, ?_⟩)
        cases hq31 : F_Mo_take (a0) (q30.1) q30.2 with
        | none => simp only [hq31] at hF; cases hF
        | some q31 =>
          simp only [hq31] at hF
          refine t_V1v hB ha0 rfl rfl f_Mo_simple_183 (by decide) (Nat.le_of_ble_eq_true rfl) (Nat.le_of_ble_eq_true rfl) (w_Mo_take hB (by omega) (a0) (q30.1) ha0 hq31 ⟨rfl, ?_⟩)
          refine r_goto f_Mo_simple_186 ?_
          exact w_Mo_simple_302 hB hd  hQ _ (q31) hF
  rw [if_neg c28] at hF
  by_cases c32 : a2 = 7
  · rw [if_pos c32] at hF
    refine r_tswI (t := 287) (off := 286) 7 f_Mo_simple_1 (by rw [c32]; decide) (by rw [c32]; decide) (by rfl) (by decide) ?_
    exact w_Mo_simple_287 hB hd  hQ _ (σ) (a0) ha0 rfl hF
  rw [if_neg c32] at hF
  by_cases c33 : a2 = 8
  · rw [if_pos c33] at hF
    refine r_tswI (t := 287) (off := 286) 8 f_Mo_simple_1 (by rw [c33]; decide) (by rw [c33]; decide) (by rfl) (by decide) ?_
    exact w_Mo_simple_287 hB hd  hQ _ (σ) (a0) ha0 rfl hF
  rw [if_neg c33] at hF
  by_cases c34 : a2 = 9
  · rw [if_pos c34] at hF
    refine r_tswI (t := 287) (off := 286) 9 f_Mo_simple_1 (by rw [c34]; decide) (by rw [c34]; decide) (by rfl) (by decide) ?_
    exact w_Mo_simple_287 hB hd  hQ _ (σ) (a0) ha0 rfl hF
  rw [if_neg c34] at hF
  by_cases c35 : a2 = 10
  · rw [if_pos c35] at hF
    refine r_tswI (t := 287) (off := 286) 10 f_Mo_simple_1 (by rw [c35]; decide) (by rw [c35]; decide) (by rfl) (by decide) ?_
    exact w_Mo_simple_287 hB hd  hQ _ (σ) (a0) ha0 rfl hF
  rw [if_neg c35] at hF
  by_cases c36 : a2 = 11
  · rw [if_pos c36] at hF
    refine r_tswI (t := 189) (off := 188) 11 f_Mo_simple_1 (by rw [c36]; decide) (by rw [c36]; decide) (by rfl) (by decide) ?_
    refine r_aload_n f_Mo_simple_189 rfl ?_
    cases hq37 : F_Mo_pop (a0) σ with
    | none => simp only [hq37] at hF; cases hF
    | some q37 =>
      simp only [hq37] at hF
      refine t_V0i hB ha0 rfl rfl f_Mo_simple_190 (by decide) (Nat.le_of_ble_eq_true rfl) (Nat.le_of_ble_eq_true rfl) (w_Mo_pop hB  (a0) ha0 hq37 ⟨_, rfl, ?_⟩)
      refine r_istore_n f_Mo_simple_193 ?_
      refine r_aload_n f_Mo_simple_194 (lk_put_ne rfl (by decide) (Or.inl rfl)) ?_
      refine r_iload_n f_Mo_simple_195 lk_put ?_
      cases hq38 : F_Mo_push (a0) (q37.1) q37.2 with
      | none => simp only [hq38] at hF; cases hF
      | some q38 =>
        simp only [hq38] at hF
        refine t_V1v hB ha0 rfl rfl f_Mo_simple_196 (by decide) (Nat.le_of_ble_eq_true rfl) (Nat.le_of_ble_eq_true rfl) (w_Mo_push hB  (a0) (q37.1) ha0 hq38 ⟨rfl, ?_⟩)
        refine r_aload_n f_Mo_simple_199 (lk_put_ne rfl (by decide) (Or.inl rfl)) ?_
        refine r_iload_n f_Mo_simple_200 lk_put ?_
        cases hq39 : F_Mo_push (a0) (q37.1) q38 with
        | none => simp only [hq39] at hF; cases hF
        | some q39 =>
          simp only [hq39] at hF
          refine t_V1v hB ha0 rfl rfl f_Mo_simple_201 (by decide) (Nat.le_of_ble_eq_true rfl) (Nat.le_of_ble_eq_true rfl) (w_Mo_push hB  (a0) (q37.1) ha0 hq39 ⟨rfl, ?_⟩)
          refine r_goto f_Mo_simple_204 ?_
          exact w_Mo_simple_302 hB hd  hQ _ (q39) hF
  rw [if_neg c36] at hF
  by_cases c40 : a2 = 12
  · rw [if_pos c40] at hF
    refine r_tswI (t := 207) (off := 206) 12 f_Mo_simple_1 (by rw [c40]; decide) (by rw [c40]; decide) (by rfl) (by decide) ?_
    refine r_aload_n f_Mo_simple_207 rfl ?_
    cases hq41 : F_Mo_pop (a0) σ with
    | none => simp only [hq41] at hF; cases hF
    | some q41 =>
      simp only [hq41] at hF
      refine t_V0i hB ha0 rfl rfl f_Mo_simple_208 (by decide) (Nat.le_of_ble_eq_true rfl) (Nat.le_of_ble_eq_true rfl) (w_Mo_pop hB  (a0) ha0 hq41 ⟨_, rfl, ?_⟩)
      refine r_pop f_Mo_simple_211 rfl ?_
      refine r_goto f_Mo_simple_212 ?_
      exact w_Mo_simple_302 hB hd  hQ _ (q41.2) hF
  rw [if_neg c40] at hF
  by_cases c42 : a2 = 13
  · rw [if_pos c42] at hF
    refine r_tswI (t := 84) (off := 83) 13 f_Mo_simple_1 (by rw [c42]; decide) (by rw [c42]; decide) (by rfl) (by decide) ?_
    exact w_Mo_simple_84 hB hd  hQ _ (σ) hF
  rw [if_neg c42] at hF
  by_cases c43 : a2 = 14
  · rw [if_pos c43] at hF
    refine r_tswI (t := 215) (off := 214) 14 f_Mo_simple_1 (by rw [c43]; decide) (by rw [c43]; decide) (by rfl) (by decide) ?_
    refine r_aload_n f_Mo_simple_215 rfl ?_
    refine r_iconst f_Mo_simple_216 (v := 1) (by decide) ?_
    cases hq44 : F_Mo_take (a0) ((1 : Int32)) σ with
    | none => simp only [hq44] at hF; cases hF
    | some q44 =>
      simp only [hq44] at hF
      refine t_V1v hB ha0 rfl rfl f_Mo_simple_217 (by decide) (Nat.le_of_ble_eq_true rfl) (Nat.le_of_ble_eq_true rfl) (w_Mo_take hB (by omega) (a0) ((1 : Int32)) ha0 hq44 ⟨rfl, ?_⟩)
      refine r_goto f_Mo_simple_220 ?_
      exact w_Mo_simple_302 hB hd  hQ _ (q44) hF
  rw [if_neg c43] at hF
  by_cases c45 : a2 = 15
  · rw [if_pos c45] at hF
    refine r_tswI (t := 223) (off := 222) 15 f_Mo_simple_1 (by rw [c45]; decide) (by rw [c45]; decide) (by rfl) (by decide) ?_
    refine r_aload_n f_Mo_simple_223 rfl ?_
    refine r_iconst f_Mo_simple_224 (v := 1) (by decide) ?_
    cases hq46 : F_Mo_take (a0) ((1 : Int32)) σ with
    | none => simp only [hq46] at hF; cases hF
    | some q46 =>
      simp only [hq46] at hF
      refine t_V1v hB ha0 rfl rfl f_Mo_simple_225 (by decide) (Nat.le_of_ble_eq_true rfl) (Nat.le_of_ble_eq_true rfl) (w_Mo_take hB (by omega) (a0) ((1 : Int32)) ha0 hq46 ⟨rfl, ?_⟩)
      refine r_aload_n f_Mo_simple_228 rfl ?_
      refine r_iconst f_Mo_simple_229 (v := 1) (by decide) ?_
      cases hq47 : F_Mo_take (a0) ((1 : Int32)) q46 with
      | none => simp only [hq47] at hF; cases hF
      | some q47 =>
        simp only [hq47] at hF
        refine t_V1v hB ha0 rfl rfl f_Mo_simple_230 (by decide) (Nat.le_of_ble_eq_true rfl) (Nat.le_of_ble_eq_true rfl) (w_Mo_take hB (by omega) (a0) ((1 : Int32)) ha0 hq47 ⟨rfl, ?_⟩)
        refine r_goto f_Mo_simple_233 ?_
        exact w_Mo_simple_302 hB hd  hQ _ (q47) hF
  rw [if_neg c45] at hF
  by_cases c48 : a2 = 16
  · rw [if_pos c48] at hF
    refine r_tswI (t := 236) (off := 235) 16 f_Mo_simple_1 (by rw [c48]; decide) (by rw [c48]; decide) (by rfl) (by decide) ?_
    refine r_aload_n f_Mo_simple_236 rfl ?_
    refine r_aload_n f_Mo_simple_237 rfl ?_
    refine r_iload_n f_Mo_simple_238 rfl ?_
    cases hq49 : F_Mo_operand (a0) (a1) σ with
    | none => simp only [hq49] at hF; cases hF
    | some q49 =>
      simp only [hq49] at hF
      refine t_V1i hB ha0 rfl rfl f_Mo_simple_239 (by decide) (Nat.le_of_ble_eq_true rfl) (Nat.le_of_ble_eq_true rfl) (w_Mo_operand hB  (a0) (a1) ha0 hq49 ⟨_, rfl, ?_⟩)
      refine r_iconst f_Mo_simple_242 (v := 4) (by decide) ?_
      refine r_icmp_eq f_Mo_simple_243 (fun c50 => ?_) (fun c50 => ?_)
      · rw [if_pos c50] at hF
        exact w_Mo_simple_267 hB hd  hQ _ (q49.2) (a0) (a1) (a0) ha0 ha0 rfl rfl hF
      · rw [if_neg c50] at hF
        refine r_aload_n f_Mo_simple_246 rfl ?_
        refine r_iload_n f_Mo_simple_247 rfl ?_
        cases hq51 : F_Mo_operand (a0) (a1) q49.2 with
        | none => simp only [hq51] at hF; cases hF
        | some q51 =>
          simp only [hq51] at hF
          refine t_V1i hB ha0 rfl rfl f_Mo_simple_248 (by decide) (Nat.le_of_ble_eq_true rfl) (Nat.le_of_ble_eq_true rfl) (w_Mo_operand hB  (a0) (a1) ha0 hq51 ⟨_, rfl, ?_⟩)
          refine r_iconst f_Mo_simple_251 (v := 5) (by decide) ?_
          refine r_icmp_eq f_Mo_simple_252 (fun c52 => ?_) (fun c52 => ?_)
          · rw [if_pos c52] at hF
            exact w_Mo_simple_267 hB hd  hQ _ (q51.2) (a0) (a1) (a0) ha0 ha0 rfl rfl hF
          · rw [if_neg c52] at hF
            refine r_aload_n f_Mo_simple_255 rfl ?_
            refine r_aload_n f_Mo_simple_256 rfl ?_
            refine r_iload_n f_Mo_simple_257 rfl ?_
            cases hq53 : F_Mo_operand (a0) (a1) q51.2 with
            | none => simp only [hq53] at hF; cases hF
            | some q53 =>
              simp only [hq53] at hF
              refine t_V1i hB ha0 rfl rfl f_Mo_simple_258 (by decide) (Nat.le_of_ble_eq_true rfl) (Nat.le_of_ble_eq_true rfl) (w_Mo_operand hB  (a0) (a1) ha0 hq53 ⟨_, rfl, ?_⟩)
              cases hq54 : F_Mo_isObject (a0) (q53.1) q53.2 with
              | none => simp only [hq54] at hF; cases hF
              | some q54 =>
                simp only [hq54] at hF
                refine t_V1i hB ha0 rfl rfl f_Mo_simple_261 (by decide) (Nat.le_of_ble_eq_true rfl) (Nat.le_of_ble_eq_true rfl) (w_Mo_isObject hB  (a0) (q53.1) ha0 hq54 ⟨_, rfl, ?_⟩)
                refine r_if_eq f_Mo_simple_264 (fun c55 => ?_) (fun c55 => ?_)
                · rw [if_neg (bz_nt c55)] at hF
                  refine r_iconst f_Mo_simple_271 (v := 0) (by decide) ?_
                  exact w_Mo_simple_272 hB hd  hQ _ (q54.2) (a0) (a1) (a0) (false) ha0 ha0 rfl rfl hF
                · rw [if_pos (bz_t c55)] at hF
                  exact w_Mo_simple_267 hB hd  hQ _ (q54.2) (a0) (a1) (a0) ha0 ha0 rfl rfl hF
  rw [if_neg c48] at hF
  refine r_tswO f_Mo_simple_1 (by have zc9 := lv_neT c9 (by decide : (0 : Int32).toInt = 0); have zc10 := lv_neT c10 (by decide : (1 : Int32).toInt = 1); have zc12 := lv_neT c12 (by decide : (2 : Int32).toInt = 2); have zc16 := lv_neT c16 (by decide : (3 : Int32).toInt = 3); have zc20 := lv_neT c20 (by decide : (4 : Int32).toInt = 4); have zc24 := lv_neT c24 (by decide : (5 : Int32).toInt = 5); have zc28 := lv_neT c28 (by decide : (6 : Int32).toInt = 6); have zc32 := lv_neT c32 (by decide : (7 : Int32).toInt = 7); have zc33 := lv_neT c33 (by decide : (8 : Int32).toInt = 8); have zc34 := lv_neT c34 (by decide : (9 : Int32).toInt = 9); have zc35 := lv_neT c35 (by decide : (10 : Int32).toInt = 10); have zc36 := lv_neT c36 (by decide : (11 : Int32).toInt = 11); have zc40 := lv_neT c40 (by decide : (12 : Int32).toInt = 12); have zc42 := lv_neT c42 (by decide : (13 : Int32).toInt = 13); have zc43 := lv_neT c43 (by decide : (14 : Int32).toInt = 14); have zc45 := lv_neT c45 (by decide : (15 : Int32).toInt = 15); have zc48 := lv_neT c48 (by decide : (16 : Int32).toInt = 16); omega) ?_
  exact w_Mo_simple_287 hB hd  hQ _ (σ) (a0) ha0 rfl hF
theorem f_Mo_fieldAt_0 : fetch 55 0 = some (.aload_n 0, 1, 0, 0, 0) := rfl
theorem f_Mo_fieldAt_1 : fetch 55 1 = some (.iload_n 1, 1, 0, 0, 0) := rfl
theorem f_Mo_fieldAt_2 : fetch 55 2 = some (.bipush 16, 2, 0, 0, 0) := rfl
theorem f_Mo_fieldAt_4 : fetch 55 4 = some (.if_icmp .ge 33, 3, 37, 0, 0) := rfl
theorem f_Mo_fieldAt_7 : fetch 55 7 = some (.iload_n 1, 1, 0, 0, 0) := rfl
theorem f_Mo_fieldAt_8 : fetch 55 8 = some (.iconst 4, 1, 0, 0, 0) := rfl
theorem f_Mo_fieldAt_9 : fetch 55 9 = some (.idiv, 1, 0, 0, 0) := rfl
theorem f_Mo_fieldAt_10 : fetch 55 10 = some (.aload_n 0, 1, 0, 0, 0) := rfl
theorem f_Mo_fieldAt_11 : fetch 55 11 = some (.getfield 129, 3, 8, 4, 64) := rfl
theorem f_Mo_fieldAt_14 : fetch 55 14 = some (.if_icmp .ge 23, 3, 37, 0, 0) := rfl
theorem f_Mo_fieldAt_17 : fetch 55 17 = some (.iload_n 1, 1, 0, 0, 0) := rfl
theorem f_Mo_fieldAt_18 : fetch 55 18 = some (.iconst 4, 1, 0, 0, 0) := rfl
theorem f_Mo_fieldAt_19 : fetch 55 19 = some (.irem, 1, 0, 0, 0) := rfl
theorem f_Mo_fieldAt_20 : fetch 55 20 = some (.aload_n 0, 1, 0, 0, 0) := rfl
theorem f_Mo_fieldAt_21 : fetch 55 21 = some (.getfield 13, 3, 8, 5, 28) := rfl
theorem f_Mo_fieldAt_24 : fetch 55 24 = some (.iload_n 1, 1, 0, 0, 0) := rfl
theorem f_Mo_fieldAt_25 : fetch 55 25 = some (.iconst 4, 1, 0, 0, 0) := rfl
theorem f_Mo_fieldAt_26 : fetch 55 26 = some (.idiv, 1, 0, 0, 0) := rfl
theorem f_Mo_fieldAt_27 : fetch 55 27 = some (.iconst 3, 1, 0, 0, 0) := rfl
theorem f_Mo_fieldAt_28 : fetch 55 28 = some (.iand, 1, 0, 0, 0) := rfl
theorem f_Mo_fieldAt_29 : fetch 55 29 = some (.iaload, 1, 0, 0, 0) := rfl
theorem f_Mo_fieldAt_30 : fetch 55 30 = some (.if_icmp .ge 7, 3, 37, 0, 0) := rfl
theorem f_Mo_fieldAt_33 : fetch 55 33 = some (.iconst 1, 1, 0, 0, 0) := rfl
theorem f_Mo_fieldAt_34 : fetch 55 34 = some (.goto 4, 3, 38, 0, 0) := rfl
theorem f_Mo_fieldAt_37 : fetch 55 37 = some (.iconst 0, 1, 0, 0, 0) := rfl
theorem f_Mo_fieldAt_38 : fetch 55 38 = some (.invokevirtual 229, 3, 49, 1, 64) := rfl
theorem f_Mo_fieldAt_41 : fetch 55 41 = some (.aload_n 0, 1, 0, 0, 0) := rfl
theorem f_Mo_fieldAt_42 : fetch 55 42 = some (.getfield 181, 3, 8, 27, 66) := rfl
theorem f_Mo_fieldAt_45 : fetch 55 45 = some (.ifCond .eq 12, 3, 57, 0, 0) := rfl
theorem f_Mo_fieldAt_48 : fetch 55 48 = some (.aload_n 0, 1, 0, 0, 0) := rfl
theorem f_Mo_fieldAt_49 : fetch 55 49 = some (.getfield 16, 3, 8, 6, 29) := rfl
theorem f_Mo_fieldAt_52 : fetch 55 52 = some (.iload_n 1, 1, 0, 0, 0) := rfl
theorem f_Mo_fieldAt_53 : fetch 55 53 = some (.iaload, 1, 0, 0, 0) := rfl
theorem f_Mo_fieldAt_54 : fetch 55 54 = some (.goto 4, 3, 58, 0, 0) := rfl
theorem f_Mo_fieldAt_57 : fetch 55 57 = some (.iconst 0, 1, 0, 0, 0) := rfl
theorem f_Mo_fieldAt_58 : fetch 55 58 = some (.ireturn, 1, 0, 0, 0) := rfl
def F_Mo_fieldAt_58  (y0 : Int32) (σ : SG) : Option (Int32 × SG) :=
  some (y0, σ)
set_option maxHeartbeats 4000000 in
theorem w_Mo_fieldAt_58 {b d : Nat} {sc : SC} {pre tl : List PE} {B : Nat} {Q : Option Value → List PE → Prop} {res : Int32 × SG} (hB : B = b + pre.length) (hd : 1 ≤ d)   (hQ : Q (some (.int res.1)) (HH pre tl SHm B res.2)) (lv : LV) (σ : SG) (y0 : Int32)  (hF : F_Mo_fieldAt_58  y0 σ = some res) : Rn b sc d 55 58 lv [.int (y0)] (HH pre tl SHm B σ) Q := by
  obtain ⟨e0, rfl⟩ : ∃ e, d = e + 1 := ⟨d - 1, by omega⟩
  unfold F_Mo_fieldAt_58 at hF
  cases hF
  exact r_ireturn f_Mo_fieldAt_58 hQ
def F_Mo_fieldAt_38  (x0 : Nat) (x1 : Int32) (y0 : Nat) (y1 : Bool) (σ : SG) : Option (Int32 × SG) :=
  match F_Mo_need (y0) (y1) σ with
  | none => none
  | some q1 =>
  if (zb (q1.1 (x0) 27)) = true then
  if x1 < 0 ∨ 16 ≤ (x1).toNatClampNeg then none else
  F_Mo_fieldAt_58 ((q1.2.2.2.1 ((cref SHm (x0) 6)) ((x1).toNatClampNeg))) q1
  else F_Mo_fieldAt_58 ((0 : Int32)) q1
set_option maxHeartbeats 4000000 in
theorem w_Mo_fieldAt_38 {b d : Nat} {sc : SC} {pre tl : List PE} {B : Nat} {Q : Option Value → List PE → Prop} {res : Int32 × SG} (hB : B = b + pre.length) (hd : 1 ≤ d)   (hQ : Q (some (.int res.1)) (HH pre tl SHm B res.2)) (lv : LV) (σ : SG) (x0 : Nat) (x1 : Int32) (y0 : Nat) (y1 : Bool) (hx0 : isC SHm (x0) 8 = true) (hy0 : isC SHm (y0) 8 = true) (l0 : lv.lookup 0 = some (.ref (B + (x0)))) (l1 : lv.lookup 1 = some (.int (x1))) (hF : F_Mo_fieldAt_38  x0 x1 y0 y1 σ = some res) : Rn b sc d 55 38 lv [.int (bz (y1)), .ref (B + (y0))] (HH pre tl SHm B σ) Q := by
  obtain ⟨e0, rfl⟩ : ∃ e, d = e + 1 := ⟨d - 1, by omega⟩
  unfold F_Mo_fieldAt_38 at hF
  cases hq1 : F_Mo_need (y0) (y1) σ with
  | none => simp only [hq1] at hF; cases hF
  | some q1 =>
    simp only [hq1] at hF
    refine t_V1v hB hy0 rfl rfl f_Mo_fieldAt_38 (by decide) (Nat.le_of_ble_eq_true rfl) (Nat.le_of_ble_eq_true rfl) (w_Mo_need hB  (y0) (y1) hy0 hq1 ⟨rfl, ?_⟩)
    refine r_aload_n f_Mo_fieldAt_41 l0 ?_
    refine t_getz hB hx0 f_Mo_fieldAt_42 rfl ?_
    refine r_if_eq f_Mo_fieldAt_45 (fun c2 => ?_) (fun c2 => ?_)
    · rw [if_neg (bz_nt c2)] at hF
      refine r_iconst f_Mo_fieldAt_57 (v := 0) (by decide) ?_
      exact w_Mo_fieldAt_58 hB hd  hQ _ (q1) ((0 : Int32)) hF
    · rw [if_pos (bz_t c2)] at hF
      refine r_aload_n f_Mo_fieldAt_48 l0 ?_
      refine t_getc hB hx0 f_Mo_fieldAt_49 rfl ?_
      refine r_iload_n f_Mo_fieldAt_52 l1 ?_
      by_cases c3 : x1 < 0 ∨ 16 ≤ (x1).toNatClampNeg
      · rw [if_pos c3] at hF; cases hF
      rw [if_neg c3] at hF
      refine t_iald hB (cc_8_6 hx0) f_Mo_fieldAt_53 c3 ?_
      refine r_goto f_Mo_fieldAt_54 ?_
      exact w_Mo_fieldAt_58 hB hd  hQ _ (q1) ((q1.2.2.2.1 ((cref SHm (x0) 6)) ((x1).toNatClampNeg))) hF
def F_Mo_fieldAt_37  (x0 : Nat) (x1 : Int32) (y0 : Nat) (σ : SG) : Option (Int32 × SG) :=
  F_Mo_fieldAt_38 (x0) (x1) (y0) (false) σ
set_option maxHeartbeats 4000000 in
theorem w_Mo_fieldAt_37 {b d : Nat} {sc : SC} {pre tl : List PE} {B : Nat} {Q : Option Value → List PE → Prop} {res : Int32 × SG} (hB : B = b + pre.length) (hd : 1 ≤ d)   (hQ : Q (some (.int res.1)) (HH pre tl SHm B res.2)) (lv : LV) (σ : SG) (x0 : Nat) (x1 : Int32) (y0 : Nat) (hx0 : isC SHm (x0) 8 = true) (hy0 : isC SHm (y0) 8 = true) (l0 : lv.lookup 0 = some (.ref (B + (x0)))) (l1 : lv.lookup 1 = some (.int (x1))) (hF : F_Mo_fieldAt_37  x0 x1 y0 σ = some res) : Rn b sc d 55 37 lv [.ref (B + (y0))] (HH pre tl SHm B σ) Q := by
  obtain ⟨e0, rfl⟩ : ∃ e, d = e + 1 := ⟨d - 1, by omega⟩
  unfold F_Mo_fieldAt_37 at hF
  refine r_iconst f_Mo_fieldAt_37 (v := 0) (by decide) ?_
  exact w_Mo_fieldAt_38 hB hd  hQ _ (σ) (x0) (x1) (y0) (false) hx0 hy0 l0 l1 hF
def F_Mo_fieldAt (a0 : Nat) (a1 : Int32) (σ : SG) : Option (Int32 × SG) :=
  if (16 : Int32) ≤ a1 then
  F_Mo_fieldAt_37 (a0) (a1) (a0) σ
  else if (σ.1 (a0) 4) ≤ (a1 / (4 : Int32)) then
  F_Mo_fieldAt_37 (a0) (a1) (a0) σ
  else if ((a1 / (4 : Int32)) &&& (3 : Int32)) < 0 ∨ 4 ≤ (((a1 / (4 : Int32)) &&& (3 : Int32))).toNatClampNeg then none else
  if (σ.2.2.2.1 ((cref SHm (a0) 5)) ((((a1 / (4 : Int32)) &&& (3 : Int32))).toNatClampNeg)) ≤ (a1 - a1 / (4 : Int32) * (4 : Int32)) then
  F_Mo_fieldAt_37 (a0) (a1) (a0) σ
  else F_Mo_fieldAt_38 (a0) (a1) (a0) (true) σ
set_option maxHeartbeats 4000000 in
theorem w_Mo_fieldAt {b d : Nat} {pre tl : List PE} {B : Nat} {Q : Option Value → List PE → Prop} {res : Int32 × SG} (hB : B = b + pre.length) (hd : 1 ≤ d)  {σ : SG} (a0 : Nat) (a1 : Int32) (ha0 : isC SHm (a0) 8 = true) (hF : F_Mo_fieldAt a0 a1 σ = some res) (hQ : Q (some (.int res.1)) (HH pre tl SHm B res.2)) : Cl b d 55 [.ref (B + (a0)), .int (a1)] (HH pre tl SHm B σ) Q := by
  obtain ⟨e0, rfl⟩ : ∃ e, d = e + 1 := ⟨d - 1, by omega⟩
  unfold Cl
  unfold F_Mo_fieldAt at hF
  refine r_aload_n f_Mo_fieldAt_0 rfl ?_
  refine r_iload_n f_Mo_fieldAt_1 rfl ?_
  refine r_bipush f_Mo_fieldAt_2 (v := 16) (by decide) ?_
  refine r_icmp_ge f_Mo_fieldAt_4 (fun c4 => ?_) (fun c4 => ?_)
  · rw [if_pos c4] at hF
    exact w_Mo_fieldAt_37 hB hd  hQ _ (σ) (a0) (a1) (a0) ha0 ha0 rfl rfl hF
  · rw [if_neg c4] at hF
    refine r_iload_n f_Mo_fieldAt_7 rfl ?_
    refine r_iconst f_Mo_fieldAt_8 (v := 4) (by decide) ?_
    refine r_idiv f_Mo_fieldAt_9 (by decide) ?_
    refine r_aload_n f_Mo_fieldAt_10 rfl ?_
    refine t_geti hB ha0 f_Mo_fieldAt_11 rfl ?_
    refine r_icmp_ge f_Mo_fieldAt_14 (fun c5 => ?_) (fun c5 => ?_)
    · rw [if_pos c5] at hF
      exact w_Mo_fieldAt_37 hB hd  hQ _ (σ) (a0) (a1) (a0) ha0 ha0 rfl rfl hF
    · rw [if_neg c5] at hF
      refine r_iload_n f_Mo_fieldAt_17 rfl ?_
      refine r_iconst f_Mo_fieldAt_18 (v := 4) (by decide) ?_
      refine r_irem f_Mo_fieldAt_19 (by decide) ?_
      refine r_aload_n f_Mo_fieldAt_20 rfl ?_
      refine t_getc hB ha0 f_Mo_fieldAt_21 rfl ?_
      refine r_iload_n f_Mo_fieldAt_24 rfl ?_
      refine r_iconst f_Mo_fieldAt_25 (v := 4) (by decide) ?_
      refine r_idiv f_Mo_fieldAt_26 (by decide) ?_
      refine r_iconst f_Mo_fieldAt_27 (v := 3) (by decide) ?_
      refine r_iand f_Mo_fieldAt_28 ?_
      by_cases c6 : ((a1 / (4 : Int32)) &&& (3 : Int32)) < 0 ∨ 4 ≤ (((a1 / (4 : Int32)) &&& (3 : Int32))).toNatClampNeg
      · rw [if_pos c6] at hF; cases hF
      rw [if_neg c6] at hF
      refine t_iald hB (cc_8_5 ha0) f_Mo_fieldAt_29 c6 ?_
      refine r_icmp_ge f_Mo_fieldAt_30 (fun c7 => ?_) (fun c7 => ?_)
      · rw [if_pos c7] at hF
        exact w_Mo_fieldAt_37 hB hd  hQ _ (σ) (a0) (a1) (a0) ha0 ha0 rfl rfl hF
      · rw [if_neg c7] at hF
        refine r_iconst f_Mo_fieldAt_33 (v := 1) (by decide) ?_
        refine r_goto f_Mo_fieldAt_34 ?_
        exact w_Mo_fieldAt_38 hB hd  hQ _ (σ) (a0) (a1) (a0) (true) ha0 ha0 rfl rfl hF
theorem f_Mo_taken_0 : fetch 56 0 = some (.aload_n 0, 1, 0, 0, 0) := rfl
theorem f_Mo_taken_1 : fetch 56 1 = some (.iload_n 2, 1, 0, 0, 0) := rfl
theorem f_Mo_taken_2 : fetch 56 2 = some (.invokevirtual 238, 3, 50, 1, 63) := rfl
theorem f_Mo_taken_5 : fetch 56 5 = some (.iload_n 1, 1, 0, 0, 0) := rfl
theorem f_Mo_taken_6 : fetch 56 6 = some (.ifCond .le 8, 3, 14, 0, 0) := rfl
theorem f_Mo_taken_9 : fetch 56 9 = some (.aload_n 0, 1, 0, 0, 0) := rfl
theorem f_Mo_taken_10 : fetch 56 10 = some (.iload_n 1, 1, 0, 0, 0) := rfl
theorem f_Mo_taken_11 : fetch 56 11 = some (.invokevirtual 238, 3, 50, 1, 63) := rfl
theorem f_Mo_taken_14 : fetch 56 14 = some (.iload_n 3, 1, 0, 0, 0) := rfl
theorem f_Mo_taken_15 : fetch 56 15 = some (.ifCond .le 8, 3, 23, 0, 0) := rfl
theorem f_Mo_taken_18 : fetch 56 18 = some (.aload_n 0, 1, 0, 0, 0) := rfl
theorem f_Mo_taken_19 : fetch 56 19 = some (.iload_n 3, 1, 0, 0, 0) := rfl
theorem f_Mo_taken_20 : fetch 56 20 = some (.invokevirtual 232, 3, 46, 1, 60) := rfl
theorem f_Mo_taken_23 : fetch 56 23 = some (.return_, 1, 0, 0, 0) := rfl
def F_Mo_taken_23   (σ : SG) : Option (SG) :=
  some σ
set_option maxHeartbeats 4000000 in
theorem w_Mo_taken_23 {b d : Nat} {sc : SC} {pre tl : List PE} {B : Nat} {Q : Option Value → List PE → Prop} {res : SG} (hB : B = b + pre.length) (hd : 2 ≤ d)   (hQ : Q none (HH pre tl SHm B res)) (lv : LV) (σ : SG)   (hF : F_Mo_taken_23   σ = some res) : Rn b sc d 56 23 lv [] (HH pre tl SHm B σ) Q := by
  obtain ⟨e0, rfl⟩ : ∃ e, d = e + 1 := ⟨d - 1, by omega⟩
  unfold F_Mo_taken_23 at hF
  cases hF
  exact r_return f_Mo_taken_23 hQ
def F_Mo_taken_14  (x0 : Nat) (x3 : Int32) (σ : SG) : Option (SG) :=
  if x3 ≤ 0 then
  F_Mo_taken_23 σ
  else match F_Mo_push (x0) (x3) σ with
  | none => none
  | some q2 =>
  F_Mo_taken_23 q2
set_option maxHeartbeats 4000000 in
theorem w_Mo_taken_14 {b d : Nat} {sc : SC} {pre tl : List PE} {B : Nat} {Q : Option Value → List PE → Prop} {res : SG} (hB : B = b + pre.length) (hd : 2 ≤ d)   (hQ : Q none (HH pre tl SHm B res)) (lv : LV) (σ : SG) (x0 : Nat) (x3 : Int32) (hx0 : isC SHm (x0) 8 = true) (l0 : lv.lookup 0 = some (.ref (B + (x0)))) (l3 : lv.lookup 3 = some (.int (x3))) (hF : F_Mo_taken_14  x0 x3 σ = some res) : Rn b sc d 56 14 lv [] (HH pre tl SHm B σ) Q := by
  obtain ⟨e0, rfl⟩ : ∃ e, d = e + 1 := ⟨d - 1, by omega⟩
  unfold F_Mo_taken_14 at hF
  refine r_iload_n f_Mo_taken_14 l3 ?_
  refine r_if_le f_Mo_taken_15 (fun c1 => ?_) (fun c1 => ?_)
  · rw [if_pos c1] at hF
    exact w_Mo_taken_23 hB hd  hQ _ (σ) hF
  · rw [if_neg c1] at hF
    refine r_aload_n f_Mo_taken_18 l0 ?_
    refine r_iload_n f_Mo_taken_19 l3 ?_
    cases hq2 : F_Mo_push (x0) (x3) σ with
    | none => simp only [hq2] at hF; cases hF
    | some q2 =>
      simp only [hq2] at hF
      refine t_V1v hB hx0 rfl rfl f_Mo_taken_20 (by decide) (Nat.le_of_ble_eq_true rfl) (Nat.le_of_ble_eq_true rfl) (w_Mo_push hB  (x0) (x3) hx0 hq2 ⟨rfl, ?_⟩)
      exact w_Mo_taken_23 hB hd  hQ _ (q2) hF
def F_Mo_taken (a0 : Nat) (a1 : Int32) (a2 : Int32) (a3 : Int32) (σ : SG) : Option (SG) :=
  match F_Mo_take (a0) (a2) σ with
  | none => none
  | some q3 =>
  if a1 ≤ 0 then
  F_Mo_taken_14 (a0) (a3) q3
  else match F_Mo_take (a0) (a1) q3 with
  | none => none
  | some q5 =>
  F_Mo_taken_14 (a0) (a3) q5
set_option maxHeartbeats 4000000 in
theorem w_Mo_taken {b d : Nat} {pre tl : List PE} {B : Nat} {Q : Option Value → List PE → Prop} {res : SG} (hB : B = b + pre.length) (hd : 2 ≤ d)  {σ : SG} (a0 : Nat) (a1 : Int32) (a2 : Int32) (a3 : Int32) (ha0 : isC SHm (a0) 8 = true) (hF : F_Mo_taken a0 a1 a2 a3 σ = some res) (hQ : Q none (HH pre tl SHm B res)) : Cl b d 56 [.ref (B + (a0)), .int (a1), .int (a2), .int (a3)] (HH pre tl SHm B σ) Q := by
  obtain ⟨e0, rfl⟩ : ∃ e, d = e + 1 := ⟨d - 1, by omega⟩
  unfold Cl
  unfold F_Mo_taken at hF
  refine r_aload_n f_Mo_taken_0 rfl ?_
  refine r_iload_n f_Mo_taken_1 rfl ?_
  cases hq3 : F_Mo_take (a0) (a2) σ with
  | none => simp only [hq3] at hF; cases hF
  | some q3 =>
    simp only [hq3] at hF
    refine t_V1v hB ha0 rfl rfl f_Mo_taken_2 (by decide) (Nat.le_of_ble_eq_true rfl) (Nat.le_of_ble_eq_true rfl) (w_Mo_take hB (by omega) (a0) (a2) ha0 hq3 ⟨rfl, ?_⟩)
    refine r_iload_n f_Mo_taken_5 rfl ?_
    refine r_if_le f_Mo_taken_6 (fun c4 => ?_) (fun c4 => ?_)
    · rw [if_pos c4] at hF
      exact w_Mo_taken_14 hB hd  hQ _ (q3) (a0) (a3) ha0 rfl rfl hF
    · rw [if_neg c4] at hF
      refine r_aload_n f_Mo_taken_9 rfl ?_
      refine r_iload_n f_Mo_taken_10 rfl ?_
      cases hq5 : F_Mo_take (a0) (a1) q3 with
      | none => simp only [hq5] at hF; cases hF
      | some q5 =>
        simp only [hq5] at hF
        refine t_V1v hB ha0 rfl rfl f_Mo_taken_11 (by decide) (Nat.le_of_ble_eq_true rfl) (Nat.le_of_ble_eq_true rfl) (w_Mo_take hB (by omega) (a0) (a1) ha0 hq5 ⟨rfl, ?_⟩)
        exact w_Mo_taken_14 hB hd  hQ _ (q5) (a0) (a3) ha0 rfl rfl hF
theorem f_Mo_things_0 : fetch 54 0 = some (.iload_n 2, 1, 0, 0, 0) := rfl
theorem f_Mo_things_1 : fetch 54 1 = some (.bipush 21, 2, 0, 0, 0) := rfl
theorem f_Mo_things_3 : fetch 54 3 = some (.if_icmp .ge 11, 3, 14, 0, 0) := rfl
theorem f_Mo_things_6 : fetch 54 6 = some (.aload_n 0, 1, 0, 0, 0) := rfl
theorem f_Mo_things_7 : fetch 54 7 = some (.iload_n 1, 1, 0, 0, 0) := rfl
theorem f_Mo_things_8 : fetch 54 8 = some (.invokevirtual 157, 3, 47, 1, 61) := rfl
theorem f_Mo_things_11 : fetch 54 11 = some (.goto 4, 3, 15, 0, 0) := rfl
theorem f_Mo_things_14 : fetch 54 14 = some (.iconst 0, 1, 0, 0, 0) := rfl
theorem f_Mo_things_15 : fetch 54 15 = some (.istore_n 3, 1, 0, 0, 0) := rfl
theorem f_Mo_things_16 : fetch 54 16 = some (.iload_n 2, 1, 0, 0, 0) := rfl
theorem f_Mo_things_17 : fetch 54 17 = some (.tableswitch 287 17 31 #[75, 103, 126, 149, 182, 192, 202, 217, 227, 237, 247, 257, 267, 267, 277], 75, 304, 0, 0) := rfl
theorem f_Mo_things_92 : fetch 54 92 = some (.aload_n 0, 1, 0, 0, 0) := rfl
theorem f_Mo_things_93 : fetch 54 93 = some (.iload_n 3, 1, 0, 0, 0) := rfl
theorem f_Mo_things_94 : fetch 54 94 = some (.aload_n 0, 1, 0, 0, 0) := rfl
theorem f_Mo_things_95 : fetch 54 95 = some (.getfield 129, 3, 8, 4, 64) := rfl
theorem f_Mo_things_98 : fetch 54 98 = some (.if_icmp .ge 7, 3, 105, 0, 0) := rfl
theorem f_Mo_things_101 : fetch 54 101 = some (.iconst 1, 1, 0, 0, 0) := rfl
theorem f_Mo_things_102 : fetch 54 102 = some (.goto 4, 3, 106, 0, 0) := rfl
theorem f_Mo_things_105 : fetch 54 105 = some (.iconst 0, 1, 0, 0, 0) := rfl
theorem f_Mo_things_106 : fetch 54 106 = some (.invokevirtual 229, 3, 49, 1, 64) := rfl
theorem f_Mo_things_109 : fetch 54 109 = some (.aload_n 0, 1, 0, 0, 0) := rfl
theorem f_Mo_things_110 : fetch 54 110 = some (.bipush 8, 2, 0, 0, 0) := rfl
theorem f_Mo_things_112 : fetch 54 112 = some (.iload_n 3, 1, 0, 0, 0) := rfl
theorem f_Mo_things_113 : fetch 54 113 = some (.iadd, 1, 0, 0, 0) := rfl
theorem f_Mo_things_114 : fetch 54 114 = some (.invokevirtual 232, 3, 46, 1, 60) := rfl
theorem f_Mo_things_117 : fetch 54 117 = some (.goto 194, 3, 311, 0, 0) := rfl
theorem f_Mo_things_120 : fetch 54 120 = some (.aload_n 0, 1, 0, 0, 0) := rfl
theorem f_Mo_things_121 : fetch 54 121 = some (.iload_n 3, 1, 0, 0, 0) := rfl
theorem f_Mo_things_122 : fetch 54 122 = some (.invokevirtual 247, 3, 55, 1, 68) := rfl
theorem f_Mo_things_125 : fetch 54 125 = some (.istore 4, 2, 0, 0, 0) := rfl
theorem f_Mo_things_127 : fetch 54 127 = some (.aload_n 0, 1, 0, 0, 0) := rfl
theorem f_Mo_things_128 : fetch 54 128 = some (.iconst 0, 1, 0, 0, 0) := rfl
theorem f_Mo_things_129 : fetch 54 129 = some (.bipush 8, 2, 0, 0, 0) := rfl
theorem f_Mo_things_131 : fetch 54 131 = some (.iload_n 3, 1, 0, 0, 0) := rfl
theorem f_Mo_things_132 : fetch 54 132 = some (.iconst 4, 1, 0, 0, 0) := rfl
theorem f_Mo_things_133 : fetch 54 133 = some (.idiv, 1, 0, 0, 0) := rfl
theorem f_Mo_things_134 : fetch 54 134 = some (.iadd, 1, 0, 0, 0) := rfl
theorem f_Mo_things_135 : fetch 54 135 = some (.iload 4, 2, 0, 0, 0) := rfl
theorem f_Mo_things_137 : fetch 54 137 = some (.invokevirtual 250, 3, 56, 3, 69) := rfl
theorem f_Mo_things_140 : fetch 54 140 = some (.goto 171, 3, 311, 0, 0) := rfl
theorem f_Mo_things_143 : fetch 54 143 = some (.aload_n 0, 1, 0, 0, 0) := rfl
theorem f_Mo_things_144 : fetch 54 144 = some (.iload_n 3, 1, 0, 0, 0) := rfl
theorem f_Mo_things_145 : fetch 54 145 = some (.invokevirtual 247, 3, 55, 1, 68) := rfl
theorem f_Mo_things_148 : fetch 54 148 = some (.istore 4, 2, 0, 0, 0) := rfl
theorem f_Mo_things_150 : fetch 54 150 = some (.aload_n 0, 1, 0, 0, 0) := rfl
theorem f_Mo_things_151 : fetch 54 151 = some (.bipush 8, 2, 0, 0, 0) := rfl
theorem f_Mo_things_153 : fetch 54 153 = some (.iload_n 3, 1, 0, 0, 0) := rfl
theorem f_Mo_things_154 : fetch 54 154 = some (.iconst 4, 1, 0, 0, 0) := rfl
theorem f_Mo_things_155 : fetch 54 155 = some (.idiv, 1, 0, 0, 0) := rfl
theorem f_Mo_things_156 : fetch 54 156 = some (.iadd, 1, 0, 0, 0) := rfl
theorem f_Mo_things_157 : fetch 54 157 = some (.iload 4, 2, 0, 0, 0) := rfl
theorem f_Mo_things_159 : fetch 54 159 = some (.iconst 0, 1, 0, 0, 0) := rfl
theorem f_Mo_things_160 : fetch 54 160 = some (.invokevirtual 250, 3, 56, 3, 69) := rfl
theorem f_Mo_things_163 : fetch 54 163 = some (.goto 148, 3, 311, 0, 0) := rfl
theorem f_Mo_things_166 : fetch 54 166 = some (.aload_n 0, 1, 0, 0, 0) := rfl
theorem f_Mo_things_167 : fetch 54 167 = some (.aload_n 0, 1, 0, 0, 0) := rfl
theorem f_Mo_things_168 : fetch 54 168 = some (.iload_n 3, 1, 0, 0, 0) := rfl
theorem f_Mo_things_169 : fetch 54 169 = some (.invokevirtual 247, 3, 55, 1, 68) := rfl
theorem f_Mo_things_172 : fetch 54 172 = some (.iconst 1, 1, 0, 0, 0) := rfl
theorem f_Mo_things_173 : fetch 54 173 = some (.if_icmp .ne 7, 3, 180, 0, 0) := rfl
theorem f_Mo_things_176 : fetch 54 176 = some (.iconst 1, 1, 0, 0, 0) := rfl
theorem f_Mo_things_177 : fetch 54 177 = some (.goto 4, 3, 181, 0, 0) := rfl
theorem f_Mo_things_180 : fetch 54 180 = some (.iconst 0, 1, 0, 0, 0) := rfl
theorem f_Mo_things_181 : fetch 54 181 = some (.invokevirtual 229, 3, 49, 1, 64) := rfl
theorem f_Mo_things_184 : fetch 54 184 = some (.aload_n 0, 1, 0, 0, 0) := rfl
theorem f_Mo_things_185 : fetch 54 185 = some (.iconst 0, 1, 0, 0, 0) := rfl
theorem f_Mo_things_186 : fetch 54 186 = some (.bipush 8, 2, 0, 0, 0) := rfl
theorem f_Mo_things_188 : fetch 54 188 = some (.iload_n 3, 1, 0, 0, 0) := rfl
theorem f_Mo_things_189 : fetch 54 189 = some (.iconst 4, 1, 0, 0, 0) := rfl
theorem f_Mo_things_190 : fetch 54 190 = some (.idiv, 1, 0, 0, 0) := rfl
theorem f_Mo_things_191 : fetch 54 191 = some (.iadd, 1, 0, 0, 0) := rfl
theorem f_Mo_things_192 : fetch 54 192 = some (.iconst 3, 1, 0, 0, 0) := rfl
theorem f_Mo_things_193 : fetch 54 193 = some (.invokevirtual 250, 3, 56, 3, 69) := rfl
theorem f_Mo_things_196 : fetch 54 196 = some (.goto 115, 3, 311, 0, 0) := rfl
theorem f_Mo_things_199 : fetch 54 199 = some (.aload_n 0, 1, 0, 0, 0) := rfl
theorem f_Mo_things_200 : fetch 54 200 = some (.iconst 0, 1, 0, 0, 0) := rfl
theorem f_Mo_things_201 : fetch 54 201 = some (.iconst 1, 1, 0, 0, 0) := rfl
theorem f_Mo_things_202 : fetch 54 202 = some (.iconst 4, 1, 0, 0, 0) := rfl
theorem f_Mo_things_203 : fetch 54 203 = some (.invokevirtual 250, 3, 56, 3, 69) := rfl
theorem f_Mo_things_206 : fetch 54 206 = some (.goto 105, 3, 311, 0, 0) := rfl
theorem f_Mo_things_209 : fetch 54 209 = some (.aload_n 0, 1, 0, 0, 0) := rfl
theorem f_Mo_things_210 : fetch 54 210 = some (.iconst 4, 1, 0, 0, 0) := rfl
theorem f_Mo_things_211 : fetch 54 211 = some (.iconst 1, 1, 0, 0, 0) := rfl
theorem f_Mo_things_212 : fetch 54 212 = some (.iconst 1, 1, 0, 0, 0) := rfl
theorem f_Mo_things_213 : fetch 54 213 = some (.invokevirtual 250, 3, 56, 3, 69) := rfl
theorem f_Mo_things_216 : fetch 54 216 = some (.goto 95, 3, 311, 0, 0) := rfl
theorem f_Mo_things_219 : fetch 54 219 = some (.aload_n 0, 1, 0, 0, 0) := rfl
theorem f_Mo_things_220 : fetch 54 220 = some (.iconst 1, 1, 0, 0, 0) := rfl
theorem f_Mo_things_221 : fetch 54 221 = some (.invokevirtual 238, 3, 50, 1, 63) := rfl
theorem f_Mo_things_224 : fetch 54 224 = some (.aload_n 0, 1, 0, 0, 0) := rfl
theorem f_Mo_things_225 : fetch 54 225 = some (.iconst 4, 1, 0, 0, 0) := rfl
theorem f_Mo_things_226 : fetch 54 226 = some (.iconst 1, 1, 0, 0, 0) := rfl
theorem f_Mo_things_227 : fetch 54 227 = some (.iconst 0, 1, 0, 0, 0) := rfl
theorem f_Mo_things_228 : fetch 54 228 = some (.invokevirtual 250, 3, 56, 3, 69) := rfl
theorem f_Mo_things_231 : fetch 54 231 = some (.goto 80, 3, 311, 0, 0) := rfl
theorem f_Mo_things_234 : fetch 54 234 = some (.aload_n 0, 1, 0, 0, 0) := rfl
theorem f_Mo_things_235 : fetch 54 235 = some (.iconst 4, 1, 0, 0, 0) := rfl
theorem f_Mo_things_236 : fetch 54 236 = some (.iconst 1, 1, 0, 0, 0) := rfl
theorem f_Mo_things_237 : fetch 54 237 = some (.iconst 3, 1, 0, 0, 0) := rfl
theorem f_Mo_things_238 : fetch 54 238 = some (.invokevirtual 250, 3, 56, 3, 69) := rfl
theorem f_Mo_things_241 : fetch 54 241 = some (.goto 70, 3, 311, 0, 0) := rfl
theorem f_Mo_things_244 : fetch 54 244 = some (.aload_n 0, 1, 0, 0, 0) := rfl
theorem f_Mo_things_245 : fetch 54 245 = some (.iconst 0, 1, 0, 0, 0) := rfl
theorem f_Mo_things_246 : fetch 54 246 = some (.iconst 4, 1, 0, 0, 0) := rfl
theorem f_Mo_things_247 : fetch 54 247 = some (.iconst 1, 1, 0, 0, 0) := rfl
theorem f_Mo_things_248 : fetch 54 248 = some (.invokevirtual 250, 3, 56, 3, 69) := rfl
theorem f_Mo_things_251 : fetch 54 251 = some (.goto 60, 3, 311, 0, 0) := rfl
theorem f_Mo_things_254 : fetch 54 254 = some (.aload_n 0, 1, 0, 0, 0) := rfl
theorem f_Mo_things_255 : fetch 54 255 = some (.iconst 0, 1, 0, 0, 0) := rfl
theorem f_Mo_things_256 : fetch 54 256 = some (.iconst 3, 1, 0, 0, 0) := rfl
theorem f_Mo_things_257 : fetch 54 257 = some (.iconst 1, 1, 0, 0, 0) := rfl
theorem f_Mo_things_258 : fetch 54 258 = some (.invokevirtual 250, 3, 56, 3, 69) := rfl
theorem f_Mo_things_261 : fetch 54 261 = some (.goto 50, 3, 311, 0, 0) := rfl
theorem f_Mo_things_264 : fetch 54 264 = some (.aload_n 0, 1, 0, 0, 0) := rfl
theorem f_Mo_things_265 : fetch 54 265 = some (.iconst 3, 1, 0, 0, 0) := rfl
theorem f_Mo_things_266 : fetch 54 266 = some (.iconst 1, 1, 0, 0, 0) := rfl
theorem f_Mo_things_267 : fetch 54 267 = some (.iconst 0, 1, 0, 0, 0) := rfl
theorem f_Mo_things_268 : fetch 54 268 = some (.invokevirtual 250, 3, 56, 3, 69) := rfl
theorem f_Mo_things_271 : fetch 54 271 = some (.goto 40, 3, 311, 0, 0) := rfl
theorem f_Mo_things_274 : fetch 54 274 = some (.aload_n 0, 1, 0, 0, 0) := rfl
theorem f_Mo_things_275 : fetch 54 275 = some (.iconst 1, 1, 0, 0, 0) := rfl
theorem f_Mo_things_276 : fetch 54 276 = some (.iconst 1, 1, 0, 0, 0) := rfl
theorem f_Mo_things_277 : fetch 54 277 = some (.iconst 2, 1, 0, 0, 0) := rfl
theorem f_Mo_things_278 : fetch 54 278 = some (.invokevirtual 250, 3, 56, 3, 69) := rfl
theorem f_Mo_things_281 : fetch 54 281 = some (.goto 30, 3, 311, 0, 0) := rfl
theorem f_Mo_things_284 : fetch 54 284 = some (.aload_n 0, 1, 0, 0, 0) := rfl
theorem f_Mo_things_285 : fetch 54 285 = some (.iconst 0, 1, 0, 0, 0) := rfl
theorem f_Mo_things_286 : fetch 54 286 = some (.iconst 2, 1, 0, 0, 0) := rfl
theorem f_Mo_things_287 : fetch 54 287 = some (.iconst 1, 1, 0, 0, 0) := rfl
theorem f_Mo_things_288 : fetch 54 288 = some (.invokevirtual 250, 3, 56, 3, 69) := rfl
theorem f_Mo_things_291 : fetch 54 291 = some (.goto 20, 3, 311, 0, 0) := rfl
theorem f_Mo_things_294 : fetch 54 294 = some (.aload_n 0, 1, 0, 0, 0) := rfl
theorem f_Mo_things_295 : fetch 54 295 = some (.iconst 0, 1, 0, 0, 0) := rfl
theorem f_Mo_things_296 : fetch 54 296 = some (.iconst 2, 1, 0, 0, 0) := rfl
theorem f_Mo_things_297 : fetch 54 297 = some (.iconst 5, 1, 0, 0, 0) := rfl
theorem f_Mo_things_298 : fetch 54 298 = some (.invokevirtual 250, 3, 56, 3, 69) := rfl
theorem f_Mo_things_301 : fetch 54 301 = some (.goto 10, 3, 311, 0, 0) := rfl
theorem f_Mo_things_304 : fetch 54 304 = some (.aload_n 0, 1, 0, 0, 0) := rfl
theorem f_Mo_things_305 : fetch 54 305 = some (.iconst 0, 1, 0, 0, 0) := rfl
theorem f_Mo_things_306 : fetch 54 306 = some (.iconst 5, 1, 0, 0, 0) := rfl
theorem f_Mo_things_307 : fetch 54 307 = some (.iconst 2, 1, 0, 0, 0) := rfl
theorem f_Mo_things_308 : fetch 54 308 = some (.invokevirtual 250, 3, 56, 3, 69) := rfl
theorem f_Mo_things_311 : fetch 54 311 = some (.return_, 1, 0, 0, 0) := rfl
def F_Mo_things_311   (σ : SG) : Option (SG) :=
  some σ
set_option maxHeartbeats 4000000 in
theorem w_Mo_things_311 {b d : Nat} {sc : SC} {pre tl : List PE} {B : Nat} {Q : Option Value → List PE → Prop} {res : SG} (hB : B = b + pre.length) (hd : 3 ≤ d)   (hQ : Q none (HH pre tl SHm B res)) (lv : LV) (σ : SG)   (hF : F_Mo_things_311   σ = some res) : Rn b sc d 54 311 lv [] (HH pre tl SHm B σ) Q := by
  obtain ⟨e0, rfl⟩ : ∃ e, d = e + 1 := ⟨d - 1, by omega⟩
  unfold F_Mo_things_311 at hF
  cases hF
  exact r_return f_Mo_things_311 hQ
def F_Mo_things_284  (x0 : Nat) (σ : SG) : Option (SG) :=
  match F_Mo_taken (x0) ((0 : Int32)) ((2 : Int32)) ((1 : Int32)) σ with
  | none => none
  | some q1 =>
  F_Mo_things_311 q1
set_option maxHeartbeats 4000000 in
theorem w_Mo_things_284 {b d : Nat} {sc : SC} {pre tl : List PE} {B : Nat} {Q : Option Value → List PE → Prop} {res : SG} (hB : B = b + pre.length) (hd : 3 ≤ d)   (hQ : Q none (HH pre tl SHm B res)) (lv : LV) (σ : SG) (x0 : Nat) (hx0 : isC SHm (x0) 8 = true) (l0 : lv.lookup 0 = some (.ref (B + (x0)))) (hF : F_Mo_things_284  x0 σ = some res) : Rn b sc d 54 284 lv [] (HH pre tl SHm B σ) Q := by
  obtain ⟨e0, rfl⟩ : ∃ e, d = e + 1 := ⟨d - 1, by omega⟩
  unfold F_Mo_things_284 at hF
  refine r_aload_n f_Mo_things_284 l0 ?_
  refine r_iconst f_Mo_things_285 (v := 0) (by decide) ?_
  refine r_iconst f_Mo_things_286 (v := 2) (by decide) ?_
  refine r_iconst f_Mo_things_287 (v := 1) (by decide) ?_
  cases hq1 : F_Mo_taken (x0) ((0 : Int32)) ((2 : Int32)) ((1 : Int32)) σ with
  | none => simp only [hq1] at hF; cases hF
  | some q1 =>
    simp only [hq1] at hF
    refine t_V3v hB hx0 rfl rfl f_Mo_things_288 (by decide) (Nat.le_of_ble_eq_true rfl) (Nat.le_of_ble_eq_true rfl) (w_Mo_taken hB (by omega) (x0) ((0 : Int32)) ((2 : Int32)) ((1 : Int32)) hx0 hq1 ⟨rfl, ?_⟩)
    refine r_goto f_Mo_things_291 ?_
    exact w_Mo_things_311 hB hd  hQ _ (q1) hF
def F_Mo_things_181  (x0 : Nat) (x3 : Int32) (y0 : Nat) (y1 : Bool) (σ : SG) : Option (SG) :=
  match F_Mo_need (y0) (y1) σ with
  | none => none
  | some q2 =>
  match F_Mo_taken (x0) ((0 : Int32)) (((8 : Int32) + (x3 / (4 : Int32)))) ((3 : Int32)) q2 with
  | none => none
  | some q3 =>
  F_Mo_things_311 q3
set_option maxHeartbeats 4000000 in
theorem w_Mo_things_181 {b d : Nat} {sc : SC} {pre tl : List PE} {B : Nat} {Q : Option Value → List PE → Prop} {res : SG} (hB : B = b + pre.length) (hd : 3 ≤ d)   (hQ : Q none (HH pre tl SHm B res)) (lv : LV) (σ : SG) (x0 : Nat) (x3 : Int32) (y0 : Nat) (y1 : Bool) (hx0 : isC SHm (x0) 8 = true) (hy0 : isC SHm (y0) 8 = true) (l0 : lv.lookup 0 = some (.ref (B + (x0)))) (l3 : lv.lookup 3 = some (.int (x3))) (hF : F_Mo_things_181  x0 x3 y0 y1 σ = some res) : Rn b sc d 54 181 lv [.int (bz (y1)), .ref (B + (y0))] (HH pre tl SHm B σ) Q := by
  obtain ⟨e0, rfl⟩ : ∃ e, d = e + 1 := ⟨d - 1, by omega⟩
  unfold F_Mo_things_181 at hF
  cases hq2 : F_Mo_need (y0) (y1) σ with
  | none => simp only [hq2] at hF; cases hF
  | some q2 =>
    simp only [hq2] at hF
    refine t_V1v hB hy0 rfl rfl f_Mo_things_181 (by decide) (Nat.le_of_ble_eq_true rfl) (Nat.le_of_ble_eq_true rfl) (w_Mo_need hB  (y0) (y1) hy0 hq2 ⟨rfl, ?_⟩)
    refine r_aload_n f_Mo_things_184 l0 ?_
    refine r_iconst f_Mo_things_185 (v := 0) (by decide) ?_
    refine r_bipush f_Mo_things_186 (v := 8) (by decide) ?_
    refine r_iload_n f_Mo_things_188 l3 ?_
    refine r_iconst f_Mo_things_189 (v := 4) (by decide) ?_
    refine r_idiv f_Mo_things_190 (by decide) ?_
    refine r_iadd f_Mo_things_191 ?_
    refine r_iconst f_Mo_things_192 (v := 3) (by decide) ?_
    cases hq3 : F_Mo_taken (x0) ((0 : Int32)) (((8 : Int32) + (x3 / (4 : Int32)))) ((3 : Int32)) q2 with
    | none => simp only [hq3] at hF; cases hF
    | some q3 =>
      simp only [hq3] at hF
      refine t_V3v hB hx0 rfl rfl f_Mo_things_193 (by decide) (Nat.le_of_ble_eq_true rfl) (Nat.le_of_ble_eq_true rfl) (w_Mo_taken hB (by omega) (x0) ((0 : Int32)) (((8 : Int32) + (x3 / (4 : Int32)))) ((3 : Int32)) hx0 hq3 ⟨rfl, ?_⟩)
      refine r_goto f_Mo_things_196 ?_
      exact w_Mo_things_311 hB hd  hQ _ (q3) hF
def F_Mo_things_106  (x0 : Nat) (x3 : Int32) (y0 : Nat) (y1 : Bool) (σ : SG) : Option (SG) :=
  match F_Mo_need (y0) (y1) σ with
  | none => none
  | some q4 =>
  match F_Mo_push (x0) (((8 : Int32) + x3)) q4 with
  | none => none
  | some q5 =>
  F_Mo_things_311 q5
set_option maxHeartbeats 4000000 in
theorem w_Mo_things_106 {b d : Nat} {sc : SC} {pre tl : List PE} {B : Nat} {Q : Option Value → List PE → Prop} {res : SG} (hB : B = b + pre.length) (hd : 3 ≤ d)   (hQ : Q none (HH pre tl SHm B res)) (lv : LV) (σ : SG) (x0 : Nat) (x3 : Int32) (y0 : Nat) (y1 : Bool) (hx0 : isC SHm (x0) 8 = true) (hy0 : isC SHm (y0) 8 = true) (l0 : lv.lookup 0 = some (.ref (B + (x0)))) (l3 : lv.lookup 3 = some (.int (x3))) (hF : F_Mo_things_106  x0 x3 y0 y1 σ = some res) : Rn b sc d 54 106 lv [.int (bz (y1)), .ref (B + (y0))] (HH pre tl SHm B σ) Q := by
  obtain ⟨e0, rfl⟩ : ∃ e, d = e + 1 := ⟨d - 1, by omega⟩
  unfold F_Mo_things_106 at hF
  cases hq4 : F_Mo_need (y0) (y1) σ with
  | none => simp only [hq4] at hF; cases hF
  | some q4 =>
    simp only [hq4] at hF
    refine t_V1v hB hy0 rfl rfl f_Mo_things_106 (by decide) (Nat.le_of_ble_eq_true rfl) (Nat.le_of_ble_eq_true rfl) (w_Mo_need hB  (y0) (y1) hy0 hq4 ⟨rfl, ?_⟩)
    refine r_aload_n f_Mo_things_109 l0 ?_
    refine r_bipush f_Mo_things_110 (v := 8) (by decide) ?_
    refine r_iload_n f_Mo_things_112 l3 ?_
    refine r_iadd f_Mo_things_113 ?_
    cases hq5 : F_Mo_push (x0) (((8 : Int32) + x3)) q4 with
    | none => simp only [hq5] at hF; cases hF
    | some q5 =>
      simp only [hq5] at hF
      refine t_V1v hB hx0 rfl rfl f_Mo_things_114 (by decide) (Nat.le_of_ble_eq_true rfl) (Nat.le_of_ble_eq_true rfl) (w_Mo_push hB  (x0) (((8 : Int32) + x3)) hx0 hq5 ⟨rfl, ?_⟩)
      refine r_goto f_Mo_things_117 ?_
      exact w_Mo_things_311 hB hd  hQ _ (q5) hF
def F_Mo_things_15  (x0 : Nat) (x2 : Int32) (y0 : Int32) (σ : SG) : Option (SG) :=
  if x2 = 17 then
  if (σ.1 (x0) 4) ≤ y0 then
  F_Mo_things_106 (x0) (y0) (x0) (false) σ
  else F_Mo_things_106 (x0) (y0) (x0) (true) σ
  else if x2 = 18 then
  match F_Mo_fieldAt (x0) (y0) σ with
  | none => none
  | some q9 =>
  match F_Mo_taken (x0) ((0 : Int32)) (((8 : Int32) + (y0 / (4 : Int32)))) (q9.1) q9.2 with
  | none => none
  | some q10 =>
  F_Mo_things_311 q10
  else if x2 = 19 then
  match F_Mo_fieldAt (x0) (y0) σ with
  | none => none
  | some q12 =>
  match F_Mo_taken (x0) (((8 : Int32) + (y0 / (4 : Int32)))) (q12.1) ((0 : Int32)) q12.2 with
  | none => none
  | some q13 =>
  F_Mo_things_311 q13
  else if x2 = 20 then
  match F_Mo_fieldAt (x0) (y0) σ with
  | none => none
  | some q15 =>
  if q15.1 = (1 : Int32) then
  F_Mo_things_181 (x0) (y0) (x0) (true) q15.2
  else F_Mo_things_181 (x0) (y0) (x0) (false) q15.2
  else if x2 = 21 then
  match F_Mo_taken (x0) ((0 : Int32)) ((1 : Int32)) ((4 : Int32)) σ with
  | none => none
  | some q18 =>
  F_Mo_things_311 q18
  else if x2 = 22 then
  match F_Mo_taken (x0) ((4 : Int32)) ((1 : Int32)) ((1 : Int32)) σ with
  | none => none
  | some q20 =>
  F_Mo_things_311 q20
  else if x2 = 23 then
  match F_Mo_take (x0) ((1 : Int32)) σ with
  | none => none
  | some q22 =>
  match F_Mo_taken (x0) ((4 : Int32)) ((1 : Int32)) ((0 : Int32)) q22 with
  | none => none
  | some q23 =>
  F_Mo_things_311 q23
  else if x2 = 24 then
  match F_Mo_taken (x0) ((4 : Int32)) ((1 : Int32)) ((3 : Int32)) σ with
  | none => none
  | some q25 =>
  F_Mo_things_311 q25
  else if x2 = 25 then
  match F_Mo_taken (x0) ((0 : Int32)) ((4 : Int32)) ((1 : Int32)) σ with
  | none => none
  | some q27 =>
  F_Mo_things_311 q27
  else if x2 = 26 then
  match F_Mo_taken (x0) ((0 : Int32)) ((3 : Int32)) ((1 : Int32)) σ with
  | none => none
  | some q29 =>
  F_Mo_things_311 q29
  else if x2 = 27 then
  match F_Mo_taken (x0) ((3 : Int32)) ((1 : Int32)) ((0 : Int32)) σ with
  | none => none
  | some q31 =>
  F_Mo_things_311 q31
  else if x2 = 28 then
  match F_Mo_taken (x0) ((1 : Int32)) ((1 : Int32)) ((2 : Int32)) σ with
  | none => none
  | some q33 =>
  F_Mo_things_311 q33
  else if x2 = 29 then
  F_Mo_things_284 (x0) σ
  else if x2 = 30 then
  F_Mo_things_284 (x0) σ
  else if x2 = 31 then
  match F_Mo_taken (x0) ((0 : Int32)) ((2 : Int32)) ((5 : Int32)) σ with
  | none => none
  | some q37 =>
  F_Mo_things_311 q37
  else match F_Mo_taken (x0) ((0 : Int32)) ((5 : Int32)) ((2 : Int32)) σ with
  | none => none
  | some q38 =>
  F_Mo_things_311 q38
set_option maxHeartbeats 4000000 in
theorem w_Mo_things_15 {b d : Nat} {sc : SC} {pre tl : List PE} {B : Nat} {Q : Option Value → List PE → Prop} {res : SG} (hB : B = b + pre.length) (hd : 3 ≤ d)   (hQ : Q none (HH pre tl SHm B res)) (lv : LV) (σ : SG) (x0 : Nat) (x2 : Int32) (y0 : Int32) (hx0 : isC SHm (x0) 8 = true) (l0 : lv.lookup 0 = some (.ref (B + (x0)))) (l2 : lv.lookup 2 = some (.int (x2))) (hF : F_Mo_things_15  x0 x2 y0 σ = some res) : Rn b sc d 54 15 lv [.int (y0)] (HH pre tl SHm B σ) Q := by
  obtain ⟨e0, rfl⟩ : ∃ e, d = e + 1 := ⟨d - 1, by omega⟩
  unfold F_Mo_things_15 at hF
  refine r_istore_n f_Mo_things_15 ?_
  refine r_iload_n f_Mo_things_16 (lk_put_ne l2 (by decide) (Or.inl rfl)) ?_
  by_cases c6 : x2 = 17
  · rw [if_pos c6] at hF
    refine r_tswI (t := 92) (off := 75) 0 f_Mo_things_17 (by rw [c6]; decide) (by rw [c6]; decide) (by rfl) (by decide) ?_
    refine r_aload_n f_Mo_things_92 (lk_put_ne l0 (by decide) (Or.inl rfl)) ?_
    refine r_iload_n f_Mo_things_93 lk_put ?_
    refine r_aload_n f_Mo_things_94 (lk_put_ne l0 (by decide) (Or.inl rfl)) ?_
    refine t_geti hB hx0 f_Mo_things_95 rfl ?_
    refine r_icmp_ge f_Mo_things_98 (fun c7 => ?_) (fun c7 => ?_)
    · rw [if_pos c7] at hF
      refine r_iconst f_Mo_things_105 (v := 0) (by decide) ?_
      exact w_Mo_things_106 hB hd  hQ _ (σ) (x0) (y0) (x0) (false) hx0 hx0 (lk_put_ne l0 (by decide) (Or.inl rfl)) lk_put hF
    · rw [if_neg c7] at hF
      refine r_iconst f_Mo_things_101 (v := 1) (by decide) ?_
      refine r_goto f_Mo_things_102 ?_
      exact w_Mo_things_106 hB hd  hQ _ (σ) (x0) (y0) (x0) (true) hx0 hx0 (lk_put_ne l0 (by decide) (Or.inl rfl)) lk_put hF
  rw [if_neg c6] at hF
  by_cases c8 : x2 = 18
  · rw [if_pos c8] at hF
    refine r_tswI (t := 120) (off := 103) 1 f_Mo_things_17 (by rw [c8]; decide) (by rw [c8]; decide) (by rfl) (by decide) ?_
    refine r_aload_n f_Mo_things_120 (lk_put_ne l0 (by decide) (Or.inl rfl)) ?_
    refine r_iload_n f_Mo_things_121 lk_put ?_
    cases hq9 : F_Mo_fieldAt (x0) (y0) σ with
    | none => simp only [hq9] at hF; cases hF
    | some q9 =>
      simp only [hq9] at hF
      refine t_V1i hB hx0 rfl rfl f_Mo_things_122 (by decide) (Nat.le_of_ble_eq_true rfl) (Nat.le_of_ble_eq_true rfl) (w_Mo_fieldAt hB (by omega) (x0) (y0) hx0 hq9 ⟨_, rfl, ?_⟩)
      refine r_istore f_Mo_things_125 ?_
      refine r_aload_n f_Mo_things_127 (lk_put_ne (lk_put_ne l0 (by decide) (Or.inl rfl)) (by decide) (Or.inl rfl)) ?_
      refine r_iconst f_Mo_things_128 (v := 0) (by decide) ?_
      refine r_bipush f_Mo_things_129 (v := 8) (by decide) ?_
      refine r_iload_n f_Mo_things_131 (lk_put_ne lk_put (by decide) (Or.inl rfl)) ?_
      refine r_iconst f_Mo_things_132 (v := 4) (by decide) ?_
      refine r_idiv f_Mo_things_133 (by decide) ?_
      refine r_iadd f_Mo_things_134 ?_
      refine r_iload f_Mo_things_135 lk_put ?_
      cases hq10 : F_Mo_taken (x0) ((0 : Int32)) (((8 : Int32) + (y0 / (4 : Int32)))) (q9.1) q9.2 with
      | none => simp only [hq10] at hF; cases hF
      | some q10 =>
        simp only [hq10] at hF
        refine t_V3v hB hx0 rfl rfl f_Mo_things_137 (by decide) (Nat.le_of_ble_eq_true rfl) (Nat.le_of_ble_eq_true rfl) (w_Mo_taken hB (by omega) (x0) ((0 : Int32)) (((8 : Int32) + (y0 / (4 : Int32)))) (q9.1) hx0 hq10 ⟨rfl, ?_⟩)
        refine r_goto f_Mo_things_140 ?_
        exact w_Mo_things_311 hB hd  hQ _ (q10) hF
  rw [if_neg c8] at hF
  by_cases c11 : x2 = 19
  · rw [if_pos c11] at hF
    refine r_tswI (t := 143) (off := 126) 2 f_Mo_things_17 (by rw [c11]; decide) (by rw [c11]; decide) (by rfl) (by decide) ?_
    refine r_aload_n f_Mo_things_143 (lk_put_ne l0 (by decide) (Or.inl rfl)) ?_
    refine r_iload_n f_Mo_things_144 lk_put ?_
    cases hq12 : F_Mo_fieldAt (x0) (y0) σ with
    | none => simp only [hq12] at hF; cases hF
    | some q12 =>
      simp only [hq12] at hF
      refine t_V1i hB hx0 rfl rfl f_Mo_things_145 (by decide) (Nat.le_of_ble_eq_true rfl) (Nat.le_of_ble_eq_true rfl) (w_Mo_fieldAt hB (by omega) (x0) (y0) hx0 hq12 ⟨_, rfl, ?_⟩)
      refine r_istore f_Mo_things_148 ?_
      refine r_aload_n f_Mo_things_150 (lk_put_ne (lk_put_ne l0 (by decide) (Or.inl rfl)) (by decide) (Or.inl rfl)) ?_
      refine r_bipush f_Mo_things_151 (v := 8) (by decide) ?_
      refine r_iload_n f_Mo_things_153 (lk_put_ne lk_put (by decide) (Or.inl rfl)) ?_
      refine r_iconst f_Mo_things_154 (v := 4) (by decide) ?_
      refine r_idiv f_Mo_things_155 (by decide) ?_
      refine r_iadd f_Mo_things_156 ?_
      refine r_iload f_Mo_things_157 lk_put ?_
      refine r_iconst f_Mo_things_159 (v := 0) (by decide) ?_
      cases hq13 : F_Mo_taken (x0) (((8 : Int32) + (y0 / (4 : Int32)))) (q12.1) ((0 : Int32)) q12.2 with
      | none => simp only [hq13] at hF; cases hF
      | some q13 =>
        simp only [hq13] at hF
        refine t_V3v hB hx0 rfl rfl f_Mo_things_160 (by decide) (Nat.le_of_ble_eq_true rfl) (Nat.le_of_ble_eq_true rfl) (w_Mo_taken hB (by omega) (x0) (((8 : Int32) + (y0 / (4 : Int32)))) (q12.1) ((0 : Int32)) hx0 hq13 ⟨rfl, ?_⟩)
        refine r_goto f_Mo_things_163 ?_
        exact w_Mo_things_311 hB hd  hQ _ (q13) hF
  rw [if_neg c11] at hF
  by_cases c14 : x2 = 20
  · rw [if_pos c14] at hF
    refine r_tswI (t := 166) (off := 149) 3 f_Mo_things_17 (by rw [c14]; decide) (by rw [c14]; decide) (by rfl) (by decide) ?_
    refine r_aload_n f_Mo_things_166 (lk_put_ne l0 (by decide) (Or.inl rfl)) ?_
    refine r_aload_n f_Mo_things_167 (lk_put_ne l0 (by decide) (Or.inl rfl)) ?_
    refine r_iload_n f_Mo_things_168 lk_put ?_
    cases hq15 : F_Mo_fieldAt (x0) (y0) σ with
    | none => simp only [hq15] at hF; cases hF
    | some q15 =>
      simp only [hq15] at hF
      refine t_V1i hB hx0 rfl rfl f_Mo_things_169 (by decide) (Nat.le_of_ble_eq_true rfl) (Nat.le_of_ble_eq_true rfl) (w_Mo_fieldAt hB (by omega) (x0) (y0) hx0 hq15 ⟨_, rfl, ?_⟩)
      refine r_iconst f_Mo_things_172 (v := 1) (by decide) ?_
      refine r_icmp_ne f_Mo_things_173 (fun c16 => ?_) (fun c16 => ?_)
      · rw [if_neg c16] at hF
        refine r_iconst f_Mo_things_180 (v := 0) (by decide) ?_
        exact w_Mo_things_181 hB hd  hQ _ (q15.2) (x0) (y0) (x0) (false) hx0 hx0 (lk_put_ne l0 (by decide) (Or.inl rfl)) lk_put hF
      · rw [if_pos (Decidable.not_not.mp c16)] at hF
        refine r_iconst f_Mo_things_176 (v := 1) (by decide) ?_
        refine r_goto f_Mo_things_177 ?_
        exact w_Mo_things_181 hB hd  hQ _ (q15.2) (x0) (y0) (x0) (true) hx0 hx0 (lk_put_ne l0 (by decide) (Or.inl rfl)) lk_put hF
  rw [if_neg c14] at hF
  by_cases c17 : x2 = 21
  · rw [if_pos c17] at hF
    refine r_tswI (t := 199) (off := 182) 4 f_Mo_things_17 (by rw [c17]; decide) (by rw [c17]; decide) (by rfl) (by decide) ?_
    refine r_aload_n f_Mo_things_199 (lk_put_ne l0 (by decide) (Or.inl rfl)) ?_
    refine r_iconst f_Mo_things_200 (v := 0) (by decide) ?_
    refine r_iconst f_Mo_things_201 (v := 1) (by decide) ?_
    refine r_iconst f_Mo_things_202 (v := 4) (by decide) ?_
    cases hq18 : F_Mo_taken (x0) ((0 : Int32)) ((1 : Int32)) ((4 : Int32)) σ with
    | none => simp only [hq18] at hF; cases hF
    | some q18 =>
      simp only [hq18] at hF
      refine t_V3v hB hx0 rfl rfl f_Mo_things_203 (by decide) (Nat.le_of_ble_eq_true rfl) (Nat.le_of_ble_eq_true rfl) (w_Mo_taken hB (by omega) (x0) ((0 : Int32)) ((1 : Int32)) ((4 : Int32)) hx0 hq18 ⟨rfl, ?_⟩)
      refine r_goto f_Mo_things_206 ?_
      exact w_Mo_things_311 hB hd  hQ _ (q18) hF
  rw [if_neg c17] at hF
  by_cases c19 : x2 = 22
  · rw [if_pos c19] at hF
    refine r_tswI (t := 209) (off := 192) 5 f_Mo_things_17 (by rw [c19]; decide) (by rw [c19]; decide) (by rfl) (by decide) ?_
    refine r_aload_n f_Mo_things_209 (lk_put_ne l0 (by decide) (Or.inl rfl)) ?_
    refine r_iconst f_Mo_things_210 (v := 4) (by decide) ?_
    refine r_iconst f_Mo_things_211 (v := 1) (by decide) ?_
    refine r_iconst f_Mo_things_212 (v := 1) (by decide) ?_
    cases hq20 : F_Mo_taken (x0) ((4 : Int32)) ((1 : Int32)) ((1 : Int32)) σ with
    | none => simp only [hq20] at hF; cases hF
    | some q20 =>
      simp only [hq20] at hF
      refine t_V3v hB hx0 rfl rfl f_Mo_things_213 (by decide) (Nat.le_of_ble_eq_true rfl) (Nat.le_of_ble_eq_true rfl) (w_Mo_taken hB (by omega) (x0) ((4 : Int32)) ((1 : Int32)) ((1 : Int32)) hx0 hq20 ⟨rfl, ?_⟩)
      refine r_goto f_Mo_things_216 ?_
      exact w_Mo_things_311 hB hd  hQ _ (q20) hF
  rw [if_neg c19] at hF
  by_cases c21 : x2 = 23
  · rw [if_pos c21] at hF
    refine r_tswI (t := 219) (off := 202) 6 f_Mo_things_17 (by rw [c21]; decide) (by rw [c21]; decide) (by rfl) (by decide) ?_
    refine r_aload_n f_Mo_things_219 (lk_put_ne l0 (by decide) (Or.inl rfl)) ?_
    refine r_iconst f_Mo_things_220 (v := 1) (by decide) ?_
    cases hq22 : F_Mo_take (x0) ((1 : Int32)) σ with
    | none => simp only [hq22] at hF; cases hF
    | some q22 =>
      simp only [hq22] at hF
      refine t_V1v hB hx0 rfl rfl f_Mo_things_221 (by decide) (Nat.le_of_ble_eq_true rfl) (Nat.le_of_ble_eq_true rfl) (w_Mo_take hB (by omega) (x0) ((1 : Int32)) hx0 hq22 ⟨rfl, ?_⟩)
      refine r_aload_n f_Mo_things_224 (lk_put_ne l0 (by decide) (Or.inl rfl)) ?_
      refine r_iconst f_Mo_things_225 (v := 4) (by decide) ?_
      refine r_iconst f_Mo_things_226 (v := 1) (by decide) ?_
      refine r_iconst f_Mo_things_227 (v := 0) (by decide) ?_
      cases hq23 : F_Mo_taken (x0) ((4 : Int32)) ((1 : Int32)) ((0 : Int32)) q22 with
      | none => simp only [hq23] at hF; cases hF
      | some q23 =>
        simp only [hq23] at hF
        refine t_V3v hB hx0 rfl rfl f_Mo_things_228 (by decide) (Nat.le_of_ble_eq_true rfl) (Nat.le_of_ble_eq_true rfl) (w_Mo_taken hB (by omega) (x0) ((4 : Int32)) ((1 : Int32)) ((0 : Int32)) hx0 hq23 ⟨rfl, ?_⟩)
        refine r_goto f_Mo_things_231 ?_
        exact w_Mo_things_311 hB hd  hQ _ (q23) hF
  rw [if_neg c21] at hF
  by_cases c24 : x2 = 24
  · rw [if_pos c24] at hF
    refine r_tswI (t := 234) (off := 217) 7 f_Mo_things_17 (by rw [c24]; decide) (by rw [c24]; decide) (by rfl) (by decide) ?_
    refine r_aload_n f_Mo_things_234 (lk_put_ne l0 (by decide) (Or.inl rfl)) ?_
    refine r_iconst f_Mo_things_235 (v := 4) (by decide) ?_
    refine r_iconst f_Mo_things_236 (v := 1) (by decide) ?_
    refine r_iconst f_Mo_things_237 (v := 3) (by decide) ?_
    cases hq25 : F_Mo_taken (x0) ((4 : Int32)) ((1 : Int32)) ((3 : Int32)) σ with
    | none => simp only [hq25] at hF; cases hF
    | some q25 =>
      simp only [hq25] at hF
      refine t_V3v hB hx0 rfl rfl f_Mo_things_238 (by decide) (Nat.le_of_ble_eq_true rfl) (Nat.le_of_ble_eq_true rfl) (w_Mo_taken hB (by omega) (x0) ((4 : Int32)) ((1 : Int32)) ((3 : Int32)) hx0 hq25 ⟨rfl, ?_⟩)
      refine r_goto f_Mo_things_241 ?_
      exact w_Mo_things_311 hB hd  hQ _ (q25) hF
  rw [if_neg c24] at hF
  by_cases c26 : x2 = 25
  · rw [if_pos c26] at hF
    refine r_tswI (t := 244) (off := 227) 8 f_Mo_things_17 (by rw [c26]; decide) (by rw [c26]; decide) (by rfl) (by decide) ?_
    refine r_aload_n f_Mo_things_244 (lk_put_ne l0 (by decide) (Or.inl rfl)) ?_
    refine r_iconst f_Mo_things_245 (v := 0) (by decide) ?_
    refine r_iconst f_Mo_things_246 (v := 4) (by decide) ?_
    refine r_iconst f_Mo_things_247 (v := 1) (by decide) ?_
    cases hq27 : F_Mo_taken (x0) ((0 : Int32)) ((4 : Int32)) ((1 : Int32)) σ with
    | none => simp only [hq27] at hF; cases hF
    | some q27 =>
      simp only [hq27] at hF
      refine t_V3v hB hx0 rfl rfl f_Mo_things_248 (by decide) (Nat.le_of_ble_eq_true rfl) (Nat.le_of_ble_eq_true rfl) (w_Mo_taken hB (by omega) (x0) ((0 : Int32)) ((4 : Int32)) ((1 : Int32)) hx0 hq27 ⟨rfl, ?_⟩)
      refine r_goto f_Mo_things_251 ?_
      exact w_Mo_things_311 hB hd  hQ _ (q27) hF
  rw [if_neg c26] at hF
  by_cases c28 : x2 = 26
  · rw [if_pos c28] at hF
    refine r_tswI (t := 254) (off := 237) 9 f_Mo_things_17 (by rw [c28]; decide) (by rw [c28]; decide) (by rfl) (by decide) ?_
    refine r_aload_n f_Mo_things_254 (lk_put_ne l0 (by decide) (Or.inl rfl)) ?_
    refine r_iconst f_Mo_things_255 (v := 0) (by decide) ?_
    refine r_iconst f_Mo_things_256 (v := 3) (by decide) ?_
    refine r_iconst f_Mo_things_257 (v := 1) (by decide) ?_
    cases hq29 : F_Mo_taken (x0) ((0 : Int32)) ((3 : Int32)) ((1 : Int32)) σ with
    | none => simp only [hq29] at hF; cases hF
    | some q29 =>
      simp only [hq29] at hF
      refine t_V3v hB hx0 rfl rfl f_Mo_things_258 (by decide) (Nat.le_of_ble_eq_true rfl) (Nat.le_of_ble_eq_true rfl) (w_Mo_taken hB (by omega) (x0) ((0 : Int32)) ((3 : Int32)) ((1 : Int32)) hx0 hq29 ⟨rfl, ?_⟩)
      refine r_goto f_Mo_things_261 ?_
      exact w_Mo_things_311 hB hd  hQ _ (q29) hF
  rw [if_neg c28] at hF
  by_cases c30 : x2 = 27
  · rw [if_pos c30] at hF
    refine r_tswI (t := 264) (off := 247) 10 f_Mo_things_17 (by rw [c30]; decide) (by rw [c30]; decide) (by rfl) (by decide) ?_
    refine r_aload_n f_Mo_things_264 (lk_put_ne l0 (by decide) (Or.inl rfl)) ?_
    refine r_iconst f_Mo_things_265 (v := 3) (by decide) ?_
    refine r_iconst f_Mo_things_266 (v := 1) (by decide) ?_
    refine r_iconst f_Mo_things_267 (v := 0) (by decide) ?_
    cases hq31 : F_Mo_taken (x0) ((3 : Int32)) ((1 : Int32)) ((0 : Int32)) σ with
    | none => simp only [hq31] at hF; cases hF
    | some q31 =>
      simp only [hq31] at hF
      refine t_V3v hB hx0 rfl rfl f_Mo_things_268 (by decide) (Nat.le_of_ble_eq_true rfl) (Nat.le_of_ble_eq_true rfl) (w_Mo_taken hB (by omega) (x0) ((3 : Int32)) ((1 : Int32)) ((0 : Int32)) hx0 hq31 ⟨rfl, ?_⟩)
      refine r_goto f_Mo_things_271 ?_
      exact w_Mo_things_311 hB hd  hQ _ (q31) hF
  rw [if_neg c30] at hF
  by_cases c32 : x2 = 28
  · rw [if_pos c32] at hF
    refine r_tswI (t := 274) (off := 257) 11 f_Mo_things_17 (by rw [c32]; decide) (by rw [c32]; decide) (by rfl) (by decide) ?_
    refine r_aload_n f_Mo_things_274 (lk_put_ne l0 (by decide) (Or.inl rfl)) ?_
    refine r_iconst f_Mo_things_275 (v := 1) (by decide) ?_
    refine r_iconst f_Mo_things_276 (v := 1) (by decide) ?_
    refine r_iconst f_Mo_things_277 (v := 2) (by decide) ?_
    cases hq33 : F_Mo_taken (x0) ((1 : Int32)) ((1 : Int32)) ((2 : Int32)) σ with
    | none => simp only [hq33] at hF; cases hF
    | some q33 =>
      simp only [hq33] at hF
      refine t_V3v hB hx0 rfl rfl f_Mo_things_278 (by decide) (Nat.le_of_ble_eq_true rfl) (Nat.le_of_ble_eq_true rfl) (w_Mo_taken hB (by omega) (x0) ((1 : Int32)) ((1 : Int32)) ((2 : Int32)) hx0 hq33 ⟨rfl, ?_⟩)
      refine r_goto f_Mo_things_281 ?_
      exact w_Mo_things_311 hB hd  hQ _ (q33) hF
  rw [if_neg c32] at hF
  by_cases c34 : x2 = 29
  · rw [if_pos c34] at hF
    refine r_tswI (t := 284) (off := 267) 12 f_Mo_things_17 (by rw [c34]; decide) (by rw [c34]; decide) (by rfl) (by decide) ?_
    exact w_Mo_things_284 hB hd  hQ _ (σ) (x0) hx0 (lk_put_ne l0 (by decide) (Or.inl rfl)) hF
  rw [if_neg c34] at hF
  by_cases c35 : x2 = 30
  · rw [if_pos c35] at hF
    refine r_tswI (t := 284) (off := 267) 13 f_Mo_things_17 (by rw [c35]; decide) (by rw [c35]; decide) (by rfl) (by decide) ?_
    exact w_Mo_things_284 hB hd  hQ _ (σ) (x0) hx0 (lk_put_ne l0 (by decide) (Or.inl rfl)) hF
  rw [if_neg c35] at hF
  by_cases c36 : x2 = 31
  · rw [if_pos c36] at hF
    refine r_tswI (t := 294) (off := 277) 14 f_Mo_things_17 (by rw [c36]; decide) (by rw [c36]; decide) (by rfl) (by decide) ?_
    refine r_aload_n f_Mo_things_294 (lk_put_ne l0 (by decide) (Or.inl rfl)) ?_
    refine r_iconst f_Mo_things_295 (v := 0) (by decide) ?_
    refine r_iconst f_Mo_things_296 (v := 2) (by decide) ?_
    refine r_iconst f_Mo_things_297 (v := 5) (by decide) ?_
    cases hq37 : F_Mo_taken (x0) ((0 : Int32)) ((2 : Int32)) ((5 : Int32)) σ with
    | none => simp only [hq37] at hF; cases hF
    | some q37 =>
      simp only [hq37] at hF
      refine t_V3v hB hx0 rfl rfl f_Mo_things_298 (by decide) (Nat.le_of_ble_eq_true rfl) (Nat.le_of_ble_eq_true rfl) (w_Mo_taken hB (by omega) (x0) ((0 : Int32)) ((2 : Int32)) ((5 : Int32)) hx0 hq37 ⟨rfl, ?_⟩)
      refine r_goto f_Mo_things_301 ?_
      exact w_Mo_things_311 hB hd  hQ _ (q37) hF
  rw [if_neg c36] at hF
  refine r_tswO f_Mo_things_17 (by have zc6 := lv_neT c6 (by decide : (17 : Int32).toInt = 17); have zc8 := lv_neT c8 (by decide : (18 : Int32).toInt = 18); have zc11 := lv_neT c11 (by decide : (19 : Int32).toInt = 19); have zc14 := lv_neT c14 (by decide : (20 : Int32).toInt = 20); have zc17 := lv_neT c17 (by decide : (21 : Int32).toInt = 21); have zc19 := lv_neT c19 (by decide : (22 : Int32).toInt = 22); have zc21 := lv_neT c21 (by decide : (23 : Int32).toInt = 23); have zc24 := lv_neT c24 (by decide : (24 : Int32).toInt = 24); have zc26 := lv_neT c26 (by decide : (25 : Int32).toInt = 25); have zc28 := lv_neT c28 (by decide : (26 : Int32).toInt = 26); have zc30 := lv_neT c30 (by decide : (27 : Int32).toInt = 27); have zc32 := lv_neT c32 (by decide : (28 : Int32).toInt = 28); have zc34 := lv_neT c34 (by decide : (29 : Int32).toInt = 29); have zc35 := lv_neT c35 (by decide : (30 : Int32).toInt = 30); have zc36 := lv_neT c36 (by decide : (31 : Int32).toInt = 31); omega) ?_
  refine r_aload_n f_Mo_things_304 (lk_put_ne l0 (by decide) (Or.inl rfl)) ?_
  refine r_iconst f_Mo_things_305 (v := 0) (by decide) ?_
  refine r_iconst f_Mo_things_306 (v := 5) (by decide) ?_
  refine r_iconst f_Mo_things_307 (v := 2) (by decide) ?_
  cases hq38 : F_Mo_taken (x0) ((0 : Int32)) ((5 : Int32)) ((2 : Int32)) σ with
  | none => simp only [hq38] at hF; cases hF
  | some q38 =>
    simp only [hq38] at hF
    refine t_V3v hB hx0 rfl rfl f_Mo_things_308 (by decide) (Nat.le_of_ble_eq_true rfl) (Nat.le_of_ble_eq_true rfl) (w_Mo_taken hB (by omega) (x0) ((0 : Int32)) ((5 : Int32)) ((2 : Int32)) hx0 hq38 ⟨rfl, ?_⟩)
    exact w_Mo_things_311 hB hd  hQ _ (q38) hF
def F_Mo_things (a0 : Nat) (a1 : Int32) (a2 : Int32) (σ : SG) : Option (SG) :=
  if (21 : Int32) ≤ a2 then
  F_Mo_things_15 (a0) (a2) ((0 : Int32)) σ
  else match F_Mo_operand (a0) (a1) σ with
  | none => none
  | some q40 =>
  F_Mo_things_15 (a0) (a2) (q40.1) q40.2
set_option maxHeartbeats 4000000 in
theorem w_Mo_things {b d : Nat} {pre tl : List PE} {B : Nat} {Q : Option Value → List PE → Prop} {res : SG} (hB : B = b + pre.length) (hd : 3 ≤ d)  {σ : SG} (a0 : Nat) (a1 : Int32) (a2 : Int32) (ha0 : isC SHm (a0) 8 = true) (hF : F_Mo_things a0 a1 a2 σ = some res) (hQ : Q none (HH pre tl SHm B res)) : Cl b d 54 [.ref (B + (a0)), .int (a1), .int (a2)] (HH pre tl SHm B σ) Q := by
  obtain ⟨e0, rfl⟩ : ∃ e, d = e + 1 := ⟨d - 1, by omega⟩
  unfold Cl
  unfold F_Mo_things at hF
  refine r_iload_n f_Mo_things_0 rfl ?_
  refine r_bipush f_Mo_things_1 (v := 21) (by decide) ?_
  refine r_icmp_ge f_Mo_things_3 (fun c39 => ?_) (fun c39 => ?_)
  · rw [if_pos c39] at hF
    refine r_iconst f_Mo_things_14 (v := 0) (by decide) ?_
    exact w_Mo_things_15 hB hd  hQ _ (σ) (a0) (a2) ((0 : Int32)) ha0 rfl rfl hF
  · rw [if_neg c39] at hF
    refine r_aload_n f_Mo_things_6 rfl ?_
    refine r_iload_n f_Mo_things_7 rfl ?_
    cases hq40 : F_Mo_operand (a0) (a1) σ with
    | none => simp only [hq40] at hF; cases hF
    | some q40 =>
      simp only [hq40] at hF
      refine t_V1i hB ha0 rfl rfl f_Mo_things_8 (by decide) (Nat.le_of_ble_eq_true rfl) (Nat.le_of_ble_eq_true rfl) (w_Mo_operand hB  (a0) (a1) ha0 hq40 ⟨_, rfl, ?_⟩)
      refine r_goto f_Mo_things_11 ?_
      exact w_Mo_things_15 hB hd  hQ _ (q40.2) (a0) (a2) (q40.1) ha0 rfl rfl hF
theorem f_Mo_innermost_0 : fetch 58 0 = some (.iconst 3, 1, 0, 0, 0) := rfl
theorem f_Mo_innermost_1 : fetch 58 1 = some (.aload_n 0, 1, 0, 0, 0) := rfl
theorem f_Mo_innermost_2 : fetch 58 2 = some (.getfield 154, 3, 8, 24, 65) := rfl
theorem f_Mo_innermost_5 : fetch 58 5 = some (.imul, 1, 0, 0, 0) := rfl
theorem f_Mo_innermost_6 : fetch 58 6 = some (.istore_n 2, 1, 0, 0, 0) := rfl
theorem f_Mo_innermost_7 : fetch 58 7 = some (.iload_n 2, 1, 0, 0, 0) := rfl
theorem f_Mo_innermost_8 : fetch 58 8 = some (.iconst 3, 1, 0, 0, 0) := rfl
theorem f_Mo_innermost_9 : fetch 58 9 = some (.aload_n 0, 1, 0, 0, 0) := rfl
theorem f_Mo_innermost_10 : fetch 58 10 = some (.getfield 154, 3, 8, 24, 65) := rfl
theorem f_Mo_innermost_13 : fetch 58 13 = some (.imul, 1, 0, 0, 0) := rfl
theorem f_Mo_innermost_14 : fetch 58 14 = some (.aload_n 0, 1, 0, 0, 0) := rfl
theorem f_Mo_innermost_15 : fetch 58 15 = some (.getfield 34, 3, 8, 13, 35) := rfl
theorem f_Mo_innermost_18 : fetch 58 18 = some (.aload_n 0, 1, 0, 0, 0) := rfl
theorem f_Mo_innermost_19 : fetch 58 19 = some (.getfield 154, 3, 8, 24, 65) := rfl
theorem f_Mo_innermost_22 : fetch 58 22 = some (.iaload, 1, 0, 0, 0) := rfl
theorem f_Mo_innermost_23 : fetch 58 23 = some (.iadd, 1, 0, 0, 0) := rfl
theorem f_Mo_innermost_24 : fetch 58 24 = some (.if_icmp .ge 31, 3, 55, 0, 0) := rfl
theorem f_Mo_innermost_27 : fetch 58 27 = some (.iload_n 1, 1, 0, 0, 0) := rfl
theorem f_Mo_innermost_28 : fetch 58 28 = some (.aload_n 0, 1, 0, 0, 0) := rfl
theorem f_Mo_innermost_29 : fetch 58 29 = some (.getfield 37, 3, 8, 14, 36) := rfl
theorem f_Mo_innermost_32 : fetch 58 32 = some (.iload_n 2, 1, 0, 0, 0) := rfl
theorem f_Mo_innermost_33 : fetch 58 33 = some (.iaload, 1, 0, 0, 0) := rfl
theorem f_Mo_innermost_34 : fetch 58 34 = some (.if_icmp .lt 15, 3, 49, 0, 0) := rfl
theorem f_Mo_innermost_37 : fetch 58 37 = some (.iload_n 1, 1, 0, 0, 0) := rfl
theorem f_Mo_innermost_38 : fetch 58 38 = some (.aload_n 0, 1, 0, 0, 0) := rfl
theorem f_Mo_innermost_39 : fetch 58 39 = some (.getfield 43, 3, 8, 16, 38) := rfl
theorem f_Mo_innermost_42 : fetch 58 42 = some (.iload_n 2, 1, 0, 0, 0) := rfl
theorem f_Mo_innermost_43 : fetch 58 43 = some (.iaload, 1, 0, 0, 0) := rfl
theorem f_Mo_innermost_44 : fetch 58 44 = some (.if_icmp .ge 5, 3, 49, 0, 0) := rfl
theorem f_Mo_innermost_47 : fetch 58 47 = some (.iload_n 2, 1, 0, 0, 0) := rfl
theorem f_Mo_innermost_48 : fetch 58 48 = some (.ireturn, 1, 0, 0, 0) := rfl
theorem f_Mo_innermost_49 : fetch 58 49 = some (.iinc 2 1, 3, 0, 0, 0) := rfl
theorem f_Mo_innermost_52 : fetch 58 52 = some (.goto (-45), 3, 7, 0, 0) := rfl
theorem f_Mo_innermost_55 : fetch 58 55 = some (.iconst (-1), 1, 0, 0, 0) := rfl
theorem f_Mo_innermost_56 : fetch 58 56 = some (.ireturn, 1, 0, 0, 0) := rfl
def F_Mo_innermost_49 (rec7 : Nat → Int32 → Int32 → SG → Option (Int32 × SG)) (x0 : Nat) (x1 : Int32) (x2 : Int32) (σ : SG) : Option (Int32 × SG) :=
  rec7 (x0) (x1) ((x2 + 1)) σ
set_option maxHeartbeats 4000000 in
theorem w_Mo_innermost_49 {b d : Nat} {sc : SC} {pre tl : List PE} {B : Nat} {Q : Option Value → List PE → Prop} {res : Int32 × SG} (hB : B = b + pre.length) {rec7 : Nat → Int32 → Int32 → SG → Option (Int32 × SG)} (hr7 : ∀ (lv : LV) (σ : SG) (x0 : Nat) (x1 : Int32) (x2 : Int32), isC SHm (x0) 8 = true → lv.lookup 0 = some (.ref (B + (x0))) → lv.lookup 1 = some (.int (x1)) → lv.lookup 2 = some (.int (x2)) →  rec7 x0 x1 x2 σ = some res → Rn b sc d 58 7 lv [] (HH pre tl SHm B σ) Q) (hQ : Q (some (.int res.1)) (HH pre tl SHm B res.2)) (lv : LV) (σ : SG) (x0 : Nat) (x1 : Int32) (x2 : Int32) (hx0 : isC SHm (x0) 8 = true) (l0 : lv.lookup 0 = some (.ref (B + (x0)))) (l1 : lv.lookup 1 = some (.int (x1))) (l2 : lv.lookup 2 = some (.int (x2))) (hF : F_Mo_innermost_49 rec7 x0 x1 x2 σ = some res) : Rn b sc d 58 49 lv [] (HH pre tl SHm B σ) Q := by
  unfold F_Mo_innermost_49 at hF
  refine r_iinc f_Mo_innermost_49 l2 (w := x2 + 1) rfl ?_
  refine r_goto f_Mo_innermost_52 ?_
  exact hr7 _ (σ) (x0) (x1) ((x2 + 1)) hx0 (lk_put_ne l0 (by decide) (Or.inl rfl)) (lk_put_ne l1 (by decide) (Or.inl rfl)) lk_put hF
def F_Mo_innermost_7  : Nat → Nat → Int32 → Int32 → SG → Option (Int32 × SG)
  | 0, _, _, _, _ => none
  | n + 1, x0, x1, x2, σ =>
  if (σ.1 (x0) 24) < 0 ∨ 6 ≤ ((σ.1 (x0) 24)).toNatClampNeg then none else
  if (((3 : Int32) * (σ.1 (x0) 24)) + (σ.2.2.2.1 ((cref SHm (x0) 13)) (((σ.1 (x0) 24)).toNatClampNeg))) ≤ x2 then
  some (((-1) : Int32), σ)
  else if x2 < 0 ∨ 18 ≤ (x2).toNatClampNeg then none else
  if x1 < (σ.2.2.2.1 ((cref SHm (x0) 14)) ((x2).toNatClampNeg)) then
  F_Mo_innermost_49 (F_Mo_innermost_7  n) (x0) (x1) (x2) σ
  else if x2 < 0 ∨ 18 ≤ (x2).toNatClampNeg then none else
  if (σ.2.2.2.1 ((cref SHm (x0) 16)) ((x2).toNatClampNeg)) ≤ x1 then
  F_Mo_innermost_49 (F_Mo_innermost_7  n) (x0) (x1) (x2) σ
  else some (x2, σ)
set_option maxHeartbeats 4000000 in
theorem w_Mo_innermost_7 {b d : Nat} {sc : SC} {pre tl : List PE} {B : Nat} {Q : Option Value → List PE → Prop} {res : Int32 × SG} (hB : B = b + pre.length)   (hQ : Q (some (.int res.1)) (HH pre tl SHm B res.2)) : ∀ (n : Nat) (lv : LV) (σ : SG) (x0 : Nat) (x1 : Int32) (x2 : Int32), isC SHm (x0) 8 = true → lv.lookup 0 = some (.ref (B + (x0))) → lv.lookup 1 = some (.int (x1)) → lv.lookup 2 = some (.int (x2)) → F_Mo_innermost_7  n x0 x1 x2 σ = some res → Rn b sc d 58 7 lv [] (HH pre tl SHm B σ) Q := by
  intro n
  induction n with
  | zero => intro lv σ x0 x1 x2 hx0 l0 l1 l2 hF; cases hF
  | succ n ih =>
    intro lv σ x0 x1 x2 hx0 l0 l1 l2 hF
    unfold F_Mo_innermost_7 at hF
    refine r_iload_n f_Mo_innermost_7 l2 ?_
    refine r_iconst f_Mo_innermost_8 (v := 3) (by decide) ?_
    refine r_aload_n f_Mo_innermost_9 l0 ?_
    refine t_geti hB hx0 f_Mo_innermost_10 rfl ?_
    refine r_imul f_Mo_innermost_13 ?_
    refine r_aload_n f_Mo_innermost_14 l0 ?_
    refine t_getc hB hx0 f_Mo_innermost_15 rfl ?_
    refine r_aload_n f_Mo_innermost_18 l0 ?_
    refine t_geti hB hx0 f_Mo_innermost_19 rfl ?_
    by_cases c1 : (σ.1 (x0) 24) < 0 ∨ 6 ≤ ((σ.1 (x0) 24)).toNatClampNeg
    · rw [if_pos c1] at hF; cases hF
    rw [if_neg c1] at hF
    refine t_iald hB (cc_8_13 hx0) f_Mo_innermost_22 c1 ?_
    refine r_iadd f_Mo_innermost_23 ?_
    refine r_icmp_ge f_Mo_innermost_24 (fun c2 => ?_) (fun c2 => ?_)
    · rw [if_pos c2] at hF
      refine r_iconst f_Mo_innermost_55 (v := (-1)) (by decide) ?_
      cases hF
      exact r_ireturn f_Mo_innermost_56 hQ
    · rw [if_neg c2] at hF
      refine r_iload_n f_Mo_innermost_27 l1 ?_
      refine r_aload_n f_Mo_innermost_28 l0 ?_
      refine t_getc hB hx0 f_Mo_innermost_29 rfl ?_
      refine r_iload_n f_Mo_innermost_32 l2 ?_
      by_cases c3 : x2 < 0 ∨ 18 ≤ (x2).toNatClampNeg
      · rw [if_pos c3] at hF; cases hF
      rw [if_neg c3] at hF
      refine t_iald hB (cc_8_14 hx0) f_Mo_innermost_33 c3 ?_
      refine r_icmp_lt f_Mo_innermost_34 (fun c4 => ?_) (fun c4 => ?_)
      · rw [if_pos c4] at hF
        exact w_Mo_innermost_49 hB  (ih) hQ _ (σ) (x0) (x1) (x2) hx0 l0 l1 l2 hF
      · rw [if_neg c4] at hF
        refine r_iload_n f_Mo_innermost_37 l1 ?_
        refine r_aload_n f_Mo_innermost_38 l0 ?_
        refine t_getc hB hx0 f_Mo_innermost_39 rfl ?_
        refine r_iload_n f_Mo_innermost_42 l2 ?_
        by_cases c5 : x2 < 0 ∨ 18 ≤ (x2).toNatClampNeg
        · rw [if_pos c5] at hF; cases hF
        rw [if_neg c5] at hF
        refine t_iald hB (cc_8_16 hx0) f_Mo_innermost_43 c5 ?_
        refine r_icmp_ge f_Mo_innermost_44 (fun c6 => ?_) (fun c6 => ?_)
        · rw [if_pos c6] at hF
          exact w_Mo_innermost_49 hB  (ih) hQ _ (σ) (x0) (x1) (x2) hx0 l0 l1 l2 hF
        · rw [if_neg c6] at hF
          refine r_iload_n f_Mo_innermost_47 l2 ?_
          cases hF
          exact r_ireturn f_Mo_innermost_48 hQ
def F_Mo_innermost (a0 : Nat) (a1 : Int32) (σ : SG) : Option (Int32 × SG) :=
  F_Mo_innermost_7  5000 (a0) (a1) (((3 : Int32) * (σ.1 (a0) 24))) σ
set_option maxHeartbeats 4000000 in
theorem w_Mo_innermost {b d : Nat} {pre tl : List PE} {B : Nat} {Q : Option Value → List PE → Prop} {res : Int32 × SG} (hB : B = b + pre.length)  {σ : SG} (a0 : Nat) (a1 : Int32) (ha0 : isC SHm (a0) 8 = true) (hF : F_Mo_innermost a0 a1 σ = some res) (hQ : Q (some (.int res.1)) (HH pre tl SHm B res.2)) : Cl b d 58 [.ref (B + (a0)), .int (a1)] (HH pre tl SHm B σ) Q := by
  unfold Cl
  unfold F_Mo_innermost at hF
  refine r_iconst f_Mo_innermost_0 (v := 3) (by decide) ?_
  refine r_aload_n f_Mo_innermost_1 rfl ?_
  refine t_geti hB ha0 f_Mo_innermost_2 rfl ?_
  refine r_imul f_Mo_innermost_5 ?_
  refine r_istore_n f_Mo_innermost_6 ?_
  exact w_Mo_innermost_7 hB   hQ 5000 _ (σ) (a0) (a1) (((3 : Int32) * (σ.1 (a0) 24))) ha0 (lk_put_ne rfl (by decide) (Or.inl rfl)) (lk_put_ne rfl (by decide) (Or.inl rfl)) lk_put hF
