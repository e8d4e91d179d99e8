theorem f_Fr_begin_0 : fetch 2 0 = some (.aload_n 0, 1, 0, 0, 0) := rfl
theorem f_Fr_begin_1 : fetch 2 1 = some (.aload_n 1, 1, 0, 0, 0) := rfl
theorem f_Fr_begin_2 : fetch 2 2 = some (.putfield 13, 3, 0, 1, 1) := rfl
theorem f_Fr_begin_5 : fetch 2 5 = some (.aload_n 0, 1, 0, 0, 0) := rfl
theorem f_Fr_begin_6 : fetch 2 6 = some (.iload_n 2, 1, 0, 0, 0) := rfl
theorem f_Fr_begin_7 : fetch 2 7 = some (.putfield 36, 3, 0, 2, 7) := rfl
theorem f_Fr_begin_10 : fetch 2 10 = some (.aload_n 0, 1, 0, 0, 0) := rfl
theorem f_Fr_begin_11 : fetch 2 11 = some (.iconst 0, 1, 0, 0, 0) := rfl
theorem f_Fr_begin_12 : fetch 2 12 = some (.putfield 39, 3, 0, 3, 8) := rfl
theorem f_Fr_begin_15 : fetch 2 15 = some (.aload_n 0, 1, 0, 0, 0) := rfl
theorem f_Fr_begin_16 : fetch 2 16 = some (.iconst 0, 1, 0, 0, 0) := rfl
theorem f_Fr_begin_17 : fetch 2 17 = some (.putfield 42, 3, 0, 4, 9) := rfl
theorem f_Fr_begin_20 : fetch 2 20 = some (.iconst 0, 1, 0, 0, 0) := rfl
theorem f_Fr_begin_21 : fetch 2 21 = some (.istore_n 3, 1, 0, 0, 0) := rfl
theorem f_Fr_begin_22 : fetch 2 22 = some (.iload_n 3, 1, 0, 0, 0) := rfl
theorem f_Fr_begin_23 : fetch 2 23 = some (.iconst 3, 1, 0, 0, 0) := rfl
theorem f_Fr_begin_24 : fetch 2 24 = some (.if_icmp .ge 16, 3, 40, 0, 0) := rfl
theorem f_Fr_begin_27 : fetch 2 27 = some (.aload_n 0, 1, 0, 0, 0) := rfl
theorem f_Fr_begin_28 : fetch 2 28 = some (.getfield 26, 3, 0, 7, 4) := rfl
theorem f_Fr_begin_31 : fetch 2 31 = some (.iload_n 3, 1, 0, 0, 0) := rfl
theorem f_Fr_begin_32 : fetch 2 32 = some (.iconst 0, 1, 0, 0, 0) := rfl
theorem f_Fr_begin_33 : fetch 2 33 = some (.iastore, 1, 0, 0, 0) := rfl
theorem f_Fr_begin_34 : fetch 2 34 = some (.iinc 3 1, 3, 0, 0, 0) := rfl
theorem f_Fr_begin_37 : fetch 2 37 = some (.goto (-15), 3, 22, 0, 0) := rfl
theorem f_Fr_begin_40 : fetch 2 40 = some (.return_, 1, 0, 0, 0) := rfl
def F_Fr_begin_22  : Nat → Nat → Int32 → SG → Option (SG)
  | 0, _, _, _ => none
  | n + 1, x0, x3, σ =>
  if (3 : Int32) ≤ x3 then
  some σ
  else if x3 < 0 ∨ 3 ≤ (x3).toNatClampNeg then none else
  stl (setA σ ((cref SHc (x0) 7)) ((x3).toNatClampNeg) ((0 : Int32))) fun s3 =>
  F_Fr_begin_22  n (x0) ((x3 + 1)) s3
set_option maxHeartbeats 4000000 in
theorem w_Fr_begin_22 {b d : Nat} {sc : SC} {pre tl : List PE} {B : Nat} {Q : Option Value → List PE → Prop} {res : SG} (hB : B = b + pre.length)   (hQ : Q none (HH pre tl SHc B res)) : ∀ (n : Nat) (lv : LV) (σ : SG) (x0 : Nat) (x3 : Int32), isC SHc (x0) 0 = true → lv.lookup 0 = some (.ref (B + (x0))) → lv.lookup 3 = some (.int (x3)) → F_Fr_begin_22  n x0 x3 σ = some res → Rn b sc d 2 22 lv [] (HH pre tl SHc B σ) Q := by
  intro n
  induction n with
  | zero => intro lv σ x0 x3 hx0 l0 l3 hF; cases hF
  | succ n ih =>
    intro lv σ x0 x3 hx0 l0 l3 hF
    unfold F_Fr_begin_22 at hF
    refine r_iload_n f_Fr_begin_22 l3 ?_
    refine r_iconst f_Fr_begin_23 (v := 3) (by decide) ?_
    refine r_icmp_ge f_Fr_begin_24 (fun c1 => ?_) (fun c1 => ?_)
    · rw [if_pos c1] at hF
      cases hF
      exact r_return f_Fr_begin_40 hQ
    · rw [if_neg c1] at hF
      refine r_aload_n f_Fr_begin_27 l0 ?_
      refine t_getc hB hx0 f_Fr_begin_28 rfl ?_
      refine r_iload_n f_Fr_begin_31 l3 ?_
      refine r_iconst f_Fr_begin_32 (v := 0) (by decide) ?_
      by_cases c2 : x3 < 0 ∨ 3 ≤ (x3).toNatClampNeg
      · rw [if_pos c2] at hF; cases hF
      rw [if_neg c2] at hF
      refine t_iast hB (cc_0_7 hx0) f_Fr_begin_33 c2 ?_
      generalize hs3 : setA σ ((cref SHc (x0) 7)) ((x3).toNatClampNeg) ((0 : Int32)) = s3 at hF ⊢
      rw [stl_eq] at hF
      refine r_iinc f_Fr_begin_34 l3 (w := x3 + 1) rfl ?_
      refine r_goto f_Fr_begin_37 ?_
      exact ih _ (s3) (x0) ((x3 + 1)) hx0 (lk_put_ne l0 (by decide) (Or.inl rfl)) lk_put hF
def F_Fr_begin (a0 : Nat) (a1 : Nat) (a2 : Int32) (σ : SG) : Option (SG) :=
  stl (setP σ (a0) 1 (a1)) fun s4 =>
  stl (setI s4 (a0) 2 (a2)) fun s5 =>
  stl (setI s5 (a0) 3 ((0 : Int32))) fun s6 =>
  stl (setI s6 (a0) 4 ((0 : Int32))) fun s7 =>
  F_Fr_begin_22  5000 (a0) ((0 : Int32)) s7
set_option maxHeartbeats 4000000 in
theorem w_Fr_begin {b d : Nat} {pre tl : List PE} {B : Nat} {Q : Option Value → List PE → Prop} {res : SG} (hB : B = b + pre.length)  {σ : SG} (a0 : Nat) (a1 : Nat) (a2 : Int32) (ha0 : isC SHc (a0) 0 = true) (ha1 : isC SHc (a1) 2 = true) (hF : F_Fr_begin a0 a1 a2 σ = some res) (hQ : Q none (HH pre tl SHc B res)) : Cl b d 2 [.ref (B + (a0)), .ref (B + (a1)), .int (a2)] (HH pre tl SHc B σ) Q := by
  unfold Cl
  unfold F_Fr_begin at hF
  refine r_aload_n f_Fr_begin_0 rfl ?_
  refine r_aload_n f_Fr_begin_1 rfl ?_
  refine t_putm hB ha0 f_Fr_begin_2 rfl rfl ?_
  generalize hs4 : setP σ (a0) 1 (a1) = s4 at hF ⊢
  rw [stl_eq] at hF
  refine r_aload_n f_Fr_begin_5 rfl ?_
  refine r_iload_n f_Fr_begin_6 rfl ?_
  refine t_puti hB ha0 f_Fr_begin_7 rfl rfl ?_
  generalize hs5 : setI s4 (a0) 2 (a2) = s5 at hF ⊢
  rw [stl_eq] at hF
  refine r_aload_n f_Fr_begin_10 rfl ?_
  refine r_iconst f_Fr_begin_11 (v := 0) (by decide) ?_
  refine t_puti hB ha0 f_Fr_begin_12 rfl rfl ?_
  generalize hs6 : setI s5 (a0) 3 ((0 : Int32)) = s6 at hF ⊢
  rw [stl_eq] at hF
  refine r_aload_n f_Fr_begin_15 rfl ?_
  refine r_iconst f_Fr_begin_16 (v := 0) (by decide) ?_
  refine t_puti hB ha0 f_Fr_begin_17 rfl rfl ?_
  generalize hs7 : setI s6 (a0) 4 ((0 : Int32)) = s7 at hF ⊢
  rw [stl_eq] at hF
  refine r_iconst f_Fr_begin_20 (v := 0) (by decide) ?_
  refine r_istore_n f_Fr_begin_21 ?_
  exact w_Fr_begin_22 hB   hQ 5000 _ (s7) (a0) ((0 : Int32)) ha0 (lk_put_ne rfl (by decide) (Or.inl rfl)) lk_put hF
theorem f_Fr_setArgument_0 : fetch 3 0 = some (.iload_n 1, 1, 0, 0, 0) := rfl
theorem f_Fr_setArgument_1 : fetch 3 1 = some (.ifCond .lt 15, 3, 16, 0, 0) := rfl
theorem f_Fr_setArgument_4 : fetch 3 4 = some (.iload_n 1, 1, 0, 0, 0) := rfl
theorem f_Fr_setArgument_5 : fetch 3 5 = some (.iconst 3, 1, 0, 0, 0) := rfl
theorem f_Fr_setArgument_6 : fetch 3 6 = some (.if_icmp .ge 10, 3, 16, 0, 0) := rfl
theorem f_Fr_setArgument_9 : fetch 3 9 = some (.aload_n 0, 1, 0, 0, 0) := rfl
theorem f_Fr_setArgument_10 : fetch 3 10 = some (.getfield 23, 3, 0, 6, 3) := rfl
theorem f_Fr_setArgument_13 : fetch 3 13 = some (.iload_n 1, 1, 0, 0, 0) := rfl
theorem f_Fr_setArgument_14 : fetch 3 14 = some (.lload_n 2, 1, 0, 0, 0) := rfl
theorem f_Fr_setArgument_15 : fetch 3 15 = some (.lastore, 1, 0, 0, 0) := rfl
theorem f_Fr_setArgument_16 : fetch 3 16 = some (.return_, 1, 0, 0, 0) := rfl
def F_Fr_setArgument_16   (σ : SG) : Option (SG) :=
  some σ
set_option maxHeartbeats 4000000 in
theorem w_Fr_setArgument_16 {b d : Nat} {sc : SC} {pre tl : List PE} {B : Nat} {Q : Option Value → List PE → Prop} {res : SG} (hB : B = b + pre.length)   (hQ : Q none (HH pre tl SHc B res)) (lv : LV) (σ : SG)   (hF : F_Fr_setArgument_16   σ = some res) : Rn b sc d 3 16 lv [] (HH pre tl SHc B σ) Q := by
  unfold F_Fr_setArgument_16 at hF
  cases hF
  exact r_return f_Fr_setArgument_16 hQ
def F_Fr_setArgument (a0 : Nat) (a1 : Int32) (a2 : Int64) (σ : SG) : Option (SG) :=
  if a1 < 0 then
  F_Fr_setArgument_16 σ
  else if (3 : Int32) ≤ a1 then
  F_Fr_setArgument_16 σ
  else if a1 < 0 ∨ 3 ≤ (a1).toNatClampNeg then none else
  stl (setL σ ((cref SHc (a0) 6)) ((a1).toNatClampNeg) (a2)) fun s4 =>
  F_Fr_setArgument_16 s4
set_option maxHeartbeats 4000000 in
theorem w_Fr_setArgument {b d : Nat} {pre tl : List PE} {B : Nat} {Q : Option Value → List PE → Prop} {res : SG} (hB : B = b + pre.length)  {σ : SG} (a0 : Nat) (a1 : Int32) (a2 : Int64) (ha0 : isC SHc (a0) 0 = true) (hF : F_Fr_setArgument a0 a1 a2 σ = some res) (hQ : Q none (HH pre tl SHc B res)) : Cl b d 3 [.ref (B + (a0)), .int (a1), .long (a2)] (HH pre tl SHc B σ) Q := by
  unfold Cl
  unfold F_Fr_setArgument at hF
  refine r_iload_n f_Fr_setArgument_0 rfl ?_
  refine r_if_lt f_Fr_setArgument_1 (fun c1 => ?_) (fun c1 => ?_)
  · rw [if_pos c1] at hF
    exact w_Fr_setArgument_16 hB   hQ _ (σ) hF
  · rw [if_neg c1] at hF
    refine r_iload_n f_Fr_setArgument_4 rfl ?_
    refine r_iconst f_Fr_setArgument_5 (v := 3) (by decide) ?_
    refine r_icmp_ge f_Fr_setArgument_6 (fun c2 => ?_) (fun c2 => ?_)
    · rw [if_pos c2] at hF
      exact w_Fr_setArgument_16 hB   hQ _ (σ) hF
    · rw [if_neg c2] at hF
      refine r_aload_n f_Fr_setArgument_9 rfl ?_
      refine t_getc hB ha0 f_Fr_setArgument_10 rfl ?_
      refine r_iload_n f_Fr_setArgument_13 rfl ?_
      refine r_lload_n f_Fr_setArgument_14 rfl ?_
      by_cases c3 : a1 < 0 ∨ 3 ≤ (a1).toNatClampNeg
      · rw [if_pos c3] at hF; cases hF
      rw [if_neg c3] at hF
      refine t_last hB (cc_0_6 ha0) f_Fr_setArgument_15 c3 ?_
      generalize hs4 : setL σ ((cref SHc (a0) 6)) ((a1).toNatClampNeg) (a2) = s4 at hF ⊢
      rw [stl_eq] at hF
      exact w_Fr_setArgument_16 hB   hQ _ (s4) hF
theorem f_Fr_push_0 : fetch 4 0 = some (.aload_n 0, 1, 0, 0, 0) := rfl
theorem f_Fr_push_1 : fetch 4 1 = some (.getfield 42, 3, 0, 4, 9) := rfl
theorem f_Fr_push_4 : fetch 4 4 = some (.ifCond .lt 32, 3, 36, 0, 0) := rfl
theorem f_Fr_push_7 : fetch 4 7 = some (.aload_n 0, 1, 0, 0, 0) := rfl
theorem f_Fr_push_8 : fetch 4 8 = some (.getfield 42, 3, 0, 4, 9) := rfl
theorem f_Fr_push_11 : fetch 4 11 = some (.bipush 8, 2, 0, 0, 0) := rfl
theorem f_Fr_push_13 : fetch 4 13 = some (.if_icmp .ge 23, 3, 36, 0, 0) := rfl
theorem f_Fr_push_16 : fetch 4 16 = some (.aload_n 0, 1, 0, 0, 0) := rfl
theorem f_Fr_push_17 : fetch 4 17 = some (.getfield 17, 3, 0, 5, 2) := rfl
theorem f_Fr_push_20 : fetch 4 20 = some (.aload_n 0, 1, 0, 0, 0) := rfl
theorem f_Fr_push_21 : fetch 4 21 = some (.getfield 42, 3, 0, 4, 9) := rfl
theorem f_Fr_push_24 : fetch 4 24 = some (.lload_n 1, 1, 0, 0, 0) := rfl
theorem f_Fr_push_25 : fetch 4 25 = some (.lastore, 1, 0, 0, 0) := rfl
theorem f_Fr_push_26 : fetch 4 26 = some (.aload_n 0, 1, 0, 0, 0) := rfl
theorem f_Fr_push_27 : fetch 4 27 = some (.dup, 1, 0, 0, 0) := rfl
theorem f_Fr_push_28 : fetch 4 28 = some (.getfield 42, 3, 0, 4, 9) := rfl
theorem f_Fr_push_31 : fetch 4 31 = some (.iconst 1, 1, 0, 0, 0) := rfl
theorem f_Fr_push_32 : fetch 4 32 = some (.iadd, 1, 0, 0, 0) := rfl
theorem f_Fr_push_33 : fetch 4 33 = some (.putfield 42, 3, 0, 4, 9) := rfl
theorem f_Fr_push_36 : fetch 4 36 = some (.return_, 1, 0, 0, 0) := rfl
def F_Fr_push_36   (σ : SG) : Option (SG) :=
  some σ
set_option maxHeartbeats 4000000 in
theorem w_Fr_push_36 {b d : Nat} {sc : SC} {pre tl : List PE} {B : Nat} {Q : Option Value → List PE → Prop} {res : SG} (hB : B = b + pre.length)   (hQ : Q none (HH pre tl SHc B res)) (lv : LV) (σ : SG)   (hF : F_Fr_push_36   σ = some res) : Rn b sc d 4 36 lv [] (HH pre tl SHc B σ) Q := by
  unfold F_Fr_push_36 at hF
  cases hF
  exact r_return f_Fr_push_36 hQ
def F_Fr_push (a0 : Nat) (a1 : Int64) (σ : SG) : Option (SG) :=
  if (σ.1 (a0) 4) < 0 then
  F_Fr_push_36 σ
  else if (8 : Int32) ≤ (σ.1 (a0) 4) then
  F_Fr_push_36 σ
  else if (σ.1 (a0) 4) < 0 ∨ 8 ≤ ((σ.1 (a0) 4)).toNatClampNeg then none else
  stl (setL σ ((cref SHc (a0) 5)) (((σ.1 (a0) 4)).toNatClampNeg) (a1)) fun s4 =>
  stl (setI s4 (a0) 4 (((s4.1 (a0) 4) + (1 : Int32)))) fun s5 =>
  F_Fr_push_36 s5
set_option maxHeartbeats 4000000 in
theorem w_Fr_push {b d : Nat} {pre tl : List PE} {B : Nat} {Q : Option Value → List PE → Prop} {res : SG} (hB : B = b + pre.length)  {σ : SG} (a0 : Nat) (a1 : Int64) (ha0 : isC SHc (a0) 0 = true) (hF : F_Fr_push a0 a1 σ = some res) (hQ : Q none (HH pre tl SHc B res)) : Cl b d 4 [.ref (B + (a0)), .long (a1)] (HH pre tl SHc B σ) Q := by
  unfold Cl
  unfold F_Fr_push at hF
  refine r_aload_n f_Fr_push_0 rfl ?_
  refine t_geti hB ha0 f_Fr_push_1 rfl ?_
  refine r_if_lt f_Fr_push_4 (fun c1 => ?_) (fun c1 => ?_)
  · rw [if_pos c1] at hF
    exact w_Fr_push_36 hB   hQ _ (σ) hF
  · rw [if_neg c1] at hF
    refine r_aload_n f_Fr_push_7 rfl ?_
    refine t_geti hB ha0 f_Fr_push_8 rfl ?_
    refine r_bipush f_Fr_push_11 (v := 8) (by decide) ?_
    refine r_icmp_ge f_Fr_push_13 (fun c2 => ?_) (fun c2 => ?_)
    · rw [if_pos c2] at hF
      exact w_Fr_push_36 hB   hQ _ (σ) hF
    · rw [if_neg c2] at hF
      refine r_aload_n f_Fr_push_16 rfl ?_
      refine t_getc hB ha0 f_Fr_push_17 rfl ?_
      refine r_aload_n f_Fr_push_20 rfl ?_
      refine t_geti hB ha0 f_Fr_push_21 rfl ?_
      refine r_lload_n f_Fr_push_24 rfl ?_
      by_cases c3 : (σ.1 (a0) 4) < 0 ∨ 8 ≤ ((σ.1 (a0) 4)).toNatClampNeg
      · rw [if_pos c3] at hF; cases hF
      rw [if_neg c3] at hF
      refine t_last hB (cc_0_5 ha0) f_Fr_push_25 c3 ?_
      generalize hs4 : setL σ ((cref SHc (a0) 5)) (((σ.1 (a0) 4)).toNatClampNeg) (a1) = s4 at hF ⊢
      rw [stl_eq] at hF
      refine r_aload_n f_Fr_push_26 rfl ?_
      refine r_dup f_Fr_push_27 rfl ?_
      refine t_geti hB ha0 f_Fr_push_28 rfl ?_
      refine r_iconst f_Fr_push_31 (v := 1) (by decide) ?_
      refine r_iadd f_Fr_push_32 ?_
      refine t_puti hB ha0 f_Fr_push_33 rfl rfl ?_
      generalize hs5 : setI s4 (a0) 4 (((s4.1 (a0) 4) + (1 : Int32))) = s5 at hF ⊢
      rw [stl_eq] at hF
      exact w_Fr_push_36 hB   hQ _ (s5) hF
theorem f_Fr_pop_0 : fetch 5 0 = some (.aload_n 0, 1, 0, 0, 0) := rfl
theorem f_Fr_pop_1 : fetch 5 1 = some (.getfield 42, 3, 0, 4, 9) := rfl
theorem f_Fr_pop_4 : fetch 5 4 = some (.ifCond .le 12, 3, 16, 0, 0) := rfl
theorem f_Fr_pop_7 : fetch 5 7 = some (.aload_n 0, 1, 0, 0, 0) := rfl
theorem f_Fr_pop_8 : fetch 5 8 = some (.getfield 42, 3, 0, 4, 9) := rfl
theorem f_Fr_pop_11 : fetch 5 11 = some (.bipush 8, 2, 0, 0, 0) := rfl
theorem f_Fr_pop_13 : fetch 5 13 = some (.if_icmp .le 5, 3, 18, 0, 0) := rfl
theorem f_Fr_pop_16 : fetch 5 16 = some (.lconst 0, 1, 0, 0, 0) := rfl
theorem f_Fr_pop_17 : fetch 5 17 = some (.lreturn, 1, 0, 0, 0) := rfl
theorem f_Fr_pop_18 : fetch 5 18 = some (.aload_n 0, 1, 0, 0, 0) := rfl
theorem f_Fr_pop_19 : fetch 5 19 = some (.dup, 1, 0, 0, 0) := rfl
theorem f_Fr_pop_20 : fetch 5 20 = some (.getfield 42, 3, 0, 4, 9) := rfl
theorem f_Fr_pop_23 : fetch 5 23 = some (.iconst 1, 1, 0, 0, 0) := rfl
theorem f_Fr_pop_24 : fetch 5 24 = some (.isub, 1, 0, 0, 0) := rfl
theorem f_Fr_pop_25 : fetch 5 25 = some (.putfield 42, 3, 0, 4, 9) := rfl
theorem f_Fr_pop_28 : fetch 5 28 = some (.aload_n 0, 1, 0, 0, 0) := rfl
theorem f_Fr_pop_29 : fetch 5 29 = some (.getfield 17, 3, 0, 5, 2) := rfl
theorem f_Fr_pop_32 : fetch 5 32 = some (.aload_n 0, 1, 0, 0, 0) := rfl
theorem f_Fr_pop_33 : fetch 5 33 = some (.getfield 42, 3, 0, 4, 9) := rfl
theorem f_Fr_pop_36 : fetch 5 36 = some (.laload, 1, 0, 0, 0) := rfl
theorem f_Fr_pop_37 : fetch 5 37 = some (.lreturn, 1, 0, 0, 0) := rfl
def F_Fr_pop_16   (σ : SG) : Option (Int64 × SG) :=
  some ((0 : Int64), σ)
set_option maxHeartbeats 4000000 in
theorem w_Fr_pop_16 {b d : Nat} {sc : SC} {pre tl : List PE} {B : Nat} {Q : Option Value → List PE → Prop} {res : Int64 × SG} (hB : B = b + pre.length)   (hQ : Q (some (.long res.1)) (HH pre tl SHc B res.2)) (lv : LV) (σ : SG)   (hF : F_Fr_pop_16   σ = some res) : Rn b sc d 5 16 lv [] (HH pre tl SHc B σ) Q := by
  unfold F_Fr_pop_16 at hF
  refine r_lconst f_Fr_pop_16 (v := 0) (by decide) ?_
  cases hF
  exact r_lreturn f_Fr_pop_17 hQ
def F_Fr_pop (a0 : Nat) (σ : SG) : Option (Int64 × SG) :=
  if (σ.1 (a0) 4) ≤ 0 then
  F_Fr_pop_16 σ
  else if (σ.1 (a0) 4) ≤ (8 : Int32) then
  stl (setI σ (a0) 4 (((σ.1 (a0) 4) - (1 : Int32)))) fun s3 =>
  if (s3.1 (a0) 4) < 0 ∨ 8 ≤ ((s3.1 (a0) 4)).toNatClampNeg then none else
  some ((s3.2.2.2.2 ((cref SHc (a0) 5)) (((s3.1 (a0) 4)).toNatClampNeg)), s3)
  else F_Fr_pop_16 σ
set_option maxHeartbeats 4000000 in
theorem w_Fr_pop {b d : Nat} {pre tl : List PE} {B : Nat} {Q : Option Value → List PE → Prop} {res : Int64 × SG} (hB : B = b + pre.length)  {σ : SG} (a0 : Nat) (ha0 : isC SHc (a0) 0 = true) (hF : F_Fr_pop a0 σ = some res) (hQ : Q (some (.long res.1)) (HH pre tl SHc B res.2)) : Cl b d 5 [.ref (B + (a0))] (HH pre tl SHc B σ) Q := by
  unfold Cl
  unfold F_Fr_pop at hF
  refine r_aload_n f_Fr_pop_0 rfl ?_
  refine t_geti hB ha0 f_Fr_pop_1 rfl ?_
  refine r_if_le f_Fr_pop_4 (fun c1 => ?_) (fun c1 => ?_)
  · rw [if_pos c1] at hF
    exact w_Fr_pop_16 hB   hQ _ (σ) hF
  · rw [if_neg c1] at hF
    refine r_aload_n f_Fr_pop_7 rfl ?_
    refine t_geti hB ha0 f_Fr_pop_8 rfl ?_
    refine r_bipush f_Fr_pop_11 (v := 8) (by decide) ?_
    refine r_icmp_le f_Fr_pop_13 (fun c2 => ?_) (fun c2 => ?_)
    · rw [if_pos c2] at hF
      refine r_aload_n f_Fr_pop_18 rfl ?_
      refine r_dup f_Fr_pop_19 rfl ?_
      refine t_geti hB ha0 f_Fr_pop_20 rfl ?_
      refine r_iconst f_Fr_pop_23 (v := 1) (by decide) ?_
      refine r_isub f_Fr_pop_24 ?_
      refine t_puti hB ha0 f_Fr_pop_25 rfl rfl ?_
      generalize hs3 : setI σ (a0) 4 (((σ.1 (a0) 4) - (1 : Int32))) = s3 at hF ⊢
      rw [stl_eq] at hF
      refine r_aload_n f_Fr_pop_28 rfl ?_
      refine t_getc hB ha0 f_Fr_pop_29 rfl ?_
      refine r_aload_n f_Fr_pop_32 rfl ?_
      refine t_geti hB ha0 f_Fr_pop_33 rfl ?_
      by_cases c4 : (s3.1 (a0) 4) < 0 ∨ 8 ≤ ((s3.1 (a0) 4)).toNatClampNeg
      · rw [if_pos c4] at hF; cases hF
      rw [if_neg c4] at hF
      refine t_lald hB (cc_0_5 ha0) f_Fr_pop_36 c4 ?_
      cases hF
      exact r_lreturn f_Fr_pop_37 hQ
    · rw [if_neg c2] at hF
      exact w_Fr_pop_16 hB   hQ _ (σ) hF
theorem f_Fr_argument_0 : fetch 6 0 = some (.iload_n 1, 1, 0, 0, 0) := rfl
theorem f_Fr_argument_1 : fetch 6 1 = some (.ifCond .lt 8, 3, 9, 0, 0) := rfl
theorem f_Fr_argument_4 : fetch 6 4 = some (.iload_n 1, 1, 0, 0, 0) := rfl
theorem f_Fr_argument_5 : fetch 6 5 = some (.iconst 3, 1, 0, 0, 0) := rfl
theorem f_Fr_argument_6 : fetch 6 6 = some (.if_icmp .lt 7, 3, 13, 0, 0) := rfl
theorem f_Fr_argument_9 : fetch 6 9 = some (.lconst 0, 1, 0, 0, 0) := rfl
theorem f_Fr_argument_10 : fetch 6 10 = some (.goto 9, 3, 19, 0, 0) := rfl
theorem f_Fr_argument_13 : fetch 6 13 = some (.aload_n 0, 1, 0, 0, 0) := rfl
theorem f_Fr_argument_14 : fetch 6 14 = some (.getfield 23, 3, 0, 6, 3) := rfl
theorem f_Fr_argument_17 : fetch 6 17 = some (.iload_n 1, 1, 0, 0, 0) := rfl
theorem f_Fr_argument_18 : fetch 6 18 = some (.laload, 1, 0, 0, 0) := rfl
theorem f_Fr_argument_19 : fetch 6 19 = some (.lreturn, 1, 0, 0, 0) := rfl
def F_Fr_argument_19  (y0 : Int64) (σ : SG) : Option (Int64 × SG) :=
  some (y0, σ)
set_option maxHeartbeats 4000000 in
theorem w_Fr_argument_19 {b d : Nat} {sc : SC} {pre tl : List PE} {B : Nat} {Q : Option Value → List PE → Prop} {res : Int64 × SG} (hB : B = b + pre.length)   (hQ : Q (some (.long res.1)) (HH pre tl SHc B res.2)) (lv : LV) (σ : SG) (y0 : Int64)  (hF : F_Fr_argument_19  y0 σ = some res) : Rn b sc d 6 19 lv [.long (y0)] (HH pre tl SHc B σ) Q := by
  unfold F_Fr_argument_19 at hF
  cases hF
  exact r_lreturn f_Fr_argument_19 hQ
def F_Fr_argument_9   (σ : SG) : Option (Int64 × SG) :=
  F_Fr_argument_19 ((0 : Int64)) σ
set_option maxHeartbeats 4000000 in
theorem w_Fr_argument_9 {b d : Nat} {sc : SC} {pre tl : List PE} {B : Nat} {Q : Option Value → List PE → Prop} {res : Int64 × SG} (hB : B = b + pre.length)   (hQ : Q (some (.long res.1)) (HH pre tl SHc B res.2)) (lv : LV) (σ : SG)   (hF : F_Fr_argument_9   σ = some res) : Rn b sc d 6 9 lv [] (HH pre tl SHc B σ) Q := by
  unfold F_Fr_argument_9 at hF
  refine r_lconst f_Fr_argument_9 (v := 0) (by decide) ?_
  refine r_goto f_Fr_argument_10 ?_
  exact w_Fr_argument_19 hB   hQ _ (σ) ((0 : Int64)) hF
def F_Fr_argument (a0 : Nat) (a1 : Int32) (σ : SG) : Option (Int64 × SG) :=
  if a1 < 0 then
  F_Fr_argument_9 σ
  else if a1 < (3 : Int32) then
  if a1 < 0 ∨ 3 ≤ (a1).toNatClampNeg then none else
  F_Fr_argument_19 ((σ.2.2.2.2 ((cref SHc (a0) 6)) ((a1).toNatClampNeg))) σ
  else F_Fr_argument_9 σ
set_option maxHeartbeats 4000000 in
theorem w_Fr_argument {b d : Nat} {pre tl : List PE} {B : Nat} {Q : Option Value → List PE → Prop} {res : Int64 × SG} (hB : B = b + pre.length)  {σ : SG} (a0 : Nat) (a1 : Int32) (ha0 : isC SHc (a0) 0 = true) (hF : F_Fr_argument a0 a1 σ = some res) (hQ : Q (some (.long res.1)) (HH pre tl SHc B res.2)) : Cl b d 6 [.ref (B + (a0)), .int (a1)] (HH pre tl SHc B σ) Q := by
  unfold Cl
  unfold F_Fr_argument at hF
  refine r_iload_n f_Fr_argument_0 rfl ?_
  refine r_if_lt f_Fr_argument_1 (fun c1 => ?_) (fun c1 => ?_)
  · rw [if_pos c1] at hF
    exact w_Fr_argument_9 hB   hQ _ (σ) hF
  · rw [if_neg c1] at hF
    refine r_iload_n f_Fr_argument_4 rfl ?_
    refine r_iconst f_Fr_argument_5 (v := 3) (by decide) ?_
    refine r_icmp_lt f_Fr_argument_6 (fun c2 => ?_) (fun c2 => ?_)
    · rw [if_pos c2] at hF
      refine r_aload_n f_Fr_argument_13 rfl ?_
      refine t_getc hB ha0 f_Fr_argument_14 rfl ?_
      refine r_iload_n f_Fr_argument_17 rfl ?_
      by_cases c3 : a1 < 0 ∨ 3 ≤ (a1).toNatClampNeg
      · rw [if_pos c3] at hF; cases hF
      rw [if_neg c3] at hF
      refine t_lald hB (cc_0_6 ha0) f_Fr_argument_18 c3 ?_
      exact w_Fr_argument_19 hB   hQ _ (σ) ((σ.2.2.2.2 ((cref SHc (a0) 6)) ((a1).toNatClampNeg))) hF
    · rw [if_neg c2] at hF
      exact w_Fr_argument_9 hB   hQ _ (σ) hF
theorem f_Fr_popInt_0 : fetch 7 0 = some (.aload_n 0, 1, 0, 0, 0) := rfl
theorem f_Fr_popInt_1 : fetch 7 1 = some (.invokevirtual 45, 3, 5, 0, 29) := rfl
theorem f_Fr_popInt_4 : fetch 7 4 = some (.l2i, 1, 0, 0, 0) := rfl
theorem f_Fr_popInt_5 : fetch 7 5 = some (.ireturn, 1, 0, 0, 0) := rfl
def F_Fr_popInt (a0 : Nat) (σ : SG) : Option (Int32 × SG) :=
  match F_Fr_pop (a0) σ with
  | none => none
  | some q1 =>
  some (((q1.1 : Int64).toInt32), q1.2)
set_option maxHeartbeats 4000000 in
theorem w_Fr_popInt {b d : Nat} {pre tl : List PE} {B : Nat} {Q : Option Value → List PE → Prop} {res : Int32 × SG} (hB : B = b + pre.length) (hd : 1 ≤ d)  {σ : SG} (a0 : Nat) (ha0 : isC SHc (a0) 0 = true) (hF : F_Fr_popInt a0 σ = some res) (hQ : Q (some (.int res.1)) (HH pre tl SHc B res.2)) : Cl b d 7 [.ref (B + (a0))] (HH pre tl SHc B σ) Q := by
  obtain ⟨e0, rfl⟩ : ∃ e, d = e + 1 := ⟨d - 1, by omega⟩
  unfold Cl
  unfold F_Fr_popInt at hF
  refine r_aload_n f_Fr_popInt_0 rfl ?_
  cases hq1 : F_Fr_pop (a0) σ with
  | none => simp only [hq1] at hF; cases hF
  | some q1 =>
    simp only [hq1] at hF
    refine t_V0l hB ha0 rfl rfl f_Fr_popInt_1 (by decide) (Nat.le_of_ble_eq_true rfl) (Nat.le_of_ble_eq_true rfl) (w_Fr_pop hB  (a0) ha0 hq1 ⟨_, rfl, ?_⟩)
    refine r_l2i f_Fr_popInt_4 ?_
    cases hF
    exact r_ireturn f_Fr_popInt_5 hQ
theorem f_Fr_valueAt_0 : fetch 8 0 = some (.iload_n 1, 1, 0, 0, 0) := rfl
theorem f_Fr_valueAt_1 : fetch 8 1 = some (.ifCond .lt 17, 3, 18, 0, 0) := rfl
theorem f_Fr_valueAt_4 : fetch 8 4 = some (.iload_n 1, 1, 0, 0, 0) := rfl
theorem f_Fr_valueAt_5 : fetch 8 5 = some (.aload_n 0, 1, 0, 0, 0) := rfl
theorem f_Fr_valueAt_6 : fetch 8 6 = some (.getfield 42, 3, 0, 4, 9) := rfl
theorem f_Fr_valueAt_9 : fetch 8 9 = some (.if_icmp .ge 9, 3, 18, 0, 0) := rfl
theorem f_Fr_valueAt_12 : fetch 8 12 = some (.iload_n 1, 1, 0, 0, 0) := rfl
theorem f_Fr_valueAt_13 : fetch 8 13 = some (.bipush 8, 2, 0, 0, 0) := rfl
theorem f_Fr_valueAt_15 : fetch 8 15 = some (.if_icmp .lt 7, 3, 22, 0, 0) := rfl
theorem f_Fr_valueAt_18 : fetch 8 18 = some (.lconst 0, 1, 0, 0, 0) := rfl
theorem f_Fr_valueAt_19 : fetch 8 19 = some (.goto 9, 3, 28, 0, 0) := rfl
theorem f_Fr_valueAt_22 : fetch 8 22 = some (.aload_n 0, 1, 0, 0, 0) := rfl
theorem f_Fr_valueAt_23 : fetch 8 23 = some (.getfield 17, 3, 0, 5, 2) := rfl
theorem f_Fr_valueAt_26 : fetch 8 26 = some (.iload_n 1, 1, 0, 0, 0) := rfl
theorem f_Fr_valueAt_27 : fetch 8 27 = some (.laload, 1, 0, 0, 0) := rfl
theorem f_Fr_valueAt_28 : fetch 8 28 = some (.lreturn, 1, 0, 0, 0) := rfl
def F_Fr_valueAt_28  (y0 : Int64) (σ : SG) : Option (Int64 × SG) :=
  some (y0, σ)
set_option maxHeartbeats 4000000 in
theorem w_Fr_valueAt_28 {b d : Nat} {sc : SC} {pre tl : List PE} {B : Nat} {Q : Option Value → List PE → Prop} {res : Int64 × SG} (hB : B = b + pre.length)   (hQ : Q (some (.long res.1)) (HH pre tl SHc B res.2)) (lv : LV) (σ : SG) (y0 : Int64)  (hF : F_Fr_valueAt_28  y0 σ = some res) : Rn b sc d 8 28 lv [.long (y0)] (HH pre tl SHc B σ) Q := by
  unfold F_Fr_valueAt_28 at hF
  cases hF
  exact r_lreturn f_Fr_valueAt_28 hQ
def F_Fr_valueAt_18   (σ : SG) : Option (Int64 × SG) :=
  F_Fr_valueAt_28 ((0 : Int64)) σ
set_option maxHeartbeats 4000000 in
theorem w_Fr_valueAt_18 {b d : Nat} {sc : SC} {pre tl : List PE} {B : Nat} {Q : Option Value → List PE → Prop} {res : Int64 × SG} (hB : B = b + pre.length)   (hQ : Q (some (.long res.1)) (HH pre tl SHc B res.2)) (lv : LV) (σ : SG)   (hF : F_Fr_valueAt_18   σ = some res) : Rn b sc d 8 18 lv [] (HH pre tl SHc B σ) Q := by
  unfold F_Fr_valueAt_18 at hF
  refine r_lconst f_Fr_valueAt_18 (v := 0) (by decide) ?_
  refine r_goto f_Fr_valueAt_19 ?_
  exact w_Fr_valueAt_28 hB   hQ _ (σ) ((0 : Int64)) hF
def F_Fr_valueAt (a0 : Nat) (a1 : Int32) (σ : SG) : Option (Int64 × SG) :=
  if a1 < 0 then
  F_Fr_valueAt_18 σ
  else if (σ.1 (a0) 4) ≤ a1 then
  F_Fr_valueAt_18 σ
  else if a1 < (8 : Int32) then
  if a1 < 0 ∨ 8 ≤ (a1).toNatClampNeg then none else
  F_Fr_valueAt_28 ((σ.2.2.2.2 ((cref SHc (a0) 5)) ((a1).toNatClampNeg))) σ
  else F_Fr_valueAt_18 σ
set_option maxHeartbeats 4000000 in
theorem w_Fr_valueAt {b d : Nat} {pre tl : List PE} {B : Nat} {Q : Option Value → List PE → Prop} {res : Int64 × SG} (hB : B = b + pre.length)  {σ : SG} (a0 : Nat) (a1 : Int32) (ha0 : isC SHc (a0) 0 = true) (hF : F_Fr_valueAt a0 a1 σ = some res) (hQ : Q (some (.long res.1)) (HH pre tl SHc B res.2)) : Cl b d 8 [.ref (B + (a0)), .int (a1)] (HH pre tl SHc B σ) Q := by
  unfold Cl
  unfold F_Fr_valueAt at hF
  refine r_iload_n f_Fr_valueAt_0 rfl ?_
  refine r_if_lt f_Fr_valueAt_1 (fun c1 => ?_) (fun c1 => ?_)
  · rw [if_pos c1] at hF
    exact w_Fr_valueAt_18 hB   hQ _ (σ) hF
  · rw [if_neg c1] at hF
    refine r_iload_n f_Fr_valueAt_4 rfl ?_
    refine r_aload_n f_Fr_valueAt_5 rfl ?_
    refine t_geti hB ha0 f_Fr_valueAt_6 rfl ?_
    refine r_icmp_ge f_Fr_valueAt_9 (fun c2 => ?_) (fun c2 => ?_)
    · rw [if_pos c2] at hF
      exact w_Fr_valueAt_18 hB   hQ _ (σ) hF
    · rw [if_neg c2] at hF
      refine r_iload_n f_Fr_valueAt_12 rfl ?_
      refine r_bipush f_Fr_valueAt_13 (v := 8) (by decide) ?_
      refine r_icmp_lt f_Fr_valueAt_15 (fun c3 => ?_) (fun c3 => ?_)
      · rw [if_pos c3] at hF
        refine r_aload_n f_Fr_valueAt_22 rfl ?_
        refine t_getc hB ha0 f_Fr_valueAt_23 rfl ?_
        refine r_iload_n f_Fr_valueAt_26 rfl ?_
        by_cases c4 : a1 < 0 ∨ 8 ≤ (a1).toNatClampNeg
        · rw [if_pos c4] at hF; cases hF
        rw [if_neg c4] at hF
        refine t_lald hB (cc_0_5 ha0) f_Fr_valueAt_27 c4 ?_
        exact w_Fr_valueAt_28 hB   hQ _ (σ) ((σ.2.2.2.2 ((cref SHc (a0) 5)) ((a1).toNatClampNeg))) hF
      · rw [if_neg c3] at hF
        exact w_Fr_valueAt_18 hB   hQ _ (σ) hF
theorem f_Fr_keepPending_0 : fetch 9 0 = some (.aload_n 0, 1, 0, 0, 0) := rfl
theorem f_Fr_keepPending_1 : fetch 9 1 = some (.getfield 26, 3, 0, 7, 4) := rfl
theorem f_Fr_keepPending_4 : fetch 9 4 = some (.iload_n 1, 1, 0, 0, 0) := rfl
theorem f_Fr_keepPending_5 : fetch 9 5 = some (.iload_n 2, 1, 0, 0, 0) := rfl
theorem f_Fr_keepPending_6 : fetch 9 6 = some (.iastore, 1, 0, 0, 0) := rfl
theorem f_Fr_keepPending_7 : fetch 9 7 = some (.aload_n 0, 1, 0, 0, 0) := rfl
theorem f_Fr_keepPending_8 : fetch 9 8 = some (.getfield 30, 3, 0, 8, 5) := rfl
theorem f_Fr_keepPending_11 : fetch 9 11 = some (.iload_n 1, 1, 0, 0, 0) := rfl
theorem f_Fr_keepPending_12 : fetch 9 12 = some (.iload_n 3, 1, 0, 0, 0) := rfl
theorem f_Fr_keepPending_13 : fetch 9 13 = some (.iastore, 1, 0, 0, 0) := rfl
theorem f_Fr_keepPending_14 : fetch 9 14 = some (.aload_n 0, 1, 0, 0, 0) := rfl
theorem f_Fr_keepPending_15 : fetch 9 15 = some (.getfield 33, 3, 0, 9, 6) := rfl
theorem f_Fr_keepPending_18 : fetch 9 18 = some (.iload_n 1, 1, 0, 0, 0) := rfl
theorem f_Fr_keepPending_19 : fetch 9 19 = some (.iload 4, 2, 0, 0, 0) := rfl
theorem f_Fr_keepPending_21 : fetch 9 21 = some (.iastore, 1, 0, 0, 0) := rfl
theorem f_Fr_keepPending_22 : fetch 9 22 = some (.return_, 1, 0, 0, 0) := rfl
def F_Fr_keepPending (a0 : Nat) (a1 : Int32) (a2 : Int32) (a3 : Int32) (a4 : Int32) (σ : SG) : Option (SG) :=
  if a1 < 0 ∨ 3 ≤ (a1).toNatClampNeg then none else
  stl (setA σ ((cref SHc (a0) 7)) ((a1).toNatClampNeg) (a2)) fun s2 =>
  if a1 < 0 ∨ 3 ≤ (a1).toNatClampNeg then none else
  stl (setA s2 ((cref SHc (a0) 8)) ((a1).toNatClampNeg) (a3)) fun s4 =>
  if a1 < 0 ∨ 3 ≤ (a1).toNatClampNeg then none else
  stl (setA s4 ((cref SHc (a0) 9)) ((a1).toNatClampNeg) (a4)) fun s6 =>
  some s6
set_option maxHeartbeats 4000000 in
theorem w_Fr_keepPending {b d : Nat} {pre tl : List PE} {B : Nat} {Q : Option Value → List PE → Prop} {res : SG} (hB : B = b + pre.length)  {σ : SG} (a0 : Nat) (a1 : Int32) (a2 : Int32) (a3 : Int32) (a4 : Int32) (ha0 : isC SHc (a0) 0 = true) (hF : F_Fr_keepPending a0 a1 a2 a3 a4 σ = some res) (hQ : Q none (HH pre tl SHc B res)) : Cl b d 9 [.ref (B + (a0)), .int (a1), .int (a2), .int (a3), .int (a4)] (HH pre tl SHc B σ) Q := by
  unfold Cl
  unfold F_Fr_keepPending at hF
  refine r_aload_n f_Fr_keepPending_0 rfl ?_
  refine t_getc hB ha0 f_Fr_keepPending_1 rfl ?_
  refine r_iload_n f_Fr_keepPending_4 rfl ?_
  refine r_iload_n f_Fr_keepPending_5 rfl ?_
  by_cases c1 : a1 < 0 ∨ 3 ≤ (a1).toNatClampNeg
  · rw [if_pos c1] at hF; cases hF
  rw [if_neg c1] at hF
  refine t_iast hB (cc_0_7 ha0) f_Fr_keepPending_6 c1 ?_
  generalize hs2 : setA σ ((cref SHc (a0) 7)) ((a1).toNatClampNeg) (a2) = s2 at hF ⊢
  rw [stl_eq] at hF
  refine r_aload_n f_Fr_keepPending_7 rfl ?_
  refine t_getc hB ha0 f_Fr_keepPending_8 rfl ?_
  refine r_iload_n f_Fr_keepPending_11 rfl ?_
  refine r_iload_n f_Fr_keepPending_12 rfl ?_
  by_cases c3 : a1 < 0 ∨ 3 ≤ (a1).toNatClampNeg
  · rw [if_pos c3] at hF; cases hF
  rw [if_neg c3] at hF
  refine t_iast hB (cc_0_8 ha0) f_Fr_keepPending_13 c3 ?_
  generalize hs4 : setA s2 ((cref SHc (a0) 8)) ((a1).toNatClampNeg) (a3) = s4 at hF ⊢
  rw [stl_eq] at hF
  refine r_aload_n f_Fr_keepPending_14 rfl ?_
  refine t_getc hB ha0 f_Fr_keepPending_15 rfl ?_
  refine r_iload_n f_Fr_keepPending_18 rfl ?_
  refine r_iload f_Fr_keepPending_19 rfl ?_
  by_cases c5 : a1 < 0 ∨ 3 ≤ (a1).toNatClampNeg
  · rw [if_pos c5] at hF; cases hF
  rw [if_neg c5] at hF
  refine t_iast hB (cc_0_9 ha0) f_Fr_keepPending_21 c5 ?_
  generalize hs6 : setA s4 ((cref SHc (a0) 9)) ((a1).toNatClampNeg) (a4) = s6 at hF ⊢
  rw [stl_eq] at hF
  cases hF
  exact r_return f_Fr_keepPending_22 hQ
theorem f_Rg_handles_0 : fetch 117 0 = some (.iload_n 1, 1, 0, 0, 0) := rfl
theorem f_Rg_handles_1 : fetch 117 1 = some (.aload_n 0, 1, 0, 0, 0) := rfl
theorem f_Rg_handles_2 : fetch 117 2 = some (.getfield 13, 3, 4, 1, 98) := rfl
theorem f_Rg_handles_5 : fetch 117 5 = some (.if_icmp .lt 15, 3, 20, 0, 0) := rfl
theorem f_Rg_handles_8 : fetch 117 8 = some (.iload_n 1, 1, 0, 0, 0) := rfl
theorem f_Rg_handles_9 : fetch 117 9 = some (.aload_n 0, 1, 0, 0, 0) := rfl
theorem f_Rg_handles_10 : fetch 117 10 = some (.getfield 16, 3, 4, 2, 96) := rfl
theorem f_Rg_handles_13 : fetch 117 13 = some (.if_icmp .ge 7, 3, 20, 0, 0) := rfl
theorem f_Rg_handles_16 : fetch 117 16 = some (.iconst 1, 1, 0, 0, 0) := rfl
theorem f_Rg_handles_17 : fetch 117 17 = some (.goto 4, 3, 21, 0, 0) := rfl
theorem f_Rg_handles_20 : fetch 117 20 = some (.iconst 0, 1, 0, 0, 0) := rfl
theorem f_Rg_handles_21 : fetch 117 21 = some (.ireturn, 1, 2, 0, 0) := rfl
def F_Rg_handles_21  (y0 : Bool) (σ : SG) : Option (Bool × SG) :=
  some (y0, σ)
set_option maxHeartbeats 4000000 in
theorem w_Rg_handles_21 {b d : Nat} {sc : SC} {pre tl : List PE} {B : Nat} {Q : Option Value → List PE → Prop} {res : Bool × SG} (hB : B = b + pre.length)   (hQ : Q (some (.int (bz res.1))) (HH pre tl SHc B res.2)) (lv : LV) (σ : SG) (y0 : Bool)  (hF : F_Rg_handles_21  y0 σ = some res) : Rn b sc d 117 21 lv [.int (bz (y0))] (HH pre tl SHc B σ) Q := by
  unfold F_Rg_handles_21 at hF
  cases hF
  exact r_zreturn f_Rg_handles_21 (bz_or (y0)) hQ
def F_Rg_handles_20   (σ : SG) : Option (Bool × SG) :=
  F_Rg_handles_21 (false) σ
set_option maxHeartbeats 4000000 in
theorem w_Rg_handles_20 {b d : Nat} {sc : SC} {pre tl : List PE} {B : Nat} {Q : Option Value → List PE → Prop} {res : Bool × SG} (hB : B = b + pre.length)   (hQ : Q (some (.int (bz res.1))) (HH pre tl SHc B res.2)) (lv : LV) (σ : SG)   (hF : F_Rg_handles_20   σ = some res) : Rn b sc d 117 20 lv [] (HH pre tl SHc B σ) Q := by
  unfold F_Rg_handles_20 at hF
  refine r_iconst f_Rg_handles_20 (v := 0) (by decide) ?_
  exact w_Rg_handles_21 hB   hQ _ (σ) (false) hF
def F_Rg_handles (a0 : Nat) (a1 : Int32) (σ : SG) : Option (Bool × SG) :=
  if a1 < (σ.1 (a0) 1) then
  F_Rg_handles_20 σ
  else if (σ.1 (a0) 2) ≤ a1 then
  F_Rg_handles_20 σ
  else F_Rg_handles_21 (true) σ
set_option maxHeartbeats 4000000 in
theorem w_Rg_handles {b d : Nat} {pre tl : List PE} {B : Nat} {Q : Option Value → List PE → Prop} {res : Bool × SG} (hB : B = b + pre.length)  {σ : SG} (a0 : Nat) (a1 : Int32) (ha0 : isC SHc (a0) 4 = true) (hF : F_Rg_handles a0 a1 σ = some res) (hQ : Q (some (.int (bz res.1))) (HH pre tl SHc B res.2)) : Cl b d 117 [.ref (B + (a0)), .int (a1)] (HH pre tl SHc B σ) Q := by
  unfold Cl
  unfold F_Rg_handles at hF
  refine r_iload_n f_Rg_handles_0 rfl ?_
  refine r_aload_n f_Rg_handles_1 rfl ?_
  refine t_geti hB ha0 f_Rg_handles_2 rfl ?_
  refine r_icmp_lt f_Rg_handles_5 (fun c1 => ?_) (fun c1 => ?_)
  · rw [if_pos c1] at hF
    exact w_Rg_handles_20 hB   hQ _ (σ) hF
  · rw [if_neg c1] at hF
    refine r_iload_n f_Rg_handles_8 rfl ?_
    refine r_aload_n f_Rg_handles_9 rfl ?_
    refine t_geti hB ha0 f_Rg_handles_10 rfl ?_
    refine r_icmp_ge f_Rg_handles_13 (fun c2 => ?_) (fun c2 => ?_)
    · rw [if_pos c2] at hF
      exact w_Rg_handles_20 hB   hQ _ (σ) hF
    · rw [if_neg c2] at hF
      refine r_iconst f_Rg_handles_16 (v := 1) (by decide) ?_
      refine r_goto f_Rg_handles_17 ?_
      exact w_Rg_handles_21 hB   hQ _ (σ) (true) hF
theorem f_Me_handlersAt_0 : fetch 24 0 = some (.iconst 0, 1, 0, 0, 0) := rfl
theorem f_Me_handlersAt_1 : fetch 24 1 = some (.istore_n 2, 1, 0, 0, 0) := rfl
theorem f_Me_handlersAt_2 : fetch 24 2 = some (.iconst 0, 1, 0, 0, 0) := rfl
theorem f_Me_handlersAt_3 : fetch 24 3 = some (.istore_n 3, 1, 0, 0, 0) := rfl
theorem f_Me_handlersAt_4 : fetch 24 4 = some (.iload_n 3, 1, 0, 0, 0) := rfl
theorem f_Me_handlersAt_5 : fetch 24 5 = some (.aload_n 0, 1, 0, 0, 0) := rfl
theorem f_Me_handlersAt_6 : fetch 24 6 = some (.getfield 43, 3, 2, 3, 25) := rfl
theorem f_Me_handlersAt_9 : fetch 24 9 = some (.if_icmp .ge 28, 3, 37, 0, 0) := rfl
theorem f_Me_handlersAt_12 : fetch 24 12 = some (.aload_n 0, 1, 0, 0, 0) := rfl
theorem f_Me_handlersAt_13 : fetch 24 13 = some (.getfield 18, 3, 2, 7, 19) := rfl
theorem f_Me_handlersAt_16 : fetch 24 16 = some (.iload_n 3, 1, 0, 0, 0) := rfl
theorem f_Me_handlersAt_17 : fetch 24 17 = some (.aaload, 1, 0, 0, 0) := rfl
theorem f_Me_handlersAt_18 : fetch 24 18 = some (.iload_n 1, 1, 0, 0, 0) := rfl
theorem f_Me_handlersAt_19 : fetch 24 19 = some (.invokevirtual 50, 3, 117, 1, 38) := rfl
theorem f_Me_handlersAt_22 : fetch 24 22 = some (.ifCond .eq 9, 3, 31, 0, 0) := rfl
theorem f_Me_handlersAt_25 : fetch 24 25 = some (.iload_n 2, 1, 0, 0, 0) := rfl
theorem f_Me_handlersAt_26 : fetch 24 26 = some (.iconst 1, 1, 0, 0, 0) := rfl
theorem f_Me_handlersAt_27 : fetch 24 27 = some (.iload_n 3, 1, 0, 0, 0) := rfl
theorem f_Me_handlersAt_28 : fetch 24 28 = some (.ishl, 1, 0, 0, 0) := rfl
theorem f_Me_handlersAt_29 : fetch 24 29 = some (.ior, 1, 0, 0, 0) := rfl
theorem f_Me_handlersAt_30 : fetch 24 30 = some (.istore_n 2, 1, 0, 0, 0) := rfl
theorem f_Me_handlersAt_31 : fetch 24 31 = some (.iinc 3 1, 3, 0, 0, 0) := rfl
theorem f_Me_handlersAt_34 : fetch 24 34 = some (.goto (-30), 3, 4, 0, 0) := rfl
theorem f_Me_handlersAt_37 : fetch 24 37 = some (.iload_n 2, 1, 0, 0, 0) := rfl
theorem f_Me_handlersAt_38 : fetch 24 38 = some (.ireturn, 1, 0, 0, 0) := rfl
def F_Me_handlersAt_31 (rec4 : Nat → Int32 → Int32 → Int32 → SG → Option (Int32 × SG)) (x0 : Nat) (x1 : Int32) (x2 : Int32) (x3 : Int32) (σ : SG) : Option (Int32 × SG) :=
  rec4 (x0) (x1) (x2) ((x3 + 1)) σ
set_option maxHeartbeats 4000000 in
theorem w_Me_handlersAt_31 {b d : Nat} {sc : SC} {pre tl : List PE} {B : Nat} {Q : Option Value → List PE → Prop} {res : Int32 × SG} (hB : B = b + pre.length) (hd : 1 ≤ d) {rec4 : Nat → Int32 → Int32 → Int32 → SG → Option (Int32 × SG)} (hr4 : ∀ (lv : LV) (σ : SG) (x0 : Nat) (x1 : Int32) (x2 : Int32) (x3 : Int32), isC SHc (x0) 2 = true → lv.lookup 0 = some (.ref (B + (x0))) → lv.lookup 1 = some (.int (x1)) → lv.lookup 2 = some (.int (x2)) → lv.lookup 3 = some (.int (x3)) →  rec4 x0 x1 x2 x3 σ = some res → Rn b sc d 24 4 lv [] (HH pre tl SHc B σ) Q) (hQ : Q (some (.int res.1)) (HH pre tl SHc B res.2)) (lv : LV) (σ : SG) (x0 : Nat) (x1 : Int32) (x2 : Int32) (x3 : Int32) (hx0 : isC SHc (x0) 2 = true) (l0 : lv.lookup 0 = some (.ref (B + (x0)))) (l1 : lv.lookup 1 = some (.int (x1))) (l2 : lv.lookup 2 = some (.int (x2))) (l3 : lv.lookup 3 = some (.int (x3))) (hF : F_Me_handlersAt_31 rec4 x0 x1 x2 x3 σ = some res) : Rn b sc d 24 31 lv [] (HH pre tl SHc B σ) Q := by
  obtain ⟨e0, rfl⟩ : ∃ e, d = e + 1 := ⟨d - 1, by omega⟩
  unfold F_Me_handlersAt_31 at hF
  refine r_iinc f_Me_handlersAt_31 l3 (w := x3 + 1) rfl ?_
  refine r_goto f_Me_handlersAt_34 ?_
  exact hr4 _ (σ) (x0) (x1) (x2) ((x3 + 1)) hx0 (lk_put_ne l0 (by decide) (Or.inl rfl)) (lk_put_ne l1 (by decide) (Or.inl rfl)) (lk_put_ne l2 (by decide) (Or.inl rfl)) lk_put hF
def F_Me_handlersAt_4  : Nat → Nat → Int32 → Int32 → Int32 → SG → Option (Int32 × SG)
  | 0, _, _, _, _, _ => none
  | n + 1, x0, x1, x2, x3, σ =>
  if (σ.1 (x0) 3) ≤ x3 then
  some (x2, σ)
  else if x3 < 0 ∨ 3 ≤ (x3).toNatClampNeg then none else
  match F_Rg_handles ((relem SHc ((cref SHc (x0) 7)) ((x3).toNatClampNeg))) (x1) σ with
  | none => none
  | some q3 =>
  if q3.1 = true then
  F_Me_handlersAt_31 (F_Me_handlersAt_4  n) (x0) (x1) ((x2 ||| ((1 : Int32) <<< (x3 &&& 31)))) (x3) q3.2
  else F_Me_handlersAt_31 (F_Me_handlersAt_4  n) (x0) (x1) (x2) (x3) q3.2
set_option maxHeartbeats 4000000 in
theorem w_Me_handlersAt_4 {b d : Nat} {sc : SC} {pre tl : List PE} {B : Nat} {Q : Option Value → List PE → Prop} {res : Int32 × SG} (hB : B = b + pre.length) (hd : 1 ≤ d)   (hQ : Q (some (.int res.1)) (HH pre tl SHc B res.2)) : ∀ (n : Nat) (lv : LV) (σ : SG) (x0 : Nat) (x1 : Int32) (x2 : Int32) (x3 : Int32), isC SHc (x0) 2 = true → lv.lookup 0 = some (.ref (B + (x0))) → lv.lookup 1 = some (.int (x1)) → lv.lookup 2 = some (.int (x2)) → lv.lookup 3 = some (.int (x3)) → F_Me_handlersAt_4  n x0 x1 x2 x3 σ = some res → Rn b sc d 24 4 lv [] (HH pre tl SHc B σ) Q := by
  obtain ⟨e0, rfl⟩ : ∃ e, d = e + 1 := ⟨d - 1, by omega⟩
  intro n
  induction n with
  | zero => intro lv σ x0 x1 x2 x3 hx0 l0 l1 l2 l3 hF; cases hF
  | succ n ih =>
    intro lv σ x0 x1 x2 x3 hx0 l0 l1 l2 l3 hF
    unfold F_Me_handlersAt_4 at hF
    refine r_iload_n f_Me_handlersAt_4 l3 ?_
    refine r_aload_n f_Me_handlersAt_5 l0 ?_
    refine t_geti hB hx0 f_Me_handlersAt_6 rfl ?_
    refine r_icmp_ge f_Me_handlersAt_9 (fun c1 => ?_) (fun c1 => ?_)
    · rw [if_pos c1] at hF
      refine r_iload_n f_Me_handlersAt_37 l2 ?_
      cases hF
      exact r_ireturn f_Me_handlersAt_38 hQ
    · rw [if_neg c1] at hF
      refine r_aload_n f_Me_handlersAt_12 l0 ?_
      refine t_getc hB hx0 f_Me_handlersAt_13 rfl ?_
      refine r_iload_n f_Me_handlersAt_16 l3 ?_
      by_cases c2 : x3 < 0 ∨ 3 ≤ (x3).toNatClampNeg
      · rw [if_pos c2] at hF; cases hF
      rw [if_neg c2] at hF
      refine t_aald hB (cc_2_7 hx0) (by decide) f_Me_handlersAt_17 c2 ?_
      refine r_iload_n f_Me_handlersAt_18 l1 ?_
      cases hq3 : F_Rg_handles ((relem SHc ((cref SHc (x0) 7)) ((x3).toNatClampNeg))) (x1) σ with
      | none => simp only [hq3] at hF; cases hF
      | some q3 =>
        simp only [hq3] at hF
        refine t_V1i hB (re_4 (cc_2_7 hx0) (nlt c2)) rfl rfl f_Me_handlersAt_19 (by decide) (Nat.le_of_ble_eq_true rfl) (Nat.le_of_ble_eq_true rfl) (w_Rg_handles hB  ((relem SHc ((cref SHc (x0) 7)) ((x3).toNatClampNeg))) (x1) (re_4 (cc_2_7 hx0) (nlt c2)) hq3 ⟨_, rfl, ?_⟩)
        refine r_if_eq f_Me_handlersAt_22 (fun c4 => ?_) (fun c4 => ?_)
        · rw [if_neg (bz_nt c4)] at hF
          exact w_Me_handlersAt_31 hB hd (ih) hQ _ (q3.2) (x0) (x1) (x2) (x3) hx0 l0 l1 l2 l3 hF
        · rw [if_pos (bz_t c4)] at hF
          refine r_iload_n f_Me_handlersAt_25 l2 ?_
          refine r_iconst f_Me_handlersAt_26 (v := 1) (by decide) ?_
          refine r_iload_n f_Me_handlersAt_27 l3 ?_
          refine r_ishl f_Me_handlersAt_28 ?_
          refine r_ior f_Me_handlersAt_29 ?_
          refine r_istore_n f_Me_handlersAt_30 ?_
          exact w_Me_handlersAt_31 hB hd (ih) hQ _ (q3.2) (x0) (x1) ((x2 ||| ((1 : Int32) <<< (x3 &&& 31)))) (x3) hx0 (lk_put_ne l0 (by decide) (Or.inl rfl)) (lk_put_ne l1 (by decide) (Or.inl rfl)) lk_put (lk_put_ne l3 (by decide) (Or.inl rfl)) hF
def F_Me_handlersAt (a0 : Nat) (a1 : Int32) (σ : SG) : Option (Int32 × SG) :=
  F_Me_handlersAt_4  5000 (a0) (a1) ((0 : Int32)) ((0 : Int32)) σ
set_option maxHeartbeats 4000000 in
theorem w_Me_handlersAt {b d : Nat} {pre tl : List PE} {B : Nat} {Q : Option Value → List PE → Prop} {res : Int32 × SG} (hB : B = b + pre.length) (hd : 1 ≤ d)  {σ : SG} (a0 : Nat) (a1 : Int32) (ha0 : isC SHc (a0) 2 = true) (hF : F_Me_handlersAt a0 a1 σ = some res) (hQ : Q (some (.int res.1)) (HH pre tl SHc B res.2)) : Cl b d 24 [.ref (B + (a0)), .int (a1)] (HH pre tl SHc B σ) Q := by
  obtain ⟨e0, rfl⟩ : ∃ e, d = e + 1 := ⟨d - 1, by omega⟩
  unfold Cl
  unfold F_Me_handlersAt at hF
  refine r_iconst f_Me_handlersAt_0 (v := 0) (by decide) ?_
  refine r_istore_n f_Me_handlersAt_1 ?_
  refine r_iconst f_Me_handlersAt_2 (v := 0) (by decide) ?_
  refine r_istore_n f_Me_handlersAt_3 ?_
  exact w_Me_handlersAt_4 hB hd  hQ 5000 _ (σ) (a0) (a1) ((0 : Int32)) ((0 : Int32)) ha0 (lk_put_ne (lk_put_ne rfl (by decide) (Or.inl rfl)) (by decide) (Or.inl rfl)) (lk_put_ne (lk_put_ne rfl (by decide) (Or.inl rfl)) (by decide) (Or.inl rfl)) (lk_put_ne lk_put (by decide) (Or.inl rfl)) lk_put hF
theorem f_Fr_forgetPending_0 : fetch 10 0 = some (.aload_n 0, 1, 0, 0, 0) := rfl
theorem f_Fr_forgetPending_1 : fetch 10 1 = some (.getfield 13, 3, 0, 1, 1) := rfl
theorem f_Fr_forgetPending_4 : fetch 10 4 = some (.iload_n 1, 1, 0, 0, 0) := rfl
theorem f_Fr_forgetPending_5 : fetch 10 5 = some (.invokevirtual 49, 3, 24, 1, 30) := rfl
theorem f_Fr_forgetPending_8 : fetch 10 8 = some (.aload_n 0, 1, 0, 0, 0) := rfl
theorem f_Fr_forgetPending_9 : fetch 10 9 = some (.getfield 13, 3, 0, 1, 1) := rfl
theorem f_Fr_forgetPending_12 : fetch 10 12 = some (.iload_n 2, 1, 0, 0, 0) := rfl
theorem f_Fr_forgetPending_13 : fetch 10 13 = some (.invokevirtual 49, 3, 24, 1, 30) := rfl
theorem f_Fr_forgetPending_16 : fetch 10 16 = some (.iconst (-1), 1, 0, 0, 0) := rfl
theorem f_Fr_forgetPending_17 : fetch 10 17 = some (.ixor, 1, 0, 0, 0) := rfl
theorem f_Fr_forgetPending_18 : fetch 10 18 = some (.iand, 1, 0, 0, 0) := rfl
theorem f_Fr_forgetPending_19 : fetch 10 19 = some (.istore_n 3, 1, 0, 0, 0) := rfl
theorem f_Fr_forgetPending_20 : fetch 10 20 = some (.iconst 0, 1, 0, 0, 0) := rfl
theorem f_Fr_forgetPending_21 : fetch 10 21 = some (.istore 4, 2, 0, 0, 0) := rfl
theorem f_Fr_forgetPending_23 : fetch 10 23 = some (.iload 4, 2, 0, 0, 0) := rfl
theorem f_Fr_forgetPending_25 : fetch 10 25 = some (.iconst 3, 1, 0, 0, 0) := rfl
theorem f_Fr_forgetPending_26 : fetch 10 26 = some (.if_icmp .ge 27, 3, 53, 0, 0) := rfl
theorem f_Fr_forgetPending_29 : fetch 10 29 = some (.iload_n 3, 1, 0, 0, 0) := rfl
theorem f_Fr_forgetPending_30 : fetch 10 30 = some (.iload 4, 2, 0, 0, 0) := rfl
theorem f_Fr_forgetPending_32 : fetch 10 32 = some (.ishr, 1, 0, 0, 0) := rfl
theorem f_Fr_forgetPending_33 : fetch 10 33 = some (.iconst 1, 1, 0, 0, 0) := rfl
theorem f_Fr_forgetPending_34 : fetch 10 34 = some (.iand, 1, 0, 0, 0) := rfl
theorem f_Fr_forgetPending_35 : fetch 10 35 = some (.iconst 1, 1, 0, 0, 0) := rfl
theorem f_Fr_forgetPending_36 : fetch 10 36 = some (.if_icmp .ne 11, 3, 47, 0, 0) := rfl
theorem f_Fr_forgetPending_39 : fetch 10 39 = some (.aload_n 0, 1, 0, 0, 0) := rfl
theorem f_Fr_forgetPending_40 : fetch 10 40 = some (.getfield 26, 3, 0, 7, 4) := rfl
theorem f_Fr_forgetPending_43 : fetch 10 43 = some (.iload 4, 2, 0, 0, 0) := rfl
theorem f_Fr_forgetPending_45 : fetch 10 45 = some (.iconst 0, 1, 0, 0, 0) := rfl
theorem f_Fr_forgetPending_46 : fetch 10 46 = some (.iastore, 1, 0, 0, 0) := rfl
theorem f_Fr_forgetPending_47 : fetch 10 47 = some (.iinc 4 1, 3, 0, 0, 0) := rfl
theorem f_Fr_forgetPending_50 : fetch 10 50 = some (.goto (-27), 3, 23, 0, 0) := rfl
theorem f_Fr_forgetPending_53 : fetch 10 53 = some (.return_, 1, 0, 0, 0) := rfl
def F_Fr_forgetPending_47 (rec23 : Nat → Int32 → Int32 → SG → Option (SG)) (x0 : Nat) (x3 : Int32) (x4 : Int32) (σ : SG) : Option (SG) :=
  rec23 (x0) (x3) ((x4 + 1)) σ
set_option maxHeartbeats 4000000 in
theorem w_Fr_forgetPending_47 {b d : Nat} {sc : SC} {pre tl : List PE} {B : Nat} {Q : Option Value → List PE → Prop} {res : SG} (hB : B = b + pre.length) (hd : 2 ≤ d) {rec23 : Nat → Int32 → Int32 → SG → Option (SG)} (hr23 : ∀ (lv : LV) (σ : SG) (x0 : Nat) (x3 : Int32) (x4 : Int32), isC SHc (x0) 0 = true → lv.lookup 0 = some (.ref (B + (x0))) → lv.lookup 3 = some (.int (x3)) → lv.lookup 4 = some (.int (x4)) →  rec23 x0 x3 x4 σ = some res → Rn b sc d 10 23 lv [] (HH pre tl SHc B σ) Q) (hQ : Q none (HH pre tl SHc B res)) (lv : LV) (σ : SG) (x0 : Nat) (x3 : Int32) (x4 : Int32) (hx0 : isC SHc (x0) 0 = true) (l0 : lv.lookup 0 = some (.ref (B + (x0)))) (l3 : lv.lookup 3 = some (.int (x3))) (l4 : lv.lookup 4 = some (.int (x4))) (hF : F_Fr_forgetPending_47 rec23 x0 x3 x4 σ = some res) : Rn b sc d 10 47 lv [] (HH pre tl SHc B σ) Q := by
  obtain ⟨e0, rfl⟩ : ∃ e, d = e + 1 := ⟨d - 1, by omega⟩
  unfold F_Fr_forgetPending_47 at hF
  refine r_iinc f_Fr_forgetPending_47 l4 (w := x4 + 1) rfl ?_
  refine r_goto f_Fr_forgetPending_50 ?_
  exact hr23 _ (σ) (x0) (x3) ((x4 + 1)) hx0 (lk_put_ne l0 (by decide) (Or.inl rfl)) (lk_put_ne l3 (by decide) (Or.inl rfl)) lk_put hF
def F_Fr_forgetPending_23  : Nat → Nat → Int32 → Int32 → SG → Option (SG)
  | 0, _, _, _, _ => none
  | n + 1, x0, x3, x4, σ =>
  if (3 : Int32) ≤ x4 then
  some σ
  else if ((x3 >>> (x4 &&& 31)) &&& (1 : Int32)) = (1 : Int32) then
  if x4 < 0 ∨ 3 ≤ (x4).toNatClampNeg then none else
  stl (setA σ ((cref SHc (x0) 7)) ((x4).toNatClampNeg) ((0 : Int32))) fun s4 =>
  F_Fr_forgetPending_47 (F_Fr_forgetPending_23  n) (x0) (x3) (x4) s4
  else F_Fr_forgetPending_47 (F_Fr_forgetPending_23  n) (x0) (x3) (x4) σ
set_option maxHeartbeats 4000000 in
theorem w_Fr_forgetPending_23 {b d : Nat} {sc : SC} {pre tl : List PE} {B : Nat} {Q : Option Value → List PE → Prop} {res : SG} (hB : B = b + pre.length) (hd : 2 ≤ d)   (hQ : Q none (HH pre tl SHc B res)) : ∀ (n : Nat) (lv : LV) (σ : SG) (x0 : Nat) (x3 : Int32) (x4 : Int32), isC SHc (x0) 0 = true → lv.lookup 0 = some (.ref (B + (x0))) → lv.lookup 3 = some (.int (x3)) → lv.lookup 4 = some (.int (x4)) → F_Fr_forgetPending_23  n x0 x3 x4 σ = some res → Rn b sc d 10 23 lv [] (HH pre tl SHc B σ) Q := by
  obtain ⟨e0, rfl⟩ : ∃ e, d = e + 1 := ⟨d - 1, by omega⟩
  intro n
  induction n with
  | zero => intro lv σ x0 x3 x4 hx0 l0 l3 l4 hF; cases hF
  | succ n ih =>
    intro lv σ x0 x3 x4 hx0 l0 l3 l4 hF
    unfold F_Fr_forgetPending_23 at hF
    refine r_iload f_Fr_forgetPending_23 l4 ?_
    refine r_iconst f_Fr_forgetPending_25 (v := 3) (by decide) ?_
    refine r_icmp_ge f_Fr_forgetPending_26 (fun c1 => ?_) (fun c1 => ?_)
    · rw [if_pos c1] at hF
      cases hF
      exact r_return f_Fr_forgetPending_53 hQ
    · rw [if_neg c1] at hF
      refine r_iload_n f_Fr_forgetPending_29 l3 ?_
      refine r_iload f_Fr_forgetPending_30 l4 ?_
      refine r_ishr f_Fr_forgetPending_32 ?_
      refine r_iconst f_Fr_forgetPending_33 (v := 1) (by decide) ?_
      refine r_iand f_Fr_forgetPending_34 ?_
      refine r_iconst f_Fr_forgetPending_35 (v := 1) (by decide) ?_
      refine r_icmp_ne f_Fr_forgetPending_36 (fun c2 => ?_) (fun c2 => ?_)
      · rw [if_neg c2] at hF
        exact w_Fr_forgetPending_47 hB hd (ih) hQ _ (σ) (x0) (x3) (x4) hx0 l0 l3 l4 hF
      · rw [if_pos (Decidable.not_not.mp c2)] at hF
        refine r_aload_n f_Fr_forgetPending_39 l0 ?_
        refine t_getc hB hx0 f_Fr_forgetPending_40 rfl ?_
        refine r_iload f_Fr_forgetPending_43 l4 ?_
        refine r_iconst f_Fr_forgetPending_45 (v := 0) (by decide) ?_
        by_cases c3 : x4 < 0 ∨ 3 ≤ (x4).toNatClampNeg
        · rw [if_pos c3] at hF; cases hF
        rw [if_neg c3] at hF
        refine t_iast hB (cc_0_7 hx0) f_Fr_forgetPending_46 c3 ?_
        generalize hs4 : setA σ ((cref SHc (x0) 7)) ((x4).toNatClampNeg) ((0 : Int32)) = s4 at hF ⊢
        rw [stl_eq] at hF
        exact w_Fr_forgetPending_47 hB hd (ih) hQ _ (s4) (x0) (x3) (x4) hx0 l0 l3 l4 hF
def F_Fr_forgetPending (a0 : Nat) (a1 : Int32) (a2 : Int32) (σ : SG) : Option (SG) :=
  if isC SHc ((σ.2.2.1 (a0) 1)) 2 = true then
  match F_Me_handlersAt ((σ.2.2.1 (a0) 1)) (a1) σ with
  | none => none
  | some q6 =>
  if isC SHc ((q6.2.2.2.1 (a0) 1)) 2 = true then
  match F_Me_handlersAt ((q6.2.2.2.1 (a0) 1)) (a2) q6.2 with
  | none => none
  | some q8 =>
  F_Fr_forgetPending_23  5000 (a0) ((q6.1 &&& (q8.1 ^^^ ((-1) : Int32)))) ((0 : Int32)) q8.2
  else none
  else none
set_option maxHeartbeats 4000000 in
theorem w_Fr_forgetPending {b d : Nat} {pre tl : List PE} {B : Nat} {Q : Option Value → List PE → Prop} {res : SG} (hB : B = b + pre.length) (hd : 2 ≤ d)  {σ : SG} (a0 : Nat) (a1 : Int32) (a2 : Int32) (ha0 : isC SHc (a0) 0 = true) (hF : F_Fr_forgetPending a0 a1 a2 σ = some res) (hQ : Q none (HH pre tl SHc B res)) : Cl b d 10 [.ref (B + (a0)), .int (a1), .int (a2)] (HH pre tl SHc B σ) Q := by
  obtain ⟨e0, rfl⟩ : ∃ e, d = e + 1 := ⟨d - 1, by omega⟩
  unfold Cl
  unfold F_Fr_forgetPending at hF
  refine r_aload_n f_Fr_forgetPending_0 rfl ?_
  by_cases c5 : isC SHc ((σ.2.2.1 (a0) 1)) 2 = true
  case neg => rw [if_neg c5] at hF; cases hF
  rw [if_pos c5] at hF
  refine t_getm hB ha0 f_Fr_forgetPending_1 rfl ?_
  refine r_iload_n f_Fr_forgetPending_4 rfl ?_
  cases hq6 : F_Me_handlersAt ((σ.2.2.1 (a0) 1)) (a1) σ with
  | none => simp only [hq6] at hF; cases hF
  | some q6 =>
    simp only [hq6] at hF
    refine t_V1i hB c5 rfl rfl f_Fr_forgetPending_5 (by decide) (Nat.le_of_ble_eq_true rfl) (Nat.le_of_ble_eq_true rfl) (w_Me_handlersAt hB (by omega) ((σ.2.2.1 (a0) 1)) (a1) c5 hq6 ⟨_, rfl, ?_⟩)
    refine r_aload_n f_Fr_forgetPending_8 rfl ?_
    by_cases c7 : isC SHc ((q6.2.2.2.1 (a0) 1)) 2 = true
    case neg => rw [if_neg c7] at hF; cases hF
    rw [if_pos c7] at hF
    refine t_getm hB ha0 f_Fr_forgetPending_9 rfl ?_
    refine r_iload_n f_Fr_forgetPending_12 rfl ?_
    cases hq8 : F_Me_handlersAt ((q6.2.2.2.1 (a0) 1)) (a2) q6.2 with
    | none => simp only [hq8] at hF; cases hF
    | some q8 =>
      simp only [hq8] at hF
      refine t_V1i hB c7 rfl rfl f_Fr_forgetPending_13 (by decide) (Nat.le_of_ble_eq_true rfl) (Nat.le_of_ble_eq_true rfl) (w_Me_handlersAt hB (by omega) ((q6.2.2.2.1 (a0) 1)) (a2) c7 hq8 ⟨_, rfl, ?_⟩)
      refine r_iconst f_Fr_forgetPending_16 (v := (-1)) (by decide) ?_
      refine r_ixor f_Fr_forgetPending_17 ?_
      refine r_iand f_Fr_forgetPending_18 ?_
      refine r_istore_n f_Fr_forgetPending_19 ?_
      refine r_iconst f_Fr_forgetPending_20 (v := 0) (by decide) ?_
      refine r_istore f_Fr_forgetPending_21 ?_
      exact w_Fr_forgetPending_23 hB hd  hQ 5000 _ (q8.2) (a0) ((q6.1 &&& (q8.1 ^^^ ((-1) : Int32)))) ((0 : Int32)) ha0 (lk_put_ne (lk_put_ne rfl (by decide) (Or.inl rfl)) (by decide) (Or.inl rfl)) (lk_put_ne lk_put (by decide) (Or.inl rfl)) lk_put hF
theorem f_Im_hasClass_0 : fetch 13 0 = some (.iload_n 1, 1, 0, 0, 0) := rfl
theorem f_Im_hasClass_1 : fetch 13 1 = some (.ifCond .lt 15, 3, 16, 0, 0) := rfl
theorem f_Im_hasClass_4 : fetch 13 4 = some (.iload_n 1, 1, 0, 0, 0) := rfl
theorem f_Im_hasClass_5 : fetch 13 5 = some (.aload_n 0, 1, 0, 0, 0) := rfl
theorem f_Im_hasClass_6 : fetch 13 6 = some (.getfield 35, 3, 1, 0, 13) := rfl
theorem f_Im_hasClass_9 : fetch 13 9 = some (.if_icmp .ge 7, 3, 16, 0, 0) := rfl
theorem f_Im_hasClass_12 : fetch 13 12 = some (.iconst 1, 1, 0, 0, 0) := rfl
theorem f_Im_hasClass_13 : fetch 13 13 = some (.goto 4, 3, 17, 0, 0) := rfl
theorem f_Im_hasClass_16 : fetch 13 16 = some (.iconst 0, 1, 0, 0, 0) := rfl
theorem f_Im_hasClass_17 : fetch 13 17 = some (.ireturn, 1, 2, 0, 0) := rfl
def F_Im_hasClass_17  (y0 : Bool) (σ : SG) : Option (Bool × SG) :=
  some (y0, σ)
set_option maxHeartbeats 4000000 in
theorem w_Im_hasClass_17 {b d : Nat} {sc : SC} {pre tl : List PE} {B : Nat} {Q : Option Value → List PE → Prop} {res : Bool × SG} (hB : B = b + pre.length)   (hQ : Q (some (.int (bz res.1))) (HH pre tl SHc B res.2)) (lv : LV) (σ : SG) (y0 : Bool)  (hF : F_Im_hasClass_17  y0 σ = some res) : Rn b sc d 13 17 lv [.int (bz (y0))] (HH pre tl SHc B σ) Q := by
  unfold F_Im_hasClass_17 at hF
  cases hF
  exact r_zreturn f_Im_hasClass_17 (bz_or (y0)) hQ
def F_Im_hasClass_16   (σ : SG) : Option (Bool × SG) :=
  F_Im_hasClass_17 (false) σ
set_option maxHeartbeats 4000000 in
theorem w_Im_hasClass_16 {b d : Nat} {sc : SC} {pre tl : List PE} {B : Nat} {Q : Option Value → List PE → Prop} {res : Bool × SG} (hB : B = b + pre.length)   (hQ : Q (some (.int (bz res.1))) (HH pre tl SHc B res.2)) (lv : LV) (σ : SG)   (hF : F_Im_hasClass_16   σ = some res) : Rn b sc d 13 16 lv [] (HH pre tl SHc B σ) Q := by
  unfold F_Im_hasClass_16 at hF
  refine r_iconst f_Im_hasClass_16 (v := 0) (by decide) ?_
  exact w_Im_hasClass_17 hB   hQ _ (σ) (false) hF
def F_Im_hasClass (a0 : Nat) (a1 : Int32) (σ : SG) : Option (Bool × SG) :=
  if a1 < 0 then
  F_Im_hasClass_16 σ
  else if (σ.1 (a0) 0) ≤ a1 then
  F_Im_hasClass_16 σ
  else F_Im_hasClass_17 (true) σ
set_option maxHeartbeats 4000000 in
theorem w_Im_hasClass {b d : Nat} {pre tl : List PE} {B : Nat} {Q : Option Value → List PE → Prop} {res : Bool × SG} (hB : B = b + pre.length)  {σ : SG} (a0 : Nat) (a1 : Int32) (ha0 : isC SHc (a0) 1 = true) (hF : F_Im_hasClass a0 a1 σ = some res) (hQ : Q (some (.int (bz res.1))) (HH pre tl SHc B res.2)) : Cl b d 13 [.ref (B + (a0)), .int (a1)] (HH pre tl SHc B σ) Q := by
  unfold Cl
  unfold F_Im_hasClass at hF
  refine r_iload_n f_Im_hasClass_0 rfl ?_
  refine r_if_lt f_Im_hasClass_1 (fun c1 => ?_) (fun c1 => ?_)
  · rw [if_pos c1] at hF
    exact w_Im_hasClass_16 hB   hQ _ (σ) hF
  · rw [if_neg c1] at hF
    refine r_iload_n f_Im_hasClass_4 rfl ?_
    refine r_aload_n f_Im_hasClass_5 rfl ?_
    refine t_geti hB ha0 f_Im_hasClass_6 rfl ?_
    refine r_icmp_ge f_Im_hasClass_9 (fun c2 => ?_) (fun c2 => ?_)
    · rw [if_pos c2] at hF
      exact w_Im_hasClass_16 hB   hQ _ (σ) hF
    · rw [if_neg c2] at hF
      refine r_iconst f_Im_hasClass_12 (v := 1) (by decide) ?_
      refine r_goto f_Im_hasClass_13 ?_
      exact w_Im_hasClass_17 hB   hQ _ (σ) (true) hF
theorem f_Im_canBeNull_0 : fetch 12 0 = some (.iload_n 1, 1, 0, 0, 0) := rfl
theorem f_Im_canBeNull_1 : fetch 12 1 = some (.iconst 4, 1, 0, 0, 0) := rfl
theorem f_Im_canBeNull_2 : fetch 12 2 = some (.if_icmp .eq 19, 3, 21, 0, 0) := rfl
theorem f_Im_canBeNull_5 : fetch 12 5 = some (.iload_n 1, 1, 0, 0, 0) := rfl
theorem f_Im_canBeNull_6 : fetch 12 6 = some (.iconst 5, 1, 0, 0, 0) := rfl
theorem f_Im_canBeNull_7 : fetch 12 7 = some (.if_icmp .eq 14, 3, 21, 0, 0) := rfl
theorem f_Im_canBeNull_10 : fetch 12 10 = some (.aload_n 0, 1, 0, 0, 0) := rfl
theorem f_Im_canBeNull_11 : fetch 12 11 = some (.iload_n 1, 1, 0, 0, 0) := rfl
theorem f_Im_canBeNull_12 : fetch 12 12 = some (.bipush 8, 2, 0, 0, 0) := rfl
theorem f_Im_canBeNull_14 : fetch 12 14 = some (.isub, 1, 0, 0, 0) := rfl
theorem f_Im_canBeNull_15 : fetch 12 15 = some (.invokevirtual 38, 3, 13, 1, 33) := rfl
theorem f_Im_canBeNull_18 : fetch 12 18 = some (.ifCond .eq 7, 3, 25, 0, 0) := rfl
theorem f_Im_canBeNull_21 : fetch 12 21 = some (.iconst 1, 1, 0, 0, 0) := rfl
theorem f_Im_canBeNull_22 : fetch 12 22 = some (.goto 4, 3, 26, 0, 0) := rfl
theorem f_Im_canBeNull_25 : fetch 12 25 = some (.iconst 0, 1, 0, 0, 0) := rfl
theorem f_Im_canBeNull_26 : fetch 12 26 = some (.ireturn, 1, 2, 0, 0) := rfl
def F_Im_canBeNull_26  (y0 : Bool) (σ : SG) : Option (Bool × SG) :=
  some (y0, σ)
set_option maxHeartbeats 4000000 in
theorem w_Im_canBeNull_26 {b d : Nat} {sc : SC} {pre tl : List PE} {B : Nat} {Q : Option Value → List PE → Prop} {res : Bool × SG} (hB : B = b + pre.length) (hd : 1 ≤ d)   (hQ : Q (some (.int (bz res.1))) (HH pre tl SHc B res.2)) (lv : LV) (σ : SG) (y0 : Bool)  (hF : F_Im_canBeNull_26  y0 σ = some res) : Rn b sc d 12 26 lv [.int (bz (y0))] (HH pre tl SHc B σ) Q := by
  obtain ⟨e0, rfl⟩ : ∃ e, d = e + 1 := ⟨d - 1, by omega⟩
  unfold F_Im_canBeNull_26 at hF
  cases hF
  exact r_zreturn f_Im_canBeNull_26 (bz_or (y0)) hQ
def F_Im_canBeNull_21   (σ : SG) : Option (Bool × SG) :=
  F_Im_canBeNull_26 (true) σ
set_option maxHeartbeats 4000000 in
theorem w_Im_canBeNull_21 {b d : Nat} {sc : SC} {pre tl : List PE} {B : Nat} {Q : Option Value → List PE → Prop} {res : Bool × SG} (hB : B = b + pre.length) (hd : 1 ≤ d)   (hQ : Q (some (.int (bz res.1))) (HH pre tl SHc B res.2)) (lv : LV) (σ : SG)   (hF : F_Im_canBeNull_21   σ = some res) : Rn b sc d 12 21 lv [] (HH pre tl SHc B σ) Q := by
  obtain ⟨e0, rfl⟩ : ∃ e, d = e + 1 := ⟨d - 1, by omega⟩
  unfold F_Im_canBeNull_21 at hF
  refine r_iconst f_Im_canBeNull_21 (v := 1) (by decide) ?_
  refine r_goto f_Im_canBeNull_22 ?_
  exact w_Im_canBeNull_26 hB hd  hQ _ (σ) (true) hF
def F_Im_canBeNull (a0 : Nat) (a1 : Int32) (σ : SG) : Option (Bool × SG) :=
  if a1 = (4 : Int32) then
  F_Im_canBeNull_21 σ
  else if a1 = (5 : Int32) then
  F_Im_canBeNull_21 σ
  else match F_Im_hasClass (a0) ((a1 - (8 : Int32))) σ with
  | none => none
  | some q3 =>
  if q3.1 = true then
  F_Im_canBeNull_21 q3.2
  else F_Im_canBeNull_26 (false) q3.2
set_option maxHeartbeats 4000000 in
theorem w_Im_canBeNull {b d : Nat} {pre tl : List PE} {B : Nat} {Q : Option Value → List PE → Prop} {res : Bool × SG} (hB : B = b + pre.length) (hd : 1 ≤ d)  {σ : SG} (a0 : Nat) (a1 : Int32) (ha0 : isC SHc (a0) 1 = true) (hF : F_Im_canBeNull a0 a1 σ = some res) (hQ : Q (some (.int (bz res.1))) (HH pre tl SHc B res.2)) : Cl b d 12 [.ref (B + (a0)), .int (a1)] (HH pre tl SHc B σ) Q := by
  obtain ⟨e0, rfl⟩ : ∃ e, d = e + 1 := ⟨d - 1, by omega⟩
  unfold Cl
  unfold F_Im_canBeNull at hF
  refine r_iload_n f_Im_canBeNull_0 rfl ?_
  refine r_iconst f_Im_canBeNull_1 (v := 4) (by decide) ?_
  refine r_icmp_eq f_Im_canBeNull_2 (fun c1 => ?_) (fun c1 => ?_)
  · rw [if_pos c1] at hF
    exact w_Im_canBeNull_21 hB hd  hQ _ (σ) hF
  · rw [if_neg c1] at hF
    refine r_iload_n f_Im_canBeNull_5 rfl ?_
    refine r_iconst f_Im_canBeNull_6 (v := 5) (by decide) ?_
    refine r_icmp_eq f_Im_canBeNull_7 (fun c2 => ?_) (fun c2 => ?_)
    · rw [if_pos c2] at hF
      exact w_Im_canBeNull_21 hB hd  hQ _ (σ) hF
    · rw [if_neg c2] at hF
      refine r_aload_n f_Im_canBeNull_10 rfl ?_
      refine r_iload_n f_Im_canBeNull_11 rfl ?_
      refine r_bipush f_Im_canBeNull_12 (v := 8) (by decide) ?_
      refine r_isub f_Im_canBeNull_14 ?_
      cases hq3 : F_Im_hasClass (a0) ((a1 - (8 : Int32))) σ with
      | none => simp only [hq3] at hF; cases hF
      | some q3 =>
        simp only [hq3] at hF
        refine t_V1i hB ha0 rfl rfl f_Im_canBeNull_15 (by decide) (Nat.le_of_ble_eq_true rfl) (Nat.le_of_ble_eq_true rfl) (w_Im_hasClass hB  (a0) ((a1 - (8 : Int32))) ha0 hq3 ⟨_, rfl, ?_⟩)
        refine r_if_eq f_Im_canBeNull_18 (fun c4 => ?_) (fun c4 => ?_)
        · rw [if_neg (bz_nt c4)] at hF
          refine r_iconst f_Im_canBeNull_25 (v := 0) (by decide) ?_
          exact w_Im_canBeNull_26 hB hd  hQ _ (q3.2) (false) hF
        · rw [if_pos (bz_t c4)] at hF
          exact w_Im_canBeNull_21 hB hd  hQ _ (q3.2) hF
theorem f_Im_fieldType_0 : fetch 14 0 = some (.iload_n 1, 1, 0, 0, 0) := rfl
theorem f_Im_fieldType_1 : fetch 14 1 = some (.iconst 4, 1, 0, 0, 0) := rfl
theorem f_Im_fieldType_2 : fetch 14 2 = some (.idiv, 1, 0, 0, 0) := rfl
theorem f_Im_fieldType_3 : fetch 14 3 = some (.istore_n 2, 1, 0, 0, 0) := rfl
theorem f_Im_fieldType_4 : fetch 14 4 = some (.iload_n 1, 1, 0, 0, 0) := rfl
theorem f_Im_fieldType_5 : fetch 14 5 = some (.ifCond .lt 27, 3, 32, 0, 0) := rfl
theorem f_Im_fieldType_8 : fetch 14 8 = some (.aload_n 0, 1, 0, 0, 0) := rfl
theorem f_Im_fieldType_9 : fetch 14 9 = some (.iload_n 2, 1, 0, 0, 0) := rfl
theorem f_Im_fieldType_10 : fetch 14 10 = some (.invokevirtual 38, 3, 13, 1, 33) := rfl
theorem f_Im_fieldType_13 : fetch 14 13 = some (.ifCond .eq 19, 3, 32, 0, 0) := rfl
theorem f_Im_fieldType_16 : fetch 14 16 = some (.iload_n 1, 1, 0, 0, 0) := rfl
theorem f_Im_fieldType_17 : fetch 14 17 = some (.iconst 4, 1, 0, 0, 0) := rfl
theorem f_Im_fieldType_18 : fetch 14 18 = some (.irem, 1, 0, 0, 0) := rfl
theorem f_Im_fieldType_19 : fetch 14 19 = some (.aload_n 0, 1, 0, 0, 0) := rfl
theorem f_Im_fieldType_20 : fetch 14 20 = some (.getfield 9, 3, 1, 2, 10) := rfl
theorem f_Im_fieldType_23 : fetch 14 23 = some (.iload_n 2, 1, 0, 0, 0) := rfl
theorem f_Im_fieldType_24 : fetch 14 24 = some (.iaload, 1, 0, 0, 0) := rfl
theorem f_Im_fieldType_25 : fetch 14 25 = some (.if_icmp .ge 7, 3, 32, 0, 0) := rfl
theorem f_Im_fieldType_28 : fetch 14 28 = some (.iconst 1, 1, 0, 0, 0) := rfl
theorem f_Im_fieldType_29 : fetch 14 29 = some (.goto 4, 3, 33, 0, 0) := rfl
theorem f_Im_fieldType_32 : fetch 14 32 = some (.iconst 0, 1, 0, 0, 0) := rfl
theorem f_Im_fieldType_33 : fetch 14 33 = some (.istore_n 3, 1, 0, 0, 0) := rfl
theorem f_Im_fieldType_34 : fetch 14 34 = some (.iload_n 3, 1, 0, 0, 0) := rfl
theorem f_Im_fieldType_35 : fetch 14 35 = some (.ifCond .eq 12, 3, 47, 0, 0) := rfl
theorem f_Im_fieldType_38 : fetch 14 38 = some (.aload_n 0, 1, 0, 0, 0) := rfl
theorem f_Im_fieldType_39 : fetch 14 39 = some (.getfield 13, 3, 1, 3, 11) := rfl
theorem f_Im_fieldType_42 : fetch 14 42 = some (.iload_n 1, 1, 0, 0, 0) := rfl
theorem f_Im_fieldType_43 : fetch 14 43 = some (.iaload, 1, 0, 0, 0) := rfl
theorem f_Im_fieldType_44 : fetch 14 44 = some (.goto 4, 3, 48, 0, 0) := rfl
theorem f_Im_fieldType_47 : fetch 14 47 = some (.iconst 0, 1, 0, 0, 0) := rfl
theorem f_Im_fieldType_48 : fetch 14 48 = some (.ireturn, 1, 0, 0, 0) := rfl
def F_Im_fieldType_48  (y0 : Int32) (σ : SG) : Option (Int32 × SG) :=
  some (y0, σ)
set_option maxHeartbeats 4000000 in
theorem w_Im_fieldType_48 {b d : Nat} {sc : SC} {pre tl : List PE} {B : Nat} {Q : Option Value → List PE → Prop} {res : Int32 × SG} (hB : B = b + pre.length) (hd : 1 ≤ d)   (hQ : Q (some (.int res.1)) (HH pre tl SHc B res.2)) (lv : LV) (σ : SG) (y0 : Int32)  (hF : F_Im_fieldType_48  y0 σ = some res) : Rn b sc d 14 48 lv [.int (y0)] (HH pre tl SHc B σ) Q := by
  obtain ⟨e0, rfl⟩ : ∃ e, d = e + 1 := ⟨d - 1, by omega⟩
  unfold F_Im_fieldType_48 at hF
  cases hF
  exact r_ireturn f_Im_fieldType_48 hQ
def F_Im_fieldType_33  (x0 : Nat) (x1 : Int32) (y0 : Bool) (σ : SG) : Option (Int32 × SG) :=
  if y0 = true then
  if x1 < 0 ∨ 16 ≤ (x1).toNatClampNeg then none else
  F_Im_fieldType_48 ((σ.2.2.2.1 ((cref SHc (x0) 3)) ((x1).toNatClampNeg))) σ
  else F_Im_fieldType_48 ((0 : Int32)) σ
set_option maxHeartbeats 4000000 in
theorem w_Im_fieldType_33 {b d : Nat} {sc : SC} {pre tl : List PE} {B : Nat} {Q : Option Value → List PE → Prop} {res : Int32 × SG} (hB : B = b + pre.length) (hd : 1 ≤ d)   (hQ : Q (some (.int res.1)) (HH pre tl SHc B res.2)) (lv : LV) (σ : SG) (x0 : Nat) (x1 : Int32) (y0 : Bool) (hx0 : isC SHc (x0) 1 = true) (l0 : lv.lookup 0 = some (.ref (B + (x0)))) (l1 : lv.lookup 1 = some (.int (x1))) (hF : F_Im_fieldType_33  x0 x1 y0 σ = some res) : Rn b sc d 14 33 lv [.int (bz (y0))] (HH pre tl SHc B σ) Q := by
  obtain ⟨e0, rfl⟩ : ∃ e, d = e + 1 := ⟨d - 1, by omega⟩
  unfold F_Im_fieldType_33 at hF
  refine r_istore_n f_Im_fieldType_33 ?_
  refine r_iload_n f_Im_fieldType_34 lk_put ?_
  refine r_if_eq f_Im_fieldType_35 (fun c1 => ?_) (fun c1 => ?_)
  · rw [if_neg (bz_nt c1)] at hF
    refine r_iconst f_Im_fieldType_47 (v := 0) (by decide) ?_
    exact w_Im_fieldType_48 hB hd  hQ _ (σ) ((0 : Int32)) hF
  · rw [if_pos (bz_t c1)] at hF
    refine r_aload_n f_Im_fieldType_38 (lk_put_ne l0 (by decide) (Or.inl rfl)) ?_
    refine t_getc hB hx0 f_Im_fieldType_39 rfl ?_
    refine r_iload_n f_Im_fieldType_42 (lk_put_ne l1 (by decide) (Or.inl rfl)) ?_
    by_cases c2 : x1 < 0 ∨ 16 ≤ (x1).toNatClampNeg
    · rw [if_pos c2] at hF; cases hF
    rw [if_neg c2] at hF
    refine t_iald hB (cc_1_3 hx0) f_Im_fieldType_43 c2 ?_
    refine r_goto f_Im_fieldType_44 ?_
    exact w_Im_fieldType_48 hB hd  hQ _ (σ) ((σ.2.2.2.1 ((cref SHc (x0) 3)) ((x1).toNatClampNeg))) hF
def F_Im_fieldType_32  (x0 : Nat) (x1 : Int32) (σ : SG) : Option (Int32 × SG) :=
  F_Im_fieldType_33 (x0) (x1) (false) σ
set_option maxHeartbeats 4000000 in
theorem w_Im_fieldType_32 {b d : Nat} {sc : SC} {pre tl : List PE} {B : Nat} {Q : Option Value → List PE → Prop} {res : Int32 × SG} (hB : B = b + pre.length) (hd : 1 ≤ d)   (hQ : Q (some (.int res.1)) (HH pre tl SHc B res.2)) (lv : LV) (σ : SG) (x0 : Nat) (x1 : Int32) (hx0 : isC SHc (x0) 1 = true) (l0 : lv.lookup 0 = some (.ref (B + (x0)))) (l1 : lv.lookup 1 = some (.int (x1))) (hF : F_Im_fieldType_32  x0 x1 σ = some res) : Rn b sc d 14 32 lv [] (HH pre tl SHc B σ) Q := by
  obtain ⟨e0, rfl⟩ : ∃ e, d = e + 1 := ⟨d - 1, by omega⟩
  unfold F_Im_fieldType_32 at hF
  refine r_iconst f_Im_fieldType_32 (v := 0) (by decide) ?_
  exact w_Im_fieldType_33 hB hd  hQ _ (σ) (x0) (x1) (false) hx0 l0 l1 hF
def F_Im_fieldType (a0 : Nat) (a1 : Int32) (σ : SG) : Option (Int32 × SG) :=
  if a1 < 0 then
  F_Im_fieldType_32 (a0) (a1) σ
  else match F_Im_hasClass (a0) ((a1 / (4 : Int32))) σ with
  | none => none
  | some q4 =>
  if q4.1 = true then
  if (a1 / (4 : Int32)) < 0 ∨ 4 ≤ ((a1 / (4 : Int32))).toNatClampNeg then none else
  if (q4.2.2.2.2.1 ((cref SHc (a0) 2)) (((a1 / (4 : Int32))).toNatClampNeg)) ≤ (a1 - a1 / (4 : Int32) * (4 : Int32)) then
  F_Im_fieldType_32 (a0) (a1) q4.2
  else F_Im_fieldType_33 (a0) (a1) (true) q4.2
  else F_Im_fieldType_32 (a0) (a1) q4.2
set_option maxHeartbeats 4000000 in
theorem w_Im_fieldType {b d : Nat} {pre tl : List PE} {B : Nat} {Q : Option Value → List PE → Prop} {res : Int32 × SG} (hB : B = b + pre.length) (hd : 1 ≤ d)  {σ : SG} (a0 : Nat) (a1 : Int32) (ha0 : isC SHc (a0) 1 = true) (hF : F_Im_fieldType a0 a1 σ = some res) (hQ : Q (some (.int res.1)) (HH pre tl SHc B res.2)) : Cl b d 14 [.ref (B + (a0)), .int (a1)] (HH pre tl SHc B σ) Q := by
  obtain ⟨e0, rfl⟩ : ∃ e, d = e + 1 := ⟨d - 1, by omega⟩
  unfold Cl
  unfold F_Im_fieldType at hF
  refine r_iload_n f_Im_fieldType_0 rfl ?_
  refine r_iconst f_Im_fieldType_1 (v := 4) (by decide) ?_
  refine r_idiv f_Im_fieldType_2 (by decide) ?_
  refine r_istore_n f_Im_fieldType_3 ?_
  refine r_iload_n f_Im_fieldType_4 (lk_put_ne rfl (by decide) (Or.inl rfl)) ?_
  refine r_if_lt f_Im_fieldType_5 (fun c3 => ?_) (fun c3 => ?_)
  · rw [if_pos c3] at hF
    exact w_Im_fieldType_32 hB hd  hQ _ (σ) (a0) (a1) ha0 (lk_put_ne rfl (by decide) (Or.inl rfl)) (lk_put_ne rfl (by decide) (Or.inl rfl)) hF
  · rw [if_neg c3] at hF
    refine r_aload_n f_Im_fieldType_8 (lk_put_ne rfl (by decide) (Or.inl rfl)) ?_
    refine r_iload_n f_Im_fieldType_9 lk_put ?_
    cases hq4 : F_Im_hasClass (a0) ((a1 / (4 : Int32))) σ with
    | none => simp only [hq4] at hF; cases hF
    | some q4 =>
      simp only [hq4] at hF
      refine t_V1i hB ha0 rfl rfl f_Im_fieldType_10 (by decide) (Nat.le_of_ble_eq_true rfl) (Nat.le_of_ble_eq_true rfl) (w_Im_hasClass hB  (a0) ((a1 / (4 : Int32))) ha0 hq4 ⟨_, rfl, ?_⟩)
      refine r_if_eq f_Im_fieldType_13 (fun c5 => ?_) (fun c5 => ?_)
      · rw [if_neg (bz_nt c5)] at hF
        exact w_Im_fieldType_32 hB hd  hQ _ (q4.2) (a0) (a1) ha0 (lk_put_ne rfl (by decide) (Or.inl rfl)) (lk_put_ne rfl (by decide) (Or.inl rfl)) hF
      · rw [if_pos (bz_t c5)] at hF
        refine r_iload_n f_Im_fieldType_16 (lk_put_ne rfl (by decide) (Or.inl rfl)) ?_
        refine r_iconst f_Im_fieldType_17 (v := 4) (by decide) ?_
        refine r_irem f_Im_fieldType_18 (by decide) ?_
        refine r_aload_n f_Im_fieldType_19 (lk_put_ne rfl (by decide) (Or.inl rfl)) ?_
        refine t_getc hB ha0 f_Im_fieldType_20 rfl ?_
        refine r_iload_n f_Im_fieldType_23 lk_put ?_
        by_cases c6 : (a1 / (4 : Int32)) < 0 ∨ 4 ≤ ((a1 / (4 : Int32))).toNatClampNeg
        · rw [if_pos c6] at hF; cases hF
        rw [if_neg c6] at hF
        refine t_iald hB (cc_1_2 ha0) f_Im_fieldType_24 c6 ?_
        refine r_icmp_ge f_Im_fieldType_25 (fun c7 => ?_) (fun c7 => ?_)
        · rw [if_pos c7] at hF
          exact w_Im_fieldType_32 hB hd  hQ _ (q4.2) (a0) (a1) ha0 (lk_put_ne rfl (by decide) (Or.inl rfl)) (lk_put_ne rfl (by decide) (Or.inl rfl)) hF
        · rw [if_neg c7] at hF
          refine r_iconst f_Im_fieldType_28 (v := 1) (by decide) ?_
          refine r_goto f_Im_fieldType_29 ?_
          exact w_Im_fieldType_33 hB hd  hQ _ (q4.2) (a0) (a1) (true) ha0 (lk_put_ne rfl (by decide) (Or.inl rfl)) (lk_put_ne rfl (by decide) (Or.inl rfl)) hF
theorem f_Im_method_0 : fetch 15 0 = some (.iload_n 1, 1, 0, 0, 0) := rfl
theorem f_Im_method_1 : fetch 15 1 = some (.ifCond .lt 11, 3, 12, 0, 0) := rfl
theorem f_Im_method_4 : fetch 15 4 = some (.iload_n 1, 1, 0, 0, 0) := rfl
theorem f_Im_method_5 : fetch 15 5 = some (.aload_n 0, 1, 0, 0, 0) := rfl
theorem f_Im_method_6 : fetch 15 6 = some (.getfield 23, 3, 1, 1, 14) := rfl
theorem f_Im_method_9 : fetch 15 9 = some (.if_icmp .lt 7, 3, 16, 0, 0) := rfl
theorem f_Im_method_12 : fetch 15 12 = some (.aconst_null, 1, 0, 0, 0) := rfl
theorem f_Im_method_13 : fetch 15 13 = some (.goto 9, 3, 22, 0, 0) := rfl
theorem f_Im_method_16 : fetch 15 16 = some (.aload_n 0, 1, 0, 0, 0) := rfl
theorem f_Im_method_17 : fetch 15 17 = some (.getfield 18, 3, 1, 4, 12) := rfl
theorem f_Im_method_20 : fetch 15 20 = some (.iload_n 1, 1, 0, 0, 0) := rfl
theorem f_Im_method_21 : fetch 15 21 = some (.aaload, 1, 0, 0, 0) := rfl
theorem f_Im_method_22 : fetch 15 22 = some (.areturn, 1, 0, 0, 0) := rfl
def F_Im_method_22  (y0 : Option Nat) (σ : SG) : Option (Option Nat × SG) :=
  some (y0, σ)
set_option maxHeartbeats 4000000 in
theorem w_Im_method_22 {b d : Nat} {sc : SC} {pre tl : List PE} {B : Nat} {Q : Option Value → List PE → Prop} {res : Option Nat × SG} (hB : B = b + pre.length)   (hQ : Q (some (ov B res.1)) (HH pre tl SHc B res.2)) (lv : LV) (σ : SG) (y0 : Option Nat)  (hF : F_Im_method_22  y0 σ = some res) : Rn b sc d 15 22 lv [ov B (y0)] (HH pre tl SHc B σ) Q := by
  unfold F_Im_method_22 at hF
  cases hF
  exact r_areturn_O f_Im_method_22 hQ
def F_Im_method_12   (σ : SG) : Option (Option Nat × SG) :=
  F_Im_method_22 none σ
set_option maxHeartbeats 4000000 in
theorem w_Im_method_12 {b d : Nat} {sc : SC} {pre tl : List PE} {B : Nat} {Q : Option Value → List PE → Prop} {res : Option Nat × SG} (hB : B = b + pre.length)   (hQ : Q (some (ov B res.1)) (HH pre tl SHc B res.2)) (lv : LV) (σ : SG)   (hF : F_Im_method_12   σ = some res) : Rn b sc d 15 12 lv [] (HH pre tl SHc B σ) Q := by
  unfold F_Im_method_12 at hF
  refine r_null f_Im_method_12 ?_
  refine r_goto f_Im_method_13 ?_
  exact w_Im_method_22 hB   hQ _ (σ) none hF
def F_Im_method (a0 : Nat) (a1 : Int32) (σ : SG) : Option (Option Nat × SG) :=
  if a1 < 0 then
  F_Im_method_12 σ
  else if a1 < (σ.1 (a0) 1) then
  if a1 < 0 ∨ 6 ≤ (a1).toNatClampNeg then none else
  F_Im_method_22 (some ((relem SHc ((cref SHc (a0) 4)) ((a1).toNatClampNeg)))) σ
  else F_Im_method_12 σ
set_option maxHeartbeats 4000000 in
theorem w_Im_method {b d : Nat} {pre tl : List PE} {B : Nat} {Q : Option Value → List PE → Prop} {res : Option Nat × SG} (hB : B = b + pre.length)  {σ : SG} (a0 : Nat) (a1 : Int32) (ha0 : isC SHc (a0) 1 = true) (hF : F_Im_method a0 a1 σ = some res) (hQ : Q (some (ov B res.1)) (HH pre tl SHc B res.2)) : Cl b d 15 [.ref (B + (a0)), .int (a1)] (HH pre tl SHc B σ) Q := by
  unfold Cl
  unfold F_Im_method at hF
  refine r_iload_n f_Im_method_0 rfl ?_
  refine r_if_lt f_Im_method_1 (fun c1 => ?_) (fun c1 => ?_)
  · rw [if_pos c1] at hF
    exact w_Im_method_12 hB   hQ _ (σ) hF
  · rw [if_neg c1] at hF
    refine r_iload_n f_Im_method_4 rfl ?_
    refine r_aload_n f_Im_method_5 rfl ?_
    refine t_geti hB ha0 f_Im_method_6 rfl ?_
    refine r_icmp_lt f_Im_method_9 (fun c2 => ?_) (fun c2 => ?_)
    · rw [if_pos c2] at hF
      refine r_aload_n f_Im_method_16 rfl ?_
      refine t_getc hB ha0 f_Im_method_17 rfl ?_
      refine r_iload_n f_Im_method_20 rfl ?_
      by_cases c3 : a1 < 0 ∨ 6 ≤ (a1).toNatClampNeg
      · rw [if_pos c3] at hF; cases hF
      rw [if_neg c3] at hF
      refine t_aald hB (cc_1_4 ha0) (by decide) f_Im_method_21 c3 ?_
      exact w_Im_method_22 hB   hQ _ (σ) (some ((relem SHc ((cref SHc (a0) 4)) ((a1).toNatClampNeg)))) hF
    · rw [if_neg c2] at hF
      exact w_Im_method_12 hB   hQ _ (σ) hF
theorem f_Im_verifiedMethod_0 : fetch 16 0 = some (.aload_n 0, 1, 0, 0, 0) := rfl
theorem f_Im_verifiedMethod_1 : fetch 16 1 = some (.iload_n 1, 1, 0, 0, 0) := rfl
theorem f_Im_verifiedMethod_2 : fetch 16 2 = some (.invokevirtual 27, 3, 15, 1, 34) := rfl
theorem f_Im_verifiedMethod_5 : fetch 16 5 = some (.astore_n 2, 1, 0, 0, 0) := rfl
theorem f_Im_verifiedMethod_6 : fetch 16 6 = some (.aload_n 2, 1, 0, 0, 0) := rfl
theorem f_Im_verifiedMethod_7 : fetch 16 7 = some (.ifnull 10, 3, 17, 0, 0) := rfl
theorem f_Im_verifiedMethod_10 : fetch 16 10 = some (.aload_n 2, 1, 0, 0, 0) := rfl
theorem f_Im_verifiedMethod_11 : fetch 16 11 = some (.getfield 31, 3, 2, 9, 15) := rfl
theorem f_Im_verifiedMethod_14 : fetch 16 14 = some (.ifCond .ne 7, 3, 21, 0, 0) := rfl
theorem f_Im_verifiedMethod_17 : fetch 16 17 = some (.aconst_null, 1, 0, 0, 0) := rfl
theorem f_Im_verifiedMethod_18 : fetch 16 18 = some (.goto 4, 3, 22, 0, 0) := rfl
theorem f_Im_verifiedMethod_21 : fetch 16 21 = some (.aload_n 2, 1, 0, 0, 0) := rfl
theorem f_Im_verifiedMethod_22 : fetch 16 22 = some (.areturn, 1, 0, 0, 0) := rfl
def F_Im_verifiedMethod_22  (y0 : Option Nat) (σ : SG) : Option (Option Nat × SG) :=
  some (y0, σ)
set_option maxHeartbeats 4000000 in
theorem w_Im_verifiedMethod_22 {b d : Nat} {sc : SC} {pre tl : List PE} {B : Nat} {Q : Option Value → List PE → Prop} {res : Option Nat × SG} (hB : B = b + pre.length) (hd : 1 ≤ d)   (hQ : Q (some (ov B res.1)) (HH pre tl SHc B res.2)) (lv : LV) (σ : SG) (y0 : Option Nat)  (hF : F_Im_verifiedMethod_22  y0 σ = some res) : Rn b sc d 16 22 lv [ov B (y0)] (HH pre tl SHc B σ) Q := by
  obtain ⟨e0, rfl⟩ : ∃ e, d = e + 1 := ⟨d - 1, by omega⟩
  unfold F_Im_verifiedMethod_22 at hF
  cases hF
  exact r_areturn_O f_Im_verifiedMethod_22 hQ
def F_Im_verifiedMethod_17   (σ : SG) : Option (Option Nat × SG) :=
  F_Im_verifiedMethod_22 none σ
set_option maxHeartbeats 4000000 in
theorem w_Im_verifiedMethod_17 {b d : Nat} {sc : SC} {pre tl : List PE} {B : Nat} {Q : Option Value → List PE → Prop} {res : Option Nat × SG} (hB : B = b + pre.length) (hd : 1 ≤ d)   (hQ : Q (some (ov B res.1)) (HH pre tl SHc B res.2)) (lv : LV) (σ : SG)   (hF : F_Im_verifiedMethod_17   σ = some res) : Rn b sc d 16 17 lv [] (HH pre tl SHc B σ) Q := by
  obtain ⟨e0, rfl⟩ : ∃ e, d = e + 1 := ⟨d - 1, by omega⟩
  unfold F_Im_verifiedMethod_17 at hF
  refine r_null f_Im_verifiedMethod_17 ?_
  refine r_goto f_Im_verifiedMethod_18 ?_
  exact w_Im_verifiedMethod_22 hB hd  hQ _ (σ) none hF
def F_Im_verifiedMethod (a0 : Nat) (a1 : Int32) (σ : SG) : Option (Option Nat × SG) :=
  match F_Im_method (a0) (a1) σ with
  | none => none
  | some q1 =>
  match q1.1 with
  | none => F_Im_verifiedMethod_17 q1.2
  | some k2 => if isC SHc k2 2 = true then
  if (zb (q1.2.1 (k2) 9)) = true then
  F_Im_verifiedMethod_22 (some (k2)) q1.2
  else F_Im_verifiedMethod_17 q1.2
  else none
set_option maxHeartbeats 4000000 in
theorem w_Im_verifiedMethod {b d : Nat} {pre tl : List PE} {B : Nat} {Q : Option Value → List PE → Prop} {res : Option Nat × SG} (hB : B = b + pre.length) (hd : 1 ≤ d)  {σ : SG} (a0 : Nat) (a1 : Int32) (ha0 : isC SHc (a0) 1 = true) (hF : F_Im_verifiedMethod a0 a1 σ = some res) (hQ : Q (some (ov B res.1)) (HH pre tl SHc B res.2)) : Cl b d 16 [.ref (B + (a0)), .int (a1)] (HH pre tl SHc B σ) Q := by
  obtain ⟨e0, rfl⟩ : ∃ e, d = e + 1 := ⟨d - 1, by omega⟩
  unfold Cl
  unfold F_Im_verifiedMethod at hF
  refine r_aload_n f_Im_verifiedMethod_0 rfl ?_
  refine r_iload_n f_Im_verifiedMethod_1 rfl ?_
  cases hq1 : F_Im_method (a0) (a1) σ with
  | none => simp only [hq1] at hF; cases hF
  | some q1 =>
    simp only [hq1] at hF
    refine t_V1o hB ha0 rfl rfl f_Im_verifiedMethod_2 (by decide) (Nat.le_of_ble_eq_true rfl) (Nat.le_of_ble_eq_true rfl) (w_Im_method hB  (a0) (a1) ha0 hq1 ⟨_, rfl, ?_⟩)
    refine r_astore_n_O f_Im_verifiedMethod_5 ?_
    refine r_aload_n_O f_Im_verifiedMethod_6 lk_put ?_
    cases c3 : (q1.1 : Option Nat) with
    | none =>
      simp only [c3] at *
      refine r_ifnullT f_Im_verifiedMethod_7 ?_
      exact w_Im_verifiedMethod_17 hB hd  hQ _ (q1.2) hF
    | some k2 =>
      simp only [c3] at *
      by_cases c3k : isC SHc k2 2 = true
      · rw [if_pos c3k] at hF
        refine r_ifnullF f_Im_verifiedMethod_7 ?_
        refine r_aload_n f_Im_verifiedMethod_10 lk_put ?_
        refine t_getz hB c3k f_Im_verifiedMethod_11 rfl ?_
        refine r_if_ne f_Im_verifiedMethod_14 (fun c4 => ?_) (fun c4 => ?_)
        · rw [if_pos (bz_t c4)] at hF
          refine r_aload_n f_Im_verifiedMethod_21 lk_put ?_
          exact w_Im_verifiedMethod_22 hB hd  hQ _ (q1.2) (some (k2)) hF
        · rw [if_neg (bz_nt (Decidable.not_not.mp c4))] at hF
          exact w_Im_verifiedMethod_17 hB hd  hQ _ (q1.2) hF
      · rw [if_neg c3k] at hF; cases hF
theorem f_Im_callsVerifiedAlone_0 : fetch 17 0 = some (.iconst 1, 1, 0, 0, 0) := rfl
theorem f_Im_callsVerifiedAlone_1 : fetch 17 1 = some (.iload_n 1, 1, 0, 0, 0) := rfl
theorem f_Im_callsVerifiedAlone_2 : fetch 17 2 = some (.ishl, 1, 0, 0, 0) := rfl
theorem f_Im_callsVerifiedAlone_3 : fetch 17 3 = some (.istore_n 2, 1, 0, 0, 0) := rfl
theorem f_Im_callsVerifiedAlone_4 : fetch 17 4 = some (.iconst 0, 1, 0, 0, 0) := rfl
theorem f_Im_callsVerifiedAlone_5 : fetch 17 5 = some (.istore_n 3, 1, 0, 0, 0) := rfl
theorem f_Im_callsVerifiedAlone_6 : fetch 17 6 = some (.iload_n 3, 1, 0, 0, 0) := rfl
theorem f_Im_callsVerifiedAlone_7 : fetch 17 7 = some (.aload_n 0, 1, 0, 0, 0) := rfl
theorem f_Im_callsVerifiedAlone_8 : fetch 17 8 = some (.getfield 23, 3, 1, 1, 14) := rfl
theorem f_Im_callsVerifiedAlone_11 : fetch 17 11 = some (.if_icmp .ge 65, 3, 76, 0, 0) := rfl
theorem f_Im_callsVerifiedAlone_14 : fetch 17 14 = some (.iconst 0, 1, 0, 0, 0) := rfl
theorem f_Im_callsVerifiedAlone_15 : fetch 17 15 = some (.istore 4, 2, 0, 0, 0) := rfl
theorem f_Im_callsVerifiedAlone_17 : fetch 17 17 = some (.iload 4, 2, 0, 0, 0) := rfl
theorem f_Im_callsVerifiedAlone_19 : fetch 17 19 = some (.aload_n 0, 1, 0, 0, 0) := rfl
theorem f_Im_callsVerifiedAlone_20 : fetch 17 20 = some (.getfield 23, 3, 1, 1, 14) := rfl
theorem f_Im_callsVerifiedAlone_23 : fetch 17 23 = some (.if_icmp .ge 47, 3, 70, 0, 0) := rfl
theorem f_Im_callsVerifiedAlone_26 : fetch 17 26 = some (.iload_n 2, 1, 0, 0, 0) := rfl
theorem f_Im_callsVerifiedAlone_27 : fetch 17 27 = some (.iload 4, 2, 0, 0, 0) := rfl
theorem f_Im_callsVerifiedAlone_29 : fetch 17 29 = some (.ishr, 1, 0, 0, 0) := rfl
theorem f_Im_callsVerifiedAlone_30 : fetch 17 30 = some (.iconst 1, 1, 0, 0, 0) := rfl
theorem f_Im_callsVerifiedAlone_31 : fetch 17 31 = some (.iand, 1, 0, 0, 0) := rfl
theorem f_Im_callsVerifiedAlone_32 : fetch 17 32 = some (.iconst 1, 1, 0, 0, 0) := rfl
theorem f_Im_callsVerifiedAlone_33 : fetch 17 33 = some (.if_icmp .ne 31, 3, 64, 0, 0) := rfl
theorem f_Im_callsVerifiedAlone_36 : fetch 17 36 = some (.aload_n 0, 1, 0, 0, 0) := rfl
theorem f_Im_callsVerifiedAlone_37 : fetch 17 37 = some (.getfield 18, 3, 1, 4, 12) := rfl
theorem f_Im_callsVerifiedAlone_40 : fetch 17 40 = some (.iload 4, 2, 0, 0, 0) := rfl
theorem f_Im_callsVerifiedAlone_42 : fetch 17 42 = some (.aaload, 1, 0, 0, 0) := rfl
theorem f_Im_callsVerifiedAlone_43 : fetch 17 43 = some (.getfield 31, 3, 2, 9, 15) := rfl
theorem f_Im_callsVerifiedAlone_46 : fetch 17 46 = some (.ifCond .ne 5, 3, 51, 0, 0) := rfl
theorem f_Im_callsVerifiedAlone_49 : fetch 17 49 = some (.iconst 0, 1, 0, 0, 0) := rfl
theorem f_Im_callsVerifiedAlone_50 : fetch 17 50 = some (.ireturn, 1, 2, 0, 0) := rfl
theorem f_Im_callsVerifiedAlone_51 : fetch 17 51 = some (.iload_n 2, 1, 0, 0, 0) := rfl
theorem f_Im_callsVerifiedAlone_52 : fetch 17 52 = some (.aload_n 0, 1, 0, 0, 0) := rfl
theorem f_Im_callsVerifiedAlone_53 : fetch 17 53 = some (.getfield 18, 3, 1, 4, 12) := rfl
theorem f_Im_callsVerifiedAlone_56 : fetch 17 56 = some (.iload 4, 2, 0, 0, 0) := rfl
theorem f_Im_callsVerifiedAlone_58 : fetch 17 58 = some (.aaload, 1, 0, 0, 0) := rfl
theorem f_Im_callsVerifiedAlone_59 : fetch 17 59 = some (.getfield 44, 3, 2, 11, 16) := rfl
theorem f_Im_callsVerifiedAlone_62 : fetch 17 62 = some (.ior, 1, 0, 0, 0) := rfl
theorem f_Im_callsVerifiedAlone_63 : fetch 17 63 = some (.istore_n 2, 1, 0, 0, 0) := rfl
theorem f_Im_callsVerifiedAlone_64 : fetch 17 64 = some (.iinc 4 1, 3, 0, 0, 0) := rfl
theorem f_Im_callsVerifiedAlone_67 : fetch 17 67 = some (.goto (-50), 3, 17, 0, 0) := rfl
theorem f_Im_callsVerifiedAlone_70 : fetch 17 70 = some (.iinc 3 1, 3, 0, 0, 0) := rfl
theorem f_Im_callsVerifiedAlone_73 : fetch 17 73 = some (.goto (-67), 3, 6, 0, 0) := rfl
theorem f_Im_callsVerifiedAlone_76 : fetch 17 76 = some (.iconst 1, 1, 0, 0, 0) := rfl
theorem f_Im_callsVerifiedAlone_77 : fetch 17 77 = some (.ireturn, 1, 2, 0, 0) := rfl
def F_Im_callsVerifiedAlone_64 (rec6 : Nat → Int32 → Int32 → SG → Option (Bool × SG)) (rec17 : Nat → Int32 → Int32 → Int32 → SG → Option (Bool × SG)) (x0 : Nat) (x2 : Int32) (x3 : Int32) (x4 : Int32) (σ : SG) : Option (Bool × SG) :=
  rec17 (x0) (x2) (x3) ((x4 + 1)) σ
set_option maxHeartbeats 4000000 in
theorem w_Im_callsVerifiedAlone_64 {b d : Nat} {sc : SC} {pre tl : List PE} {B : Nat} {Q : Option Value → List PE → Prop} {res : Bool × SG} (hB : B = b + pre.length) {rec6 : Nat → Int32 → Int32 → SG → Option (Bool × SG)} {rec17 : Nat → Int32 → Int32 → Int32 → SG → Option (Bool × SG)} (hr6 : ∀ (lv : LV) (σ : SG) (x0 : Nat) (x2 : Int32) (x3 : Int32), isC SHc (x0) 1 = true → lv.lookup 0 = some (.ref (B + (x0))) → lv.lookup 2 = some (.int (x2)) → lv.lookup 3 = some (.int (x3)) →  rec6 x0 x2 x3 σ = some res → Rn b sc d 17 6 lv [] (HH pre tl SHc B σ) Q) (hr17 : ∀ (lv : LV) (σ : SG) (x0 : Nat) (x2 : Int32) (x3 : Int32) (x4 : Int32), isC SHc (x0) 1 = true → lv.lookup 0 = some (.ref (B + (x0))) → lv.lookup 2 = some (.int (x2)) → lv.lookup 3 = some (.int (x3)) → lv.lookup 4 = some (.int (x4)) →  rec17 x0 x2 x3 x4 σ = some res → Rn b sc d 17 17 lv [] (HH pre tl SHc B σ) Q) (hQ : Q (some (.int (bz res.1))) (HH pre tl SHc B res.2)) (lv : LV) (σ : SG) (x0 : Nat) (x2 : Int32) (x3 : Int32) (x4 : Int32) (hx0 : isC SHc (x0) 1 = true) (l0 : lv.lookup 0 = some (.ref (B + (x0)))) (l2 : lv.lookup 2 = some (.int (x2))) (l3 : lv.lookup 3 = some (.int (x3))) (l4 : lv.lookup 4 = some (.int (x4))) (hF : F_Im_callsVerifiedAlone_64 rec6 rec17 x0 x2 x3 x4 σ = some res) : Rn b sc d 17 64 lv [] (HH pre tl SHc B σ) Q := by
  unfold F_Im_callsVerifiedAlone_64 at hF
  refine r_iinc f_Im_callsVerifiedAlone_64 l4 (w := x4 + 1) rfl ?_
  refine r_goto f_Im_callsVerifiedAlone_67 ?_
  exact hr17 _ (σ) (x0) (x2) (x3) ((x4 + 1)) hx0 (lk_put_ne l0 (by decide) (Or.inl rfl)) (lk_put_ne l2 (by decide) (Or.inl rfl)) (lk_put_ne l3 (by decide) (Or.inl rfl)) lk_put hF
def F_Im_callsVerifiedAlone_17 (rec6 : Nat → Int32 → Int32 → SG → Option (Bool × SG)) : Nat → Nat → Int32 → Int32 → Int32 → SG → Option (Bool × SG)
  | 0, _, _, _, _, _ => none
  | n + 1, x0, x2, x3, x4, σ =>
  if (σ.1 (x0) 1) ≤ x4 then
  rec6 (x0) (x2) ((x3 + 1)) σ
  else if ((x2 >>> (x4 &&& 31)) &&& (1 : Int32)) = (1 : Int32) then
  if x4 < 0 ∨ 6 ≤ (x4).toNatClampNeg then none else
  if (zb (σ.1 ((relem SHc ((cref SHc (x0) 4)) ((x4).toNatClampNeg))) 9)) = true then
  if x4 < 0 ∨ 6 ≤ (x4).toNatClampNeg then none else
  F_Im_callsVerifiedAlone_64 (rec6) (F_Im_callsVerifiedAlone_17 rec6 n) (x0) ((x2 ||| (σ.1 ((relem SHc ((cref SHc (x0) 4)) ((x4).toNatClampNeg))) 11))) (x3) (x4) σ
  else some (false, σ)
  else F_Im_callsVerifiedAlone_64 (rec6) (F_Im_callsVerifiedAlone_17 rec6 n) (x0) (x2) (x3) (x4) σ
set_option maxHeartbeats 4000000 in
theorem w_Im_callsVerifiedAlone_17 {b d : Nat} {sc : SC} {pre tl : List PE} {B : Nat} {Q : Option Value → List PE → Prop} {res : Bool × SG} (hB : B = b + pre.length) {rec6 : Nat → Int32 → Int32 → SG → Option (Bool × SG)} (hr6 : ∀ (lv : LV) (σ : SG) (x0 : Nat) (x2 : Int32) (x3 : Int32), isC SHc (x0) 1 = true → lv.lookup 0 = some (.ref (B + (x0))) → lv.lookup 2 = some (.int (x2)) → lv.lookup 3 = some (.int (x3)) →  rec6 x0 x2 x3 σ = some res → Rn b sc d 17 6 lv [] (HH pre tl SHc B σ) Q) (hQ : Q (some (.int (bz res.1))) (HH pre tl SHc B res.2)) : ∀ (n : Nat) (lv : LV) (σ : SG) (x0 : Nat) (x2 : Int32) (x3 : Int32) (x4 : Int32), isC SHc (x0) 1 = true → lv.lookup 0 = some (.ref (B + (x0))) → lv.lookup 2 = some (.int (x2)) → lv.lookup 3 = some (.int (x3)) → lv.lookup 4 = some (.int (x4)) → F_Im_callsVerifiedAlone_17 rec6 n x0 x2 x3 x4 σ = some res → Rn b sc d 17 17 lv [] (HH pre tl SHc B σ) Q := by
  intro n
  induction n with
  | zero => intro lv σ x0 x2 x3 x4 hx0 l0 l2 l3 l4 hF; cases hF
  | succ n ih =>
    intro lv σ x0 x2 x3 x4 hx0 l0 l2 l3 l4 hF
    unfold F_Im_callsVerifiedAlone_17 at hF
    refine r_iload f_Im_callsVerifiedAlone_17 l4 ?_
    refine r_aload_n f_Im_callsVerifiedAlone_19 l0 ?_
    refine t_geti hB hx0 f_Im_callsVerifiedAlone_20 rfl ?_
    refine r_icmp_ge f_Im_callsVerifiedAlone_23 (fun c1 => ?_) (fun c1 => ?_)
    · rw [if_pos c1] at hF
      refine r_iinc f_Im_callsVerifiedAlone_70 l3 (w := x3 + 1) rfl ?_
      refine r_goto f_Im_callsVerifiedAlone_73 ?_
      exact hr6 _ (σ) (x0) (x2) ((x3 + 1)) hx0 (lk_put_ne l0 (by decide) (Or.inl rfl)) (lk_put_ne l2 (by decide) (Or.inl rfl)) lk_put hF
    · rw [if_neg c1] at hF
      refine r_iload_n f_Im_callsVerifiedAlone_26 l2 ?_
      refine r_iload f_Im_callsVerifiedAlone_27 l4 ?_
      refine r_ishr f_Im_callsVerifiedAlone_29 ?_
      refine r_iconst f_Im_callsVerifiedAlone_30 (v := 1) (by decide) ?_
      refine r_iand f_Im_callsVerifiedAlone_31 ?_
      refine r_iconst f_Im_callsVerifiedAlone_32 (v := 1) (by decide) ?_
      refine r_icmp_ne f_Im_callsVerifiedAlone_33 (fun c2 => ?_) (fun c2 => ?_)
      · rw [if_neg c2] at hF
        exact w_Im_callsVerifiedAlone_64 hB  (hr6) (ih) hQ _ (σ) (x0) (x2) (x3) (x4) hx0 l0 l2 l3 l4 hF
      · rw [if_pos (Decidable.not_not.mp c2)] at hF
        refine r_aload_n f_Im_callsVerifiedAlone_36 l0 ?_
        refine t_getc hB hx0 f_Im_callsVerifiedAlone_37 rfl ?_
        refine r_iload f_Im_callsVerifiedAlone_40 l4 ?_
        by_cases c3 : x4 < 0 ∨ 6 ≤ (x4).toNatClampNeg
        · rw [if_pos c3] at hF; cases hF
        rw [if_neg c3] at hF
        refine t_aald hB (cc_1_4 hx0) (by decide) f_Im_callsVerifiedAlone_42 c3 ?_
        refine t_getz hB (re_3 (cc_1_4 hx0) (nlt c3)) f_Im_callsVerifiedAlone_43 rfl ?_
        refine r_if_ne f_Im_callsVerifiedAlone_46 (fun c4 => ?_) (fun c4 => ?_)
        · rw [if_pos (bz_t c4)] at hF
          refine r_iload_n f_Im_callsVerifiedAlone_51 l2 ?_
          refine r_aload_n f_Im_callsVerifiedAlone_52 l0 ?_
          refine t_getc hB hx0 f_Im_callsVerifiedAlone_53 rfl ?_
          refine r_iload f_Im_callsVerifiedAlone_56 l4 ?_
          by_cases c5 : x4 < 0 ∨ 6 ≤ (x4).toNatClampNeg
          · rw [if_pos c5] at hF; cases hF
          rw [if_neg c5] at hF
          refine t_aald hB (cc_1_4 hx0) (by decide) f_Im_callsVerifiedAlone_58 c5 ?_
          refine t_geti hB (re_3 (cc_1_4 hx0) (nlt c5)) f_Im_callsVerifiedAlone_59 rfl ?_
          refine r_ior f_Im_callsVerifiedAlone_62 ?_
          refine r_istore_n f_Im_callsVerifiedAlone_63 ?_
          exact w_Im_callsVerifiedAlone_64 hB  (hr6) (ih) hQ _ (σ) (x0) ((x2 ||| (σ.1 ((relem SHc ((cref SHc (x0) 4)) ((x4).toNatClampNeg))) 11))) (x3) (x4) hx0 (lk_put_ne l0 (by decide) (Or.inl rfl)) lk_put (lk_put_ne l3 (by decide) (Or.inl rfl)) (lk_put_ne l4 (by decide) (Or.inl rfl)) hF
        · rw [if_neg (bz_nt (Decidable.not_not.mp c4))] at hF
          refine r_iconst f_Im_callsVerifiedAlone_49 (v := 0) (by decide) ?_
          cases hF
          exact r_zreturn f_Im_callsVerifiedAlone_50 (bz_or (false)) hQ
def F_Im_callsVerifiedAlone_6  : Nat → Nat → Int32 → Int32 → SG → Option (Bool × SG)
  | 0, _, _, _, _ => none
  | n + 1, x0, x2, x3, σ =>
  if (σ.1 (x0) 1) ≤ x3 then
  some (true, σ)
  else F_Im_callsVerifiedAlone_17 (F_Im_callsVerifiedAlone_6  n) 5000 (x0) (x2) (x3) ((0 : Int32)) σ
set_option maxHeartbeats 4000000 in
theorem w_Im_callsVerifiedAlone_6 {b d : Nat} {sc : SC} {pre tl : List PE} {B : Nat} {Q : Option Value → List PE → Prop} {res : Bool × SG} (hB : B = b + pre.length)   (hQ : Q (some (.int (bz res.1))) (HH pre tl SHc B res.2)) : ∀ (n : Nat) (lv : LV) (σ : SG) (x0 : Nat) (x2 : Int32) (x3 : Int32), isC SHc (x0) 1 = true → lv.lookup 0 = some (.ref (B + (x0))) → lv.lookup 2 = some (.int (x2)) → lv.lookup 3 = some (.int (x3)) → F_Im_callsVerifiedAlone_6  n x0 x2 x3 σ = some res → Rn b sc d 17 6 lv [] (HH pre tl SHc B σ) Q := by
  intro n
  induction n with
  | zero => intro lv σ x0 x2 x3 hx0 l0 l2 l3 hF; cases hF
  | succ n ih =>
    intro lv σ x0 x2 x3 hx0 l0 l2 l3 hF
    unfold F_Im_callsVerifiedAlone_6 at hF
    refine r_iload_n f_Im_callsVerifiedAlone_6 l3 ?_
    refine r_aload_n f_Im_callsVerifiedAlone_7 l0 ?_
    refine t_geti hB hx0 f_Im_callsVerifiedAlone_8 rfl ?_
    refine r_icmp_ge f_Im_callsVerifiedAlone_11 (fun c6 => ?_) (fun c6 => ?_)
    · rw [if_pos c6] at hF
      refine r_iconst f_Im_callsVerifiedAlone_76 (v := 1) (by decide) ?_
      cases hF
      exact r_zreturn f_Im_callsVerifiedAlone_77 (bz_or (true)) hQ
    · rw [if_neg c6] at hF
      refine r_iconst f_Im_callsVerifiedAlone_14 (v := 0) (by decide) ?_
      refine r_istore f_Im_callsVerifiedAlone_15 ?_
      exact w_Im_callsVerifiedAlone_17 hB  (ih) hQ 5000 _ (σ) (x0) (x2) (x3) ((0 : Int32)) hx0 (lk_put_ne l0 (by decide) (Or.inl rfl)) (lk_put_ne l2 (by decide) (Or.inl rfl)) (lk_put_ne l3 (by decide) (Or.inl rfl)) lk_put hF
def F_Im_callsVerifiedAlone (a0 : Nat) (a1 : Int32) (σ : SG) : Option (Bool × SG) :=
  F_Im_callsVerifiedAlone_6  5000 (a0) (((1 : Int32) <<< (a1 &&& 31))) ((0 : Int32)) σ
set_option maxHeartbeats 4000000 in
theorem w_Im_callsVerifiedAlone {b d : Nat} {pre tl : List PE} {B : Nat} {Q : Option Value → List PE → Prop} {res : Bool × SG} (hB : B = b + pre.length)  {σ : SG} (a0 : Nat) (a1 : Int32) (ha0 : isC SHc (a0) 1 = true) (hF : F_Im_callsVerifiedAlone a0 a1 σ = some res) (hQ : Q (some (.int (bz res.1))) (HH pre tl SHc B res.2)) : Cl b d 17 [.ref (B + (a0)), .int (a1)] (HH pre tl SHc B σ) Q := by
  unfold Cl
  unfold F_Im_callsVerifiedAlone at hF
  refine r_iconst f_Im_callsVerifiedAlone_0 (v := 1) (by decide) ?_
  refine r_iload_n f_Im_callsVerifiedAlone_1 rfl ?_
  refine r_ishl f_Im_callsVerifiedAlone_2 ?_
  refine r_istore_n f_Im_callsVerifiedAlone_3 ?_
  refine r_iconst f_Im_callsVerifiedAlone_4 (v := 0) (by decide) ?_
  refine r_istore_n f_Im_callsVerifiedAlone_5 ?_
  exact w_Im_callsVerifiedAlone_6 hB   hQ 5000 _ (σ) (a0) (((1 : Int32) <<< (a1 &&& 31))) ((0 : Int32)) ha0 (lk_put_ne (lk_put_ne rfl (by decide) (Or.inl rfl)) (by decide) (Or.inl rfl)) (lk_put_ne lk_put (by decide) (Or.inl rfl)) lk_put hF
theorem f_Me_codeAt_0 : fetch 19 0 = some (.iload_n 1, 1, 0, 0, 0) := rfl
theorem f_Me_codeAt_1 : fetch 19 1 = some (.ifCond .lt 11, 3, 12, 0, 0) := rfl
theorem f_Me_codeAt_4 : fetch 19 4 = some (.iload_n 1, 1, 0, 0, 0) := rfl
theorem f_Me_codeAt_5 : fetch 19 5 = some (.aload_n 0, 1, 0, 0, 0) := rfl
theorem f_Me_codeAt_6 : fetch 19 6 = some (.getfield 38, 3, 2, 4, 22) := rfl
theorem f_Me_codeAt_9 : fetch 19 9 = some (.if_icmp .lt 7, 3, 16, 0, 0) := rfl
theorem f_Me_codeAt_12 : fetch 19 12 = some (.iconst 0, 1, 0, 0, 0) := rfl
theorem f_Me_codeAt_13 : fetch 19 13 = some (.goto 9, 3, 22, 0, 0) := rfl
theorem f_Me_codeAt_16 : fetch 19 16 = some (.aload_n 0, 1, 0, 0, 0) := rfl
theorem f_Me_codeAt_17 : fetch 19 17 = some (.getfield 23, 3, 2, 8, 20) := rfl
theorem f_Me_codeAt_20 : fetch 19 20 = some (.iload_n 1, 1, 0, 0, 0) := rfl
theorem f_Me_codeAt_21 : fetch 19 21 = some (.iaload, 1, 0, 0, 0) := rfl
theorem f_Me_codeAt_22 : fetch 19 22 = some (.ireturn, 1, 0, 0, 0) := rfl
def F_Me_codeAt_22  (y0 : Int32) (σ : SG) : Option (Int32 × SG) :=
  some (y0, σ)
set_option maxHeartbeats 4000000 in
theorem w_Me_codeAt_22 {b d : Nat} {sc : SC} {pre tl : List PE} {B : Nat} {Q : Option Value → List PE → Prop} {res : Int32 × SG} (hB : B = b + pre.length)   (hQ : Q (some (.int res.1)) (HH pre tl SHc B res.2)) (lv : LV) (σ : SG) (y0 : Int32)  (hF : F_Me_codeAt_22  y0 σ = some res) : Rn b sc d 19 22 lv [.int (y0)] (HH pre tl SHc B σ) Q := by
  unfold F_Me_codeAt_22 at hF
  cases hF
  exact r_ireturn f_Me_codeAt_22 hQ
def F_Me_codeAt_12   (σ : SG) : Option (Int32 × SG) :=
  F_Me_codeAt_22 ((0 : Int32)) σ
set_option maxHeartbeats 4000000 in
theorem w_Me_codeAt_12 {b d : Nat} {sc : SC} {pre tl : List PE} {B : Nat} {Q : Option Value → List PE → Prop} {res : Int32 × SG} (hB : B = b + pre.length)   (hQ : Q (some (.int res.1)) (HH pre tl SHc B res.2)) (lv : LV) (σ : SG)   (hF : F_Me_codeAt_12   σ = some res) : Rn b sc d 19 12 lv [] (HH pre tl SHc B σ) Q := by
  unfold F_Me_codeAt_12 at hF
  refine r_iconst f_Me_codeAt_12 (v := 0) (by decide) ?_
  refine r_goto f_Me_codeAt_13 ?_
  exact w_Me_codeAt_22 hB   hQ _ (σ) ((0 : Int32)) hF
def F_Me_codeAt (a0 : Nat) (a1 : Int32) (σ : SG) : Option (Int32 × SG) :=
  if a1 < 0 then
  F_Me_codeAt_12 σ
  else if a1 < (σ.1 (a0) 4) then
  if a1 < 0 ∨ 100 ≤ (a1).toNatClampNeg then none else
  F_Me_codeAt_22 ((σ.2.2.2.1 ((cref SHc (a0) 8)) ((a1).toNatClampNeg))) σ
  else F_Me_codeAt_12 σ
set_option maxHeartbeats 4000000 in
theorem w_Me_codeAt {b d : Nat} {pre tl : List PE} {B : Nat} {Q : Option Value → List PE → Prop} {res : Int32 × SG} (hB : B = b + pre.length)  {σ : SG} (a0 : Nat) (a1 : Int32) (ha0 : isC SHc (a0) 2 = true) (hF : F_Me_codeAt a0 a1 σ = some res) (hQ : Q (some (.int res.1)) (HH pre tl SHc B res.2)) : Cl b d 19 [.ref (B + (a0)), .int (a1)] (HH pre tl SHc B σ) Q := by
  unfold Cl
  unfold F_Me_codeAt at hF
  refine r_iload_n f_Me_codeAt_0 rfl ?_
  refine r_if_lt f_Me_codeAt_1 (fun c1 => ?_) (fun c1 => ?_)
  · rw [if_pos c1] at hF
    exact w_Me_codeAt_12 hB   hQ _ (σ) hF
  · rw [if_neg c1] at hF
    refine r_iload_n f_Me_codeAt_4 rfl ?_
    refine r_aload_n f_Me_codeAt_5 rfl ?_
    refine t_geti hB ha0 f_Me_codeAt_6 rfl ?_
    refine r_icmp_lt f_Me_codeAt_9 (fun c2 => ?_) (fun c2 => ?_)
    · rw [if_pos c2] at hF
      refine r_aload_n f_Me_codeAt_16 rfl ?_
      refine t_getc hB ha0 f_Me_codeAt_17 rfl ?_
      refine r_iload_n f_Me_codeAt_20 rfl ?_
      by_cases c3 : a1 < 0 ∨ 100 ≤ (a1).toNatClampNeg
      · rw [if_pos c3] at hF; cases hF
      rw [if_neg c3] at hF
      refine t_iald hB (cc_2_8 ha0) f_Me_codeAt_21 c3 ?_
      exact w_Me_codeAt_22 hB   hQ _ (σ) ((σ.2.2.2.1 ((cref SHc (a0) 8)) ((a1).toNatClampNeg))) hF
    · rw [if_neg c2] at hF
      exact w_Me_codeAt_12 hB   hQ _ (σ) hF
theorem f_Me_rowAt_0 : fetch 20 0 = some (.iload_n 1, 1, 0, 0, 0) := rfl
theorem f_Me_rowAt_1 : fetch 20 1 = some (.ifCond .lt 11, 3, 12, 0, 0) := rfl
theorem f_Me_rowAt_4 : fetch 20 4 = some (.iload_n 1, 1, 0, 0, 0) := rfl
theorem f_Me_rowAt_5 : fetch 20 5 = some (.aload_n 0, 1, 0, 0, 0) := rfl
theorem f_Me_rowAt_6 : fetch 20 6 = some (.getfield 38, 3, 2, 4, 22) := rfl
theorem f_Me_rowAt_9 : fetch 20 9 = some (.if_icmp .lt 7, 3, 16, 0, 0) := rfl
theorem f_Me_rowAt_12 : fetch 20 12 = some (.iconst (-1), 1, 0, 0, 0) := rfl
theorem f_Me_rowAt_13 : fetch 20 13 = some (.goto 9, 3, 22, 0, 0) := rfl
theorem f_Me_rowAt_16 : fetch 20 16 = some (.aload_n 0, 1, 0, 0, 0) := rfl
theorem f_Me_rowAt_17 : fetch 20 17 = some (.getfield 26, 3, 2, 10, 21) := rfl
theorem f_Me_rowAt_20 : fetch 20 20 = some (.iload_n 1, 1, 0, 0, 0) := rfl
theorem f_Me_rowAt_21 : fetch 20 21 = some (.iaload, 1, 0, 0, 0) := rfl
theorem f_Me_rowAt_22 : fetch 20 22 = some (.ireturn, 1, 0, 0, 0) := rfl
def F_Me_rowAt_22  (y0 : Int32) (σ : SG) : Option (Int32 × SG) :=
  some (y0, σ)
set_option maxHeartbeats 4000000 in
theorem w_Me_rowAt_22 {b d : Nat} {sc : SC} {pre tl : List PE} {B : Nat} {Q : Option Value → List PE → Prop} {res : Int32 × SG} (hB : B = b + pre.length)   (hQ : Q (some (.int res.1)) (HH pre tl SHc B res.2)) (lv : LV) (σ : SG) (y0 : Int32)  (hF : F_Me_rowAt_22  y0 σ = some res) : Rn b sc d 20 22 lv [.int (y0)] (HH pre tl SHc B σ) Q := by
  unfold F_Me_rowAt_22 at hF
  cases hF
  exact r_ireturn f_Me_rowAt_22 hQ
def F_Me_rowAt_12   (σ : SG) : Option (Int32 × SG) :=
  F_Me_rowAt_22 (((-1) : Int32)) σ
set_option maxHeartbeats 4000000 in
theorem w_Me_rowAt_12 {b d : Nat} {sc : SC} {pre tl : List PE} {B : Nat} {Q : Option Value → List PE → Prop} {res : Int32 × SG} (hB : B = b + pre.length)   (hQ : Q (some (.int res.1)) (HH pre tl SHc B res.2)) (lv : LV) (σ : SG)   (hF : F_Me_rowAt_12   σ = some res) : Rn b sc d 20 12 lv [] (HH pre tl SHc B σ) Q := by
  unfold F_Me_rowAt_12 at hF
  refine r_iconst f_Me_rowAt_12 (v := (-1)) (by decide) ?_
  refine r_goto f_Me_rowAt_13 ?_
  exact w_Me_rowAt_22 hB   hQ _ (σ) (((-1) : Int32)) hF
def F_Me_rowAt (a0 : Nat) (a1 : Int32) (σ : SG) : Option (Int32 × SG) :=
  if a1 < 0 then
  F_Me_rowAt_12 σ
  else if a1 < (σ.1 (a0) 4) then
  if a1 < 0 ∨ 100 ≤ (a1).toNatClampNeg then none else
  F_Me_rowAt_22 ((σ.2.2.2.1 ((cref SHc (a0) 10)) ((a1).toNatClampNeg))) σ
  else F_Me_rowAt_12 σ
set_option maxHeartbeats 4000000 in
theorem w_Me_rowAt {b d : Nat} {pre tl : List PE} {B : Nat} {Q : Option Value → List PE → Prop} {res : Int32 × SG} (hB : B = b + pre.length)  {σ : SG} (a0 : Nat) (a1 : Int32) (ha0 : isC SHc (a0) 2 = true) (hF : F_Me_rowAt a0 a1 σ = some res) (hQ : Q (some (.int res.1)) (HH pre tl SHc B res.2)) : Cl b d 20 [.ref (B + (a0)), .int (a1)] (HH pre tl SHc B σ) Q := by
  unfold Cl
  unfold F_Me_rowAt at hF
  refine r_iload_n f_Me_rowAt_0 rfl ?_
  refine r_if_lt f_Me_rowAt_1 (fun c1 => ?_) (fun c1 => ?_)
  · rw [if_pos c1] at hF
    exact w_Me_rowAt_12 hB   hQ _ (σ) hF
  · rw [if_neg c1] at hF
    refine r_iload_n f_Me_rowAt_4 rfl ?_
    refine r_aload_n f_Me_rowAt_5 rfl ?_
    refine t_geti hB ha0 f_Me_rowAt_6 rfl ?_
    refine r_icmp_lt f_Me_rowAt_9 (fun c2 => ?_) (fun c2 => ?_)
    · rw [if_pos c2] at hF
      refine r_aload_n f_Me_rowAt_16 rfl ?_
      refine t_getc hB ha0 f_Me_rowAt_17 rfl ?_
      refine r_iload_n f_Me_rowAt_20 rfl ?_
      by_cases c3 : a1 < 0 ∨ 100 ≤ (a1).toNatClampNeg
      · rw [if_pos c3] at hF; cases hF
      rw [if_neg c3] at hF
      refine t_iald hB (cc_2_10 ha0) f_Me_rowAt_21 c3 ?_
      exact w_Me_rowAt_22 hB   hQ _ (σ) ((σ.2.2.2.1 ((cref SHc (a0) 10)) ((a1).toNatClampNeg))) hF
    · rw [if_neg c2] at hF
      exact w_Me_rowAt_12 hB   hQ _ (σ) hF
theorem f_Me_localType_0 : fetch 21 0 = some (.iload_n 1, 1, 0, 0, 0) := rfl
theorem f_Me_localType_1 : fetch 21 1 = some (.ifCond .lt 11, 3, 12, 0, 0) := rfl
theorem f_Me_localType_4 : fetch 21 4 = some (.iload_n 1, 1, 0, 0, 0) := rfl
theorem f_Me_localType_5 : fetch 21 5 = some (.aload_n 0, 1, 0, 0, 0) := rfl
theorem f_Me_localType_6 : fetch 21 6 = some (.getfield 35, 3, 2, 2, 23) := rfl
theorem f_Me_localType_9 : fetch 21 9 = some (.if_icmp .lt 7, 3, 16, 0, 0) := rfl
theorem f_Me_localType_12 : fetch 21 12 = some (.iconst 0, 1, 0, 0, 0) := rfl
theorem f_Me_localType_13 : fetch 21 13 = some (.goto 9, 3, 22, 0, 0) := rfl
theorem f_Me_localType_16 : fetch 21 16 = some (.aload_n 0, 1, 0, 0, 0) := rfl
theorem f_Me_localType_17 : fetch 21 17 = some (.getfield 13, 3, 2, 6, 18) := rfl
theorem f_Me_localType_20 : fetch 21 20 = some (.iload_n 1, 1, 0, 0, 0) := rfl
theorem f_Me_localType_21 : fetch 21 21 = some (.iaload, 1, 0, 0, 0) := rfl
theorem f_Me_localType_22 : fetch 21 22 = some (.ireturn, 1, 0, 0, 0) := rfl
def F_Me_localType_22  (y0 : Int32) (σ : SG) : Option (Int32 × SG) :=
  some (y0, σ)
set_option maxHeartbeats 4000000 in
theorem w_Me_localType_22 {b d : Nat} {sc : SC} {pre tl : List PE} {B : Nat} {Q : Option Value → List PE → Prop} {res : Int32 × SG} (hB : B = b + pre.length)   (hQ : Q (some (.int res.1)) (HH pre tl SHc B res.2)) (lv : LV) (σ : SG) (y0 : Int32)  (hF : F_Me_localType_22  y0 σ = some res) : Rn b sc d 21 22 lv [.int (y0)] (HH pre tl SHc B σ) Q := by
  unfold F_Me_localType_22 at hF
  cases hF
  exact r_ireturn f_Me_localType_22 hQ
def F_Me_localType_12   (σ : SG) : Option (Int32 × SG) :=
  F_Me_localType_22 ((0 : Int32)) σ
set_option maxHeartbeats 4000000 in
theorem w_Me_localType_12 {b d : Nat} {sc : SC} {pre tl : List PE} {B : Nat} {Q : Option Value → List PE → Prop} {res : Int32 × SG} (hB : B = b + pre.length)   (hQ : Q (some (.int res.1)) (HH pre tl SHc B res.2)) (lv : LV) (σ : SG)   (hF : F_Me_localType_12   σ = some res) : Rn b sc d 21 12 lv [] (HH pre tl SHc B σ) Q := by
  unfold F_Me_localType_12 at hF
  refine r_iconst f_Me_localType_12 (v := 0) (by decide) ?_
  refine r_goto f_Me_localType_13 ?_
  exact w_Me_localType_22 hB   hQ _ (σ) ((0 : Int32)) hF
def F_Me_localType (a0 : Nat) (a1 : Int32) (σ : SG) : Option (Int32 × SG) :=
  if a1 < 0 then
  F_Me_localType_12 σ
  else if a1 < (σ.1 (a0) 2) then
  if a1 < 0 ∨ 4 ≤ (a1).toNatClampNeg then none else
  F_Me_localType_22 ((σ.2.2.2.1 ((cref SHc (a0) 6)) ((a1).toNatClampNeg))) σ
  else F_Me_localType_12 σ
set_option maxHeartbeats 4000000 in
theorem w_Me_localType {b d : Nat} {pre tl : List PE} {B : Nat} {Q : Option Value → List PE → Prop} {res : Int32 × SG} (hB : B = b + pre.length)  {σ : SG} (a0 : Nat) (a1 : Int32) (ha0 : isC SHc (a0) 2 = true) (hF : F_Me_localType a0 a1 σ = some res) (hQ : Q (some (.int res.1)) (HH pre tl SHc B res.2)) : Cl b d 21 [.ref (B + (a0)), .int (a1)] (HH pre tl SHc B σ) Q := by
  unfold Cl
  unfold F_Me_localType at hF
  refine r_iload_n f_Me_localType_0 rfl ?_
  refine r_if_lt f_Me_localType_1 (fun c1 => ?_) (fun c1 => ?_)
  · rw [if_pos c1] at hF
    exact w_Me_localType_12 hB   hQ _ (σ) hF
  · rw [if_neg c1] at hF
    refine r_iload_n f_Me_localType_4 rfl ?_
    refine r_aload_n f_Me_localType_5 rfl ?_
    refine t_geti hB ha0 f_Me_localType_6 rfl ?_
    refine r_icmp_lt f_Me_localType_9 (fun c2 => ?_) (fun c2 => ?_)
    · rw [if_pos c2] at hF
      refine r_aload_n f_Me_localType_16 rfl ?_
      refine t_getc hB ha0 f_Me_localType_17 rfl ?_
      refine r_iload_n f_Me_localType_20 rfl ?_
      by_cases c3 : a1 < 0 ∨ 4 ≤ (a1).toNatClampNeg
      · rw [if_pos c3] at hF; cases hF
      rw [if_neg c3] at hF
      refine t_iald hB (cc_2_6 ha0) f_Me_localType_21 c3 ?_
      exact w_Me_localType_22 hB   hQ _ (σ) ((σ.2.2.2.1 ((cref SHc (a0) 6)) ((a1).toNatClampNeg))) hF
    · rw [if_neg c2] at hF
      exact w_Me_localType_12 hB   hQ _ (σ) hF
theorem f_Me_argumentType_0 : fetch 22 0 = some (.iload_n 1, 1, 0, 0, 0) := rfl
theorem f_Me_argumentType_1 : fetch 22 1 = some (.ifCond .lt 11, 3, 12, 0, 0) := rfl
theorem f_Me_argumentType_4 : fetch 22 4 = some (.iload_n 1, 1, 0, 0, 0) := rfl
theorem f_Me_argumentType_5 : fetch 22 5 = some (.aload_n 0, 1, 0, 0, 0) := rfl
theorem f_Me_argumentType_6 : fetch 22 6 = some (.getfield 29, 3, 2, 1, 24) := rfl
theorem f_Me_argumentType_9 : fetch 22 9 = some (.if_icmp .lt 7, 3, 16, 0, 0) := rfl
theorem f_Me_argumentType_12 : fetch 22 12 = some (.iconst 0, 1, 0, 0, 0) := rfl
theorem f_Me_argumentType_13 : fetch 22 13 = some (.goto 9, 3, 22, 0, 0) := rfl
theorem f_Me_argumentType_16 : fetch 22 16 = some (.aload_n 0, 1, 0, 0, 0) := rfl
theorem f_Me_argumentType_17 : fetch 22 17 = some (.getfield 9, 3, 2, 5, 17) := rfl
theorem f_Me_argumentType_20 : fetch 22 20 = some (.iload_n 1, 1, 0, 0, 0) := rfl
theorem f_Me_argumentType_21 : fetch 22 21 = some (.iaload, 1, 0, 0, 0) := rfl
theorem f_Me_argumentType_22 : fetch 22 22 = some (.ireturn, 1, 0, 0, 0) := rfl
def F_Me_argumentType_22  (y0 : Int32) (σ : SG) : Option (Int32 × SG) :=
  some (y0, σ)
set_option maxHeartbeats 4000000 in
theorem w_Me_argumentType_22 {b d : Nat} {sc : SC} {pre tl : List PE} {B : Nat} {Q : Option Value → List PE → Prop} {res : Int32 × SG} (hB : B = b + pre.length)   (hQ : Q (some (.int res.1)) (HH pre tl SHc B res.2)) (lv : LV) (σ : SG) (y0 : Int32)  (hF : F_Me_argumentType_22  y0 σ = some res) : Rn b sc d 22 22 lv [.int (y0)] (HH pre tl SHc B σ) Q := by
  unfold F_Me_argumentType_22 at hF
  cases hF
  exact r_ireturn f_Me_argumentType_22 hQ
def F_Me_argumentType_12   (σ : SG) : Option (Int32 × SG) :=
  F_Me_argumentType_22 ((0 : Int32)) σ
set_option maxHeartbeats 4000000 in
theorem w_Me_argumentType_12 {b d : Nat} {sc : SC} {pre tl : List PE} {B : Nat} {Q : Option Value → List PE → Prop} {res : Int32 × SG} (hB : B = b + pre.length)   (hQ : Q (some (.int res.1)) (HH pre tl SHc B res.2)) (lv : LV) (σ : SG)   (hF : F_Me_argumentType_12   σ = some res) : Rn b sc d 22 12 lv [] (HH pre tl SHc B σ) Q := by
  unfold F_Me_argumentType_12 at hF
  refine r_iconst f_Me_argumentType_12 (v := 0) (by decide) ?_
  refine r_goto f_Me_argumentType_13 ?_
  exact w_Me_argumentType_22 hB   hQ _ (σ) ((0 : Int32)) hF
def F_Me_argumentType (a0 : Nat) (a1 : Int32) (σ : SG) : Option (Int32 × SG) :=
  if a1 < 0 then
  F_Me_argumentType_12 σ
  else if a1 < (σ.1 (a0) 1) then
  if a1 < 0 ∨ 3 ≤ (a1).toNatClampNeg then none else
  F_Me_argumentType_22 ((σ.2.2.2.1 ((cref SHc (a0) 5)) ((a1).toNatClampNeg))) σ
  else F_Me_argumentType_12 σ
set_option maxHeartbeats 4000000 in
theorem w_Me_argumentType {b d : Nat} {pre tl : List PE} {B : Nat} {Q : Option Value → List PE → Prop} {res : Int32 × SG} (hB : B = b + pre.length)  {σ : SG} (a0 : Nat) (a1 : Int32) (ha0 : isC SHc (a0) 2 = true) (hF : F_Me_argumentType a0 a1 σ = some res) (hQ : Q (some (.int res.1)) (HH pre tl SHc B res.2)) : Cl b d 22 [.ref (B + (a0)), .int (a1)] (HH pre tl SHc B σ) Q := by
  unfold Cl
  unfold F_Me_argumentType at hF
  refine r_iload_n f_Me_argumentType_0 rfl ?_
  refine r_if_lt f_Me_argumentType_1 (fun c1 => ?_) (fun c1 => ?_)
  · rw [if_pos c1] at hF
    exact w_Me_argumentType_12 hB   hQ _ (σ) hF
  · rw [if_neg c1] at hF
    refine r_iload_n f_Me_argumentType_4 rfl ?_
    refine r_aload_n f_Me_argumentType_5 rfl ?_
    refine t_geti hB ha0 f_Me_argumentType_6 rfl ?_
    refine r_icmp_lt f_Me_argumentType_9 (fun c2 => ?_) (fun c2 => ?_)
    · rw [if_pos c2] at hF
      refine r_aload_n f_Me_argumentType_16 rfl ?_
      refine t_getc hB ha0 f_Me_argumentType_17 rfl ?_
      refine r_iload_n f_Me_argumentType_20 rfl ?_
      by_cases c3 : a1 < 0 ∨ 3 ≤ (a1).toNatClampNeg
      · rw [if_pos c3] at hF; cases hF
      rw [if_neg c3] at hF
      refine t_iald hB (cc_2_5 ha0) f_Me_argumentType_21 c3 ?_
      exact w_Me_argumentType_22 hB   hQ _ (σ) ((σ.2.2.2.1 ((cref SHc (a0) 5)) ((a1).toNatClampNeg))) hF
    · rw [if_neg c2] at hF
      exact w_Me_argumentType_12 hB   hQ _ (σ) hF
theorem f_Rg_keeps_0 : fetch 116 0 = some (.iload_n 1, 1, 0, 0, 0) := rfl
theorem f_Rg_keeps_1 : fetch 116 1 = some (.aload_n 0, 1, 0, 0, 0) := rfl
theorem f_Rg_keeps_2 : fetch 116 2 = some (.getfield 7, 3, 4, 0, 97) := rfl
theorem f_Rg_keeps_5 : fetch 116 5 = some (.if_icmp .lt 15, 3, 20, 0, 0) := rfl
theorem f_Rg_keeps_8 : fetch 116 8 = some (.iload_n 1, 1, 0, 0, 0) := rfl
theorem f_Rg_keeps_9 : fetch 116 9 = some (.aload_n 0, 1, 0, 0, 0) := rfl
theorem f_Rg_keeps_10 : fetch 116 10 = some (.getfield 13, 3, 4, 1, 98) := rfl
theorem f_Rg_keeps_13 : fetch 116 13 = some (.if_icmp .ge 7, 3, 20, 0, 0) := rfl
theorem f_Rg_keeps_16 : fetch 116 16 = some (.iconst 1, 1, 0, 0, 0) := rfl
theorem f_Rg_keeps_17 : fetch 116 17 = some (.goto 4, 3, 21, 0, 0) := rfl
theorem f_Rg_keeps_20 : fetch 116 20 = some (.iconst 0, 1, 0, 0, 0) := rfl
theorem f_Rg_keeps_21 : fetch 116 21 = some (.ireturn, 1, 2, 0, 0) := rfl
def F_Rg_keeps_21  (y0 : Bool) (σ : SG) : Option (Bool × SG) :=
  some (y0, σ)
set_option maxHeartbeats 4000000 in
theorem w_Rg_keeps_21 {b d : Nat} {sc : SC} {pre tl : List PE} {B : Nat} {Q : Option Value → List PE → Prop} {res : Bool × SG} (hB : B = b + pre.length)   (hQ : Q (some (.int (bz res.1))) (HH pre tl SHc B res.2)) (lv : LV) (σ : SG) (y0 : Bool)  (hF : F_Rg_keeps_21  y0 σ = some res) : Rn b sc d 116 21 lv [.int (bz (y0))] (HH pre tl SHc B σ) Q := by
  unfold F_Rg_keeps_21 at hF
  cases hF
  exact r_zreturn f_Rg_keeps_21 (bz_or (y0)) hQ
def F_Rg_keeps_20   (σ : SG) : Option (Bool × SG) :=
  F_Rg_keeps_21 (false) σ
set_option maxHeartbeats 4000000 in
theorem w_Rg_keeps_20 {b d : Nat} {sc : SC} {pre tl : List PE} {B : Nat} {Q : Option Value → List PE → Prop} {res : Bool × SG} (hB : B = b + pre.length)   (hQ : Q (some (.int (bz res.1))) (HH pre tl SHc B res.2)) (lv : LV) (σ : SG)   (hF : F_Rg_keeps_20   σ = some res) : Rn b sc d 116 20 lv [] (HH pre tl SHc B σ) Q := by
  unfold F_Rg_keeps_20 at hF
  refine r_iconst f_Rg_keeps_20 (v := 0) (by decide) ?_
  exact w_Rg_keeps_21 hB   hQ _ (σ) (false) hF
def F_Rg_keeps (a0 : Nat) (a1 : Int32) (σ : SG) : Option (Bool × SG) :=
  if a1 < (σ.1 (a0) 0) then
  F_Rg_keeps_20 σ
  else if (σ.1 (a0) 1) ≤ a1 then
  F_Rg_keeps_20 σ
  else F_Rg_keeps_21 (true) σ
set_option maxHeartbeats 4000000 in
theorem w_Rg_keeps {b d : Nat} {pre tl : List PE} {B : Nat} {Q : Option Value → List PE → Prop} {res : Bool × SG} (hB : B = b + pre.length)  {σ : SG} (a0 : Nat) (a1 : Int32) (ha0 : isC SHc (a0) 4 = true) (hF : F_Rg_keeps a0 a1 σ = some res) (hQ : Q (some (.int (bz res.1))) (HH pre tl SHc B res.2)) : Cl b d 116 [.ref (B + (a0)), .int (a1)] (HH pre tl SHc B σ) Q := by
  unfold Cl
  unfold F_Rg_keeps at hF
  refine r_iload_n f_Rg_keeps_0 rfl ?_
  refine r_aload_n f_Rg_keeps_1 rfl ?_
  refine t_geti hB ha0 f_Rg_keeps_2 rfl ?_
  refine r_icmp_lt f_Rg_keeps_5 (fun c1 => ?_) (fun c1 => ?_)
  · rw [if_pos c1] at hF
    exact w_Rg_keeps_20 hB   hQ _ (σ) hF
  · rw [if_neg c1] at hF
    refine r_iload_n f_Rg_keeps_8 rfl ?_
    refine r_aload_n f_Rg_keeps_9 rfl ?_
    refine t_geti hB ha0 f_Rg_keeps_10 rfl ?_
    refine r_icmp_ge f_Rg_keeps_13 (fun c2 => ?_) (fun c2 => ?_)
    · rw [if_pos c2] at hF
      exact w_Rg_keeps_20 hB   hQ _ (σ) hF
    · rw [if_neg c2] at hF
      refine r_iconst f_Rg_keeps_16 (v := 1) (by decide) ?_
      refine r_goto f_Rg_keeps_17 ?_
      exact w_Rg_keeps_21 hB   hQ _ (σ) (true) hF
theorem f_Me_partsAt_0 : fetch 23 0 = some (.iconst 0, 1, 0, 0, 0) := rfl
theorem f_Me_partsAt_1 : fetch 23 1 = some (.istore_n 2, 1, 0, 0, 0) := rfl
theorem f_Me_partsAt_2 : fetch 23 2 = some (.iconst 0, 1, 0, 0, 0) := rfl
theorem f_Me_partsAt_3 : fetch 23 3 = some (.istore_n 3, 1, 0, 0, 0) := rfl
theorem f_Me_partsAt_4 : fetch 23 4 = some (.iload_n 3, 1, 0, 0, 0) := rfl
theorem f_Me_partsAt_5 : fetch 23 5 = some (.aload_n 0, 1, 0, 0, 0) := rfl
theorem f_Me_partsAt_6 : fetch 23 6 = some (.getfield 43, 3, 2, 3, 25) := rfl
theorem f_Me_partsAt_9 : fetch 23 9 = some (.if_icmp .ge 28, 3, 37, 0, 0) := rfl
theorem f_Me_partsAt_12 : fetch 23 12 = some (.aload_n 0, 1, 0, 0, 0) := rfl
theorem f_Me_partsAt_13 : fetch 23 13 = some (.getfield 18, 3, 2, 7, 19) := rfl
theorem f_Me_partsAt_16 : fetch 23 16 = some (.iload_n 3, 1, 0, 0, 0) := rfl
theorem f_Me_partsAt_17 : fetch 23 17 = some (.aaload, 1, 0, 0, 0) := rfl
theorem f_Me_partsAt_18 : fetch 23 18 = some (.iload_n 1, 1, 0, 0, 0) := rfl
theorem f_Me_partsAt_19 : fetch 23 19 = some (.invokevirtual 46, 3, 116, 1, 37) := rfl
theorem f_Me_partsAt_22 : fetch 23 22 = some (.ifCond .eq 9, 3, 31, 0, 0) := rfl
theorem f_Me_partsAt_25 : fetch 23 25 = some (.iload_n 2, 1, 0, 0, 0) := rfl
theorem f_Me_partsAt_26 : fetch 23 26 = some (.iconst 1, 1, 0, 0, 0) := rfl
theorem f_Me_partsAt_27 : fetch 23 27 = some (.iload_n 3, 1, 0, 0, 0) := rfl
theorem f_Me_partsAt_28 : fetch 23 28 = some (.ishl, 1, 0, 0, 0) := rfl
theorem f_Me_partsAt_29 : fetch 23 29 = some (.ior, 1, 0, 0, 0) := rfl
theorem f_Me_partsAt_30 : fetch 23 30 = some (.istore_n 2, 1, 0, 0, 0) := rfl
theorem f_Me_partsAt_31 : fetch 23 31 = some (.iinc 3 1, 3, 0, 0, 0) := rfl
theorem f_Me_partsAt_34 : fetch 23 34 = some (.goto (-30), 3, 4, 0, 0) := rfl
theorem f_Me_partsAt_37 : fetch 23 37 = some (.iload_n 2, 1, 0, 0, 0) := rfl
theorem f_Me_partsAt_38 : fetch 23 38 = some (.ireturn, 1, 0, 0, 0) := rfl
def F_Me_partsAt_31 (rec4 : Nat → Int32 → Int32 → Int32 → SG → Option (Int32 × SG)) (x0 : Nat) (x1 : Int32) (x2 : Int32) (x3 : Int32) (σ : SG) : Option (Int32 × SG) :=
  rec4 (x0) (x1) (x2) ((x3 + 1)) σ
set_option maxHeartbeats 4000000 in
theorem w_Me_partsAt_31 {b d : Nat} {sc : SC} {pre tl : List PE} {B : Nat} {Q : Option Value → List PE → Prop} {res : Int32 × SG} (hB : B = b + pre.length) (hd : 1 ≤ d) {rec4 : Nat → Int32 → Int32 → Int32 → SG → Option (Int32 × SG)} (hr4 : ∀ (lv : LV) (σ : SG) (x0 : Nat) (x1 : Int32) (x2 : Int32) (x3 : Int32), isC SHc (x0) 2 = true → lv.lookup 0 = some (.ref (B + (x0))) → lv.lookup 1 = some (.int (x1)) → lv.lookup 2 = some (.int (x2)) → lv.lookup 3 = some (.int (x3)) →  rec4 x0 x1 x2 x3 σ = some res → Rn b sc d 23 4 lv [] (HH pre tl SHc B σ) Q) (hQ : Q (some (.int res.1)) (HH pre tl SHc B res.2)) (lv : LV) (σ : SG) (x0 : Nat) (x1 : Int32) (x2 : Int32) (x3 : Int32) (hx0 : isC SHc (x0) 2 = true) (l0 : lv.lookup 0 = some (.ref (B + (x0)))) (l1 : lv.lookup 1 = some (.int (x1))) (l2 : lv.lookup 2 = some (.int (x2))) (l3 : lv.lookup 3 = some (.int (x3))) (hF : F_Me_partsAt_31 rec4 x0 x1 x2 x3 σ = some res) : Rn b sc d 23 31 lv [] (HH pre tl SHc B σ) Q := by
  obtain ⟨e0, rfl⟩ : ∃ e, d = e + 1 := ⟨d - 1, by omega⟩
  unfold F_Me_partsAt_31 at hF
  refine r_iinc f_Me_partsAt_31 l3 (w := x3 + 1) rfl ?_
  refine r_goto f_Me_partsAt_34 ?_
  exact hr4 _ (σ) (x0) (x1) (x2) ((x3 + 1)) hx0 (lk_put_ne l0 (by decide) (Or.inl rfl)) (lk_put_ne l1 (by decide) (Or.inl rfl)) (lk_put_ne l2 (by decide) (Or.inl rfl)) lk_put hF
def F_Me_partsAt_4  : Nat → Nat → Int32 → Int32 → Int32 → SG → Option (Int32 × SG)
  | 0, _, _, _, _, _ => none
  | n + 1, x0, x1, x2, x3, σ =>
  if (σ.1 (x0) 3) ≤ x3 then
  some (x2, σ)
  else if x3 < 0 ∨ 3 ≤ (x3).toNatClampNeg then none else
  match F_Rg_keeps ((relem SHc ((cref SHc (x0) 7)) ((x3).toNatClampNeg))) (x1) σ with
  | none => none
  | some q3 =>
  if q3.1 = true then
  F_Me_partsAt_31 (F_Me_partsAt_4  n) (x0) (x1) ((x2 ||| ((1 : Int32) <<< (x3 &&& 31)))) (x3) q3.2
  else F_Me_partsAt_31 (F_Me_partsAt_4  n) (x0) (x1) (x2) (x3) q3.2
set_option maxHeartbeats 4000000 in
theorem w_Me_partsAt_4 {b d : Nat} {sc : SC} {pre tl : List PE} {B : Nat} {Q : Option Value → List PE → Prop} {res : Int32 × SG} (hB : B = b + pre.length) (hd : 1 ≤ d)   (hQ : Q (some (.int res.1)) (HH pre tl SHc B res.2)) : ∀ (n : Nat) (lv : LV) (σ : SG) (x0 : Nat) (x1 : Int32) (x2 : Int32) (x3 : Int32), isC SHc (x0) 2 = true → lv.lookup 0 = some (.ref (B + (x0))) → lv.lookup 1 = some (.int (x1)) → lv.lookup 2 = some (.int (x2)) → lv.lookup 3 = some (.int (x3)) → F_Me_partsAt_4  n x0 x1 x2 x3 σ = some res → Rn b sc d 23 4 lv [] (HH pre tl SHc B σ) Q := by
  obtain ⟨e0, rfl⟩ : ∃ e, d = e + 1 := ⟨d - 1, by omega⟩
  intro n
  induction n with
  | zero => intro lv σ x0 x1 x2 x3 hx0 l0 l1 l2 l3 hF; cases hF
  | succ n ih =>
    intro lv σ x0 x1 x2 x3 hx0 l0 l1 l2 l3 hF
    unfold F_Me_partsAt_4 at hF
    refine r_iload_n f_Me_partsAt_4 l3 ?_
    refine r_aload_n f_Me_partsAt_5 l0 ?_
    refine t_geti hB hx0 f_Me_partsAt_6 rfl ?_
    refine r_icmp_ge f_Me_partsAt_9 (fun c1 => ?_) (fun c1 => ?_)
    · rw [if_pos c1] at hF
      refine r_iload_n f_Me_partsAt_37 l2 ?_
      cases hF
      exact r_ireturn f_Me_partsAt_38 hQ
    · rw [if_neg c1] at hF
      refine r_aload_n f_Me_partsAt_12 l0 ?_
      refine t_getc hB hx0 f_Me_partsAt_13 rfl ?_
      refine r_iload_n f_Me_partsAt_16 l3 ?_
      by_cases c2 : x3 < 0 ∨ 3 ≤ (x3).toNatClampNeg
      · rw [if_pos c2] at hF; cases hF
      rw [if_neg c2] at hF
      refine t_aald hB (cc_2_7 hx0) (by decide) f_Me_partsAt_17 c2 ?_
      refine r_iload_n f_Me_partsAt_18 l1 ?_
      cases hq3 : F_Rg_keeps ((relem SHc ((cref SHc (x0) 7)) ((x3).toNatClampNeg))) (x1) σ with
      | none => simp only [hq3] at hF; cases hF
      | some q3 =>
        simp only [hq3] at hF
        refine t_V1i hB (re_4 (cc_2_7 hx0) (nlt c2)) rfl rfl f_Me_partsAt_19 (by decide) (Nat.le_of_ble_eq_true rfl) (Nat.le_of_ble_eq_true rfl) (w_Rg_keeps hB  ((relem SHc ((cref SHc (x0) 7)) ((x3).toNatClampNeg))) (x1) (re_4 (cc_2_7 hx0) (nlt c2)) hq3 ⟨_, rfl, ?_⟩)
        refine r_if_eq f_Me_partsAt_22 (fun c4 => ?_) (fun c4 => ?_)
        · rw [if_neg (bz_nt c4)] at hF
          exact w_Me_partsAt_31 hB hd (ih) hQ _ (q3.2) (x0) (x1) (x2) (x3) hx0 l0 l1 l2 l3 hF
        · rw [if_pos (bz_t c4)] at hF
          refine r_iload_n f_Me_partsAt_25 l2 ?_
          refine r_iconst f_Me_partsAt_26 (v := 1) (by decide) ?_
          refine r_iload_n f_Me_partsAt_27 l3 ?_
          refine r_ishl f_Me_partsAt_28 ?_
          refine r_ior f_Me_partsAt_29 ?_
          refine r_istore_n f_Me_partsAt_30 ?_
          exact w_Me_partsAt_31 hB hd (ih) hQ _ (q3.2) (x0) (x1) ((x2 ||| ((1 : Int32) <<< (x3 &&& 31)))) (x3) hx0 (lk_put_ne l0 (by decide) (Or.inl rfl)) (lk_put_ne l1 (by decide) (Or.inl rfl)) lk_put (lk_put_ne l3 (by decide) (Or.inl rfl)) hF
def F_Me_partsAt (a0 : Nat) (a1 : Int32) (σ : SG) : Option (Int32 × SG) :=
  F_Me_partsAt_4  5000 (a0) (a1) ((0 : Int32)) ((0 : Int32)) σ
set_option maxHeartbeats 4000000 in
theorem w_Me_partsAt {b d : Nat} {pre tl : List PE} {B : Nat} {Q : Option Value → List PE → Prop} {res : Int32 × SG} (hB : B = b + pre.length) (hd : 1 ≤ d)  {σ : SG} (a0 : Nat) (a1 : Int32) (ha0 : isC SHc (a0) 2 = true) (hF : F_Me_partsAt a0 a1 σ = some res) (hQ : Q (some (.int res.1)) (HH pre tl SHc B res.2)) : Cl b d 23 [.ref (B + (a0)), .int (a1)] (HH pre tl SHc B σ) Q := by
  obtain ⟨e0, rfl⟩ : ∃ e, d = e + 1 := ⟨d - 1, by omega⟩
  unfold Cl
  unfold F_Me_partsAt at hF
  refine r_iconst f_Me_partsAt_0 (v := 0) (by decide) ?_
  refine r_istore_n f_Me_partsAt_1 ?_
  refine r_iconst f_Me_partsAt_2 (v := 0) (by decide) ?_
  refine r_istore_n f_Me_partsAt_3 ?_
  exact w_Me_partsAt_4 hB hd  hQ 5000 _ (σ) (a0) (a1) ((0 : Int32)) ((0 : Int32)) ha0 (lk_put_ne (lk_put_ne rfl (by decide) (Or.inl rfl)) (by decide) (Or.inl rfl)) (lk_put_ne (lk_put_ne rfl (by decide) (Or.inl rfl)) (by decide) (Or.inl rfl)) (lk_put_ne lk_put (by decide) (Or.inl rfl)) lk_put hF
theorem f_Me_finallyAround_0 : fetch 25 0 = some (.iconst 0, 1, 0, 0, 0) := rfl
theorem f_Me_finallyAround_1 : fetch 25 1 = some (.istore_n 2, 1, 0, 0, 0) := rfl
theorem f_Me_finallyAround_2 : fetch 25 2 = some (.iload_n 2, 1, 0, 0, 0) := rfl
theorem f_Me_finallyAround_3 : fetch 25 3 = some (.aload_n 0, 1, 0, 0, 0) := rfl
theorem f_Me_finallyAround_4 : fetch 25 4 = some (.getfield 43, 3, 2, 3, 25) := rfl
theorem f_Me_finallyAround_7 : fetch 25 7 = some (.if_icmp .ge 55, 3, 62, 0, 0) := rfl
theorem f_Me_finallyAround_10 : fetch 25 10 = some (.aload_n 0, 1, 0, 0, 0) := rfl
theorem f_Me_finallyAround_11 : fetch 25 11 = some (.getfield 18, 3, 2, 7, 19) := rfl
theorem f_Me_finallyAround_14 : fetch 25 14 = some (.iload_n 2, 1, 0, 0, 0) := rfl
theorem f_Me_finallyAround_15 : fetch 25 15 = some (.aaload, 1, 0, 0, 0) := rfl
theorem f_Me_finallyAround_16 : fetch 25 16 = some (.iload_n 1, 1, 0, 0, 0) := rfl
theorem f_Me_finallyAround_17 : fetch 25 17 = some (.invokevirtual 46, 3, 116, 1, 37) := rfl
theorem f_Me_finallyAround_20 : fetch 25 20 = some (.ifCond .eq 5, 3, 25, 0, 0) := rfl
theorem f_Me_finallyAround_23 : fetch 25 23 = some (.iconst (-1), 1, 0, 0, 0) := rfl
theorem f_Me_finallyAround_24 : fetch 25 24 = some (.ireturn, 1, 0, 0, 0) := rfl
theorem f_Me_finallyAround_25 : fetch 25 25 = some (.aload_n 0, 1, 0, 0, 0) := rfl
theorem f_Me_finallyAround_26 : fetch 25 26 = some (.getfield 18, 3, 2, 7, 19) := rfl
theorem f_Me_finallyAround_29 : fetch 25 29 = some (.iload_n 2, 1, 0, 0, 0) := rfl
theorem f_Me_finallyAround_30 : fetch 25 30 = some (.aaload, 1, 0, 0, 0) := rfl
theorem f_Me_finallyAround_31 : fetch 25 31 = some (.iload_n 1, 1, 0, 0, 0) := rfl
theorem f_Me_finallyAround_32 : fetch 25 32 = some (.invokevirtual 50, 3, 117, 1, 38) := rfl
theorem f_Me_finallyAround_35 : fetch 25 35 = some (.ifCond .eq 21, 3, 56, 0, 0) := rfl
theorem f_Me_finallyAround_38 : fetch 25 38 = some (.aload_n 0, 1, 0, 0, 0) := rfl
theorem f_Me_finallyAround_39 : fetch 25 39 = some (.getfield 18, 3, 2, 7, 19) := rfl
theorem f_Me_finallyAround_42 : fetch 25 42 = some (.iload_n 2, 1, 0, 0, 0) := rfl
theorem f_Me_finallyAround_43 : fetch 25 43 = some (.aaload, 1, 0, 0, 0) := rfl
theorem f_Me_finallyAround_44 : fetch 25 44 = some (.getfield 53, 3, 4, 3, 26) := rfl
theorem f_Me_finallyAround_47 : fetch 25 47 = some (.ifCond .eq 7, 3, 54, 0, 0) := rfl
theorem f_Me_finallyAround_50 : fetch 25 50 = some (.iload_n 2, 1, 0, 0, 0) := rfl
theorem f_Me_finallyAround_51 : fetch 25 51 = some (.goto 4, 3, 55, 0, 0) := rfl
theorem f_Me_finallyAround_54 : fetch 25 54 = some (.iconst (-1), 1, 0, 0, 0) := rfl
theorem f_Me_finallyAround_55 : fetch 25 55 = some (.ireturn, 1, 0, 0, 0) := rfl
theorem f_Me_finallyAround_56 : fetch 25 56 = some (.iinc 2 1, 3, 0, 0, 0) := rfl
theorem f_Me_finallyAround_59 : fetch 25 59 = some (.goto (-57), 3, 2, 0, 0) := rfl
theorem f_Me_finallyAround_62 : fetch 25 62 = some (.iconst (-1), 1, 0, 0, 0) := rfl
theorem f_Me_finallyAround_63 : fetch 25 63 = some (.ireturn, 1, 0, 0, 0) := rfl
def F_Me_finallyAround_55  (y0 : Int32) (σ : SG) : Option (Int32 × SG) :=
  some (y0, σ)
set_option maxHeartbeats 4000000 in
theorem w_Me_finallyAround_55 {b d : Nat} {sc : SC} {pre tl : List PE} {B : Nat} {Q : Option Value → List PE → Prop} {res : Int32 × SG} (hB : B = b + pre.length) (hd : 1 ≤ d)   (hQ : Q (some (.int res.1)) (HH pre tl SHc B res.2)) (lv : LV) (σ : SG) (y0 : Int32)  (hF : F_Me_finallyAround_55  y0 σ = some res) : Rn b sc d 25 55 lv [.int (y0)] (HH pre tl SHc B σ) Q := by
  obtain ⟨e0, rfl⟩ : ∃ e, d = e + 1 := ⟨d - 1, by omega⟩
  unfold F_Me_finallyAround_55 at hF
  cases hF
  exact r_ireturn f_Me_finallyAround_55 hQ
def F_Me_finallyAround_2  : Nat → Nat → Int32 → Int32 → SG → Option (Int32 × SG)
  | 0, _, _, _, _ => none
  | n + 1, x0, x1, x2, σ =>
  if (σ.1 (x0) 3) ≤ x2 then
  some (((-1) : Int32), σ)
  else if x2 < 0 ∨ 3 ≤ (x2).toNatClampNeg then none else
  match F_Rg_keeps ((relem SHc ((cref SHc (x0) 7)) ((x2).toNatClampNeg))) (x1) σ with
  | none => none
  | some q3 =>
  if q3.1 = true then
  some (((-1) : Int32), q3.2)
  else if x2 < 0 ∨ 3 ≤ (x2).toNatClampNeg then none else
  match F_Rg_handles ((relem SHc ((cref SHc (x0) 7)) ((x2).toNatClampNeg))) (x1) q3.2 with
  | none => none
  | some q6 =>
  if q6.1 = true then
  if x2 < 0 ∨ 3 ≤ (x2).toNatClampNeg then none else
  if (zb (q6.2.1 ((relem SHc ((cref SHc (x0) 7)) ((x2).toNatClampNeg))) 3)) = true then
  F_Me_finallyAround_55 (x2) q6.2
  else F_Me_finallyAround_55 (((-1) : Int32)) q6.2
  else F_Me_finallyAround_2  n (x0) (x1) ((x2 + 1)) q6.2
set_option maxHeartbeats 4000000 in
theorem w_Me_finallyAround_2 {b d : Nat} {sc : SC} {pre tl : List PE} {B : Nat} {Q : Option Value → List PE → Prop} {res : Int32 × SG} (hB : B = b + pre.length) (hd : 1 ≤ d)   (hQ : Q (some (.int res.1)) (HH pre tl SHc B res.2)) : ∀ (n : Nat) (lv : LV) (σ : SG) (x0 : Nat) (x1 : Int32) (x2 : Int32), isC SHc (x0) 2 = true → lv.lookup 0 = some (.ref (B + (x0))) → lv.lookup 1 = some (.int (x1)) → lv.lookup 2 = some (.int (x2)) → F_Me_finallyAround_2  n x0 x1 x2 σ = some res → Rn b sc d 25 2 lv [] (HH pre tl SHc B σ) Q := by
  obtain ⟨e0, rfl⟩ : ∃ e, d = e + 1 := ⟨d - 1, by omega⟩
  intro n
  induction n with
  | zero => intro lv σ x0 x1 x2 hx0 l0 l1 l2 hF; cases hF
  | succ n ih =>
    intro lv σ x0 x1 x2 hx0 l0 l1 l2 hF
    unfold F_Me_finallyAround_2 at hF
    refine r_iload_n f_Me_finallyAround_2 l2 ?_
    refine r_aload_n f_Me_finallyAround_3 l0 ?_
    refine t_geti hB hx0 f_Me_finallyAround_4 rfl ?_
    refine r_icmp_ge f_Me_finallyAround_7 (fun c1 => ?_) (fun c1 => ?_)
    · rw [if_pos c1] at hF
      refine r_iconst f_Me_finallyAround_62 (v := (-1)) (by decide) ?_
      cases hF
      exact r_ireturn f_Me_finallyAround_63 hQ
    · rw [if_neg c1] at hF
      refine r_aload_n f_Me_finallyAround_10 l0 ?_
      refine t_getc hB hx0 f_Me_finallyAround_11 rfl ?_
      refine r_iload_n f_Me_finallyAround_14 l2 ?_
      by_cases c2 : x2 < 0 ∨ 3 ≤ (x2).toNatClampNeg
      · rw [if_pos c2] at hF; cases hF
      rw [if_neg c2] at hF
      refine t_aald hB (cc_2_7 hx0) (by decide) f_Me_finallyAround_15 c2 ?_
      refine r_iload_n f_Me_finallyAround_16 l1 ?_
      cases hq3 : F_Rg_keeps ((relem SHc ((cref SHc (x0) 7)) ((x2).toNatClampNeg))) (x1) σ with
      | none => simp only [hq3] at hF; cases hF
      | some q3 =>
        simp only [hq3] at hF
        refine t_V1i hB (re_4 (cc_2_7 hx0) (nlt c2)) rfl rfl f_Me_finallyAround_17 (by decide) (Nat.le_of_ble_eq_true rfl) (Nat.le_of_ble_eq_true rfl) (w_Rg_keeps hB  ((relem SHc ((cref SHc (x0) 7)) ((x2).toNatClampNeg))) (x1) (re_4 (cc_2_7 hx0) (nlt c2)) hq3 ⟨_, rfl, ?_⟩)
        refine r_if_eq f_Me_finallyAround_20 (fun c4 => ?_) (fun c4 => ?_)
        · rw [if_neg (bz_nt c4)] at hF
          refine r_aload_n f_Me_finallyAround_25 l0 ?_
          refine t_getc hB hx0 f_Me_finallyAround_26 rfl ?_
          refine r_iload_n f_Me_finallyAround_29 l2 ?_
          by_cases c5 : x2 < 0 ∨ 3 ≤ (x2).toNatClampNeg
          · rw [if_pos c5] at hF; cases hF
          rw [if_neg c5] at hF
          refine t_aald hB (cc_2_7 hx0) (by decide) f_Me_finallyAround_30 c5 ?_
          refine r_iload_n f_Me_finallyAround_31 l1 ?_
          cases hq6 : F_Rg_handles ((relem SHc ((cref SHc (x0) 7)) ((x2).toNatClampNeg))) (x1) q3.2 with
          | none => simp only [hq6] at hF; cases hF
          | some q6 =>
            simp only [hq6] at hF
            refine t_V1i hB (re_4 (cc_2_7 hx0) (nlt c5)) rfl rfl f_Me_finallyAround_32 (by decide) (Nat.le_of_ble_eq_true rfl) (Nat.le_of_ble_eq_true rfl) (w_Rg_handles hB  ((relem SHc ((cref SHc (x0) 7)) ((x2).toNatClampNeg))) (x1) (re_4 (cc_2_7 hx0) (nlt c5)) hq6 ⟨_, rfl, ?_⟩)
            refine r_if_eq f_Me_finallyAround_35 (fun c7 => ?_) (fun c7 => ?_)
            · rw [if_neg (bz_nt c7)] at hF
              refine r_iinc f_Me_finallyAround_56 l2 (w := x2 + 1) rfl ?_
              refine r_goto f_Me_finallyAround_59 ?_
              exact ih _ (q6.2) (x0) (x1) ((x2 + 1)) hx0 (lk_put_ne l0 (by decide) (Or.inl rfl)) (lk_put_ne l1 (by decide) (Or.inl rfl)) lk_put hF
            · rw [if_pos (bz_t c7)] at hF
              refine r_aload_n f_Me_finallyAround_38 l0 ?_
              refine t_getc hB hx0 f_Me_finallyAround_39 rfl ?_
              refine r_iload_n f_Me_finallyAround_42 l2 ?_
              by_cases c8 : x2 < 0 ∨ 3 ≤ (x2).toNatClampNeg
              · rw [if_pos c8] at hF; cases hF
              rw [if_neg c8] at hF
              refine t_aald hB (cc_2_7 hx0) (by decide) f_Me_finallyAround_43 c8 ?_
              refine t_getz hB (re_4 (cc_2_7 hx0) (nlt c8)) f_Me_finallyAround_44 rfl ?_
              refine r_if_eq f_Me_finallyAround_47 (fun c9 => ?_) (fun c9 => ?_)
              · rw [if_neg (bz_nt c9)] at hF
                refine r_iconst f_Me_finallyAround_54 (v := (-1)) (by decide) ?_
                exact w_Me_finallyAround_55 hB hd  hQ _ (q6.2) (((-1) : Int32)) hF
              · rw [if_pos (bz_t c9)] at hF
                refine r_iload_n f_Me_finallyAround_50 l2 ?_
                refine r_goto f_Me_finallyAround_51 ?_
                exact w_Me_finallyAround_55 hB hd  hQ _ (q6.2) (x2) hF
        · rw [if_pos (bz_t c4)] at hF
          refine r_iconst f_Me_finallyAround_23 (v := (-1)) (by decide) ?_
          cases hF
          exact r_ireturn f_Me_finallyAround_24 hQ
def F_Me_finallyAround (a0 : Nat) (a1 : Int32) (σ : SG) : Option (Int32 × SG) :=
  F_Me_finallyAround_2  5000 (a0) (a1) ((0 : Int32)) σ
set_option maxHeartbeats 4000000 in
theorem w_Me_finallyAround {b d : Nat} {pre tl : List PE} {B : Nat} {Q : Option Value → List PE → Prop} {res : Int32 × SG} (hB : B = b + pre.length) (hd : 1 ≤ d)  {σ : SG} (a0 : Nat) (a1 : Int32) (ha0 : isC SHc (a0) 2 = true) (hF : F_Me_finallyAround a0 a1 σ = some res) (hQ : Q (some (.int res.1)) (HH pre tl SHc B res.2)) : Cl b d 25 [.ref (B + (a0)), .int (a1)] (HH pre tl SHc B σ) Q := by
  obtain ⟨e0, rfl⟩ : ∃ e, d = e + 1 := ⟨d - 1, by omega⟩
  unfold Cl
  unfold F_Me_finallyAround at hF
  refine r_iconst f_Me_finallyAround_0 (v := 0) (by decide) ?_
  refine r_istore_n f_Me_finallyAround_1 ?_
  exact w_Me_finallyAround_2 hB hd  hQ 5000 _ (σ) (a0) (a1) ((0 : Int32)) ha0 (lk_put_ne rfl (by decide) (Or.inl rfl)) (lk_put_ne rfl (by decide) (Or.inl rfl)) lk_put hF
theorem f_Me_takesNumbersAlone_0 : fetch 26 0 = some (.iconst 0, 1, 0, 0, 0) := rfl
theorem f_Me_takesNumbersAlone_1 : fetch 26 1 = some (.istore_n 1, 1, 0, 0, 0) := rfl
theorem f_Me_takesNumbersAlone_2 : fetch 26 2 = some (.iload_n 1, 1, 0, 0, 0) := rfl
theorem f_Me_takesNumbersAlone_3 : fetch 26 3 = some (.aload_n 0, 1, 0, 0, 0) := rfl
theorem f_Me_takesNumbersAlone_4 : fetch 26 4 = some (.getfield 29, 3, 2, 1, 24) := rfl
theorem f_Me_takesNumbersAlone_7 : fetch 26 7 = some (.if_icmp .ge 21, 3, 28, 0, 0) := rfl
theorem f_Me_takesNumbersAlone_10 : fetch 26 10 = some (.aload_n 0, 1, 0, 0, 0) := rfl
theorem f_Me_takesNumbersAlone_11 : fetch 26 11 = some (.getfield 9, 3, 2, 5, 17) := rfl
theorem f_Me_takesNumbersAlone_14 : fetch 26 14 = some (.iload_n 1, 1, 0, 0, 0) := rfl
theorem f_Me_takesNumbersAlone_15 : fetch 26 15 = some (.iaload, 1, 0, 0, 0) := rfl
theorem f_Me_takesNumbersAlone_16 : fetch 26 16 = some (.iconst 1, 1, 0, 0, 0) := rfl
theorem f_Me_takesNumbersAlone_17 : fetch 26 17 = some (.if_icmp .eq 5, 3, 22, 0, 0) := rfl
theorem f_Me_takesNumbersAlone_20 : fetch 26 20 = some (.iconst 0, 1, 0, 0, 0) := rfl
theorem f_Me_takesNumbersAlone_21 : fetch 26 21 = some (.ireturn, 1, 2, 0, 0) := rfl
theorem f_Me_takesNumbersAlone_22 : fetch 26 22 = some (.iinc 1 1, 3, 0, 0, 0) := rfl
theorem f_Me_takesNumbersAlone_25 : fetch 26 25 = some (.goto (-23), 3, 2, 0, 0) := rfl
theorem f_Me_takesNumbersAlone_28 : fetch 26 28 = some (.iconst 1, 1, 0, 0, 0) := rfl
theorem f_Me_takesNumbersAlone_29 : fetch 26 29 = some (.ireturn, 1, 2, 0, 0) := rfl
def F_Me_takesNumbersAlone_2  : Nat → Nat → Int32 → SG → Option (Bool × SG)
  | 0, _, _, _ => none
  | n + 1, x0, x1, σ =>
  if (σ.1 (x0) 1) ≤ x1 then
  some (true, σ)
  else if x1 < 0 ∨ 3 ≤ (x1).toNatClampNeg then none else
  if (σ.2.2.2.1 ((cref SHc (x0) 5)) ((x1).toNatClampNeg)) = (1 : Int32) then
  F_Me_takesNumbersAlone_2  n (x0) ((x1 + 1)) σ
  else some (false, σ)
set_option maxHeartbeats 4000000 in
theorem w_Me_takesNumbersAlone_2 {b d : Nat} {sc : SC} {pre tl : List PE} {B : Nat} {Q : Option Value → List PE → Prop} {res : Bool × SG} (hB : B = b + pre.length)   (hQ : Q (some (.int (bz res.1))) (HH pre tl SHc B res.2)) : ∀ (n : Nat) (lv : LV) (σ : SG) (x0 : Nat) (x1 : Int32), isC SHc (x0) 2 = true → lv.lookup 0 = some (.ref (B + (x0))) → lv.lookup 1 = some (.int (x1)) → F_Me_takesNumbersAlone_2  n x0 x1 σ = some res → Rn b sc d 26 2 lv [] (HH pre tl SHc B σ) Q := by
  intro n
  induction n with
  | zero => intro lv σ x0 x1 hx0 l0 l1 hF; cases hF
  | succ n ih =>
    intro lv σ x0 x1 hx0 l0 l1 hF
    unfold F_Me_takesNumbersAlone_2 at hF
    refine r_iload_n f_Me_takesNumbersAlone_2 l1 ?_
    refine r_aload_n f_Me_takesNumbersAlone_3 l0 ?_
    refine t_geti hB hx0 f_Me_takesNumbersAlone_4 rfl ?_
    refine r_icmp_ge f_Me_takesNumbersAlone_7 (fun c1 => ?_) (fun c1 => ?_)
    · rw [if_pos c1] at hF
      refine r_iconst f_Me_takesNumbersAlone_28 (v := 1) (by decide) ?_
      cases hF
      exact r_zreturn f_Me_takesNumbersAlone_29 (bz_or (true)) hQ
    · rw [if_neg c1] at hF
      refine r_aload_n f_Me_takesNumbersAlone_10 l0 ?_
      refine t_getc hB hx0 f_Me_takesNumbersAlone_11 rfl ?_
      refine r_iload_n f_Me_takesNumbersAlone_14 l1 ?_
      by_cases c2 : x1 < 0 ∨ 3 ≤ (x1).toNatClampNeg
      · rw [if_pos c2] at hF; cases hF
      rw [if_neg c2] at hF
      refine t_iald hB (cc_2_5 hx0) f_Me_takesNumbersAlone_15 c2 ?_
      refine r_iconst f_Me_takesNumbersAlone_16 (v := 1) (by decide) ?_
      refine r_icmp_eq f_Me_takesNumbersAlone_17 (fun c3 => ?_) (fun c3 => ?_)
      · rw [if_pos c3] at hF
        refine r_iinc f_Me_takesNumbersAlone_22 l1 (w := x1 + 1) rfl ?_
        refine r_goto f_Me_takesNumbersAlone_25 ?_
        exact ih _ (σ) (x0) ((x1 + 1)) hx0 (lk_put_ne l0 (by decide) (Or.inl rfl)) lk_put hF
      · rw [if_neg c3] at hF
        refine r_iconst f_Me_takesNumbersAlone_20 (v := 0) (by decide) ?_
        cases hF
        exact r_zreturn f_Me_takesNumbersAlone_21 (bz_or (false)) hQ
def F_Me_takesNumbersAlone (a0 : Nat) (σ : SG) : Option (Bool × SG) :=
  F_Me_takesNumbersAlone_2  5000 (a0) ((0 : Int32)) σ
set_option maxHeartbeats 4000000 in
theorem w_Me_takesNumbersAlone {b d : Nat} {pre tl : List PE} {B : Nat} {Q : Option Value → List PE → Prop} {res : Bool × SG} (hB : B = b + pre.length)  {σ : SG} (a0 : Nat) (ha0 : isC SHc (a0) 2 = true) (hF : F_Me_takesNumbersAlone a0 σ = some res) (hQ : Q (some (.int (bz res.1))) (HH pre tl SHc B res.2)) : Cl b d 26 [.ref (B + (a0))] (HH pre tl SHc B σ) Q := by
  unfold Cl
  unfold F_Me_takesNumbersAlone at hF
  refine r_iconst f_Me_takesNumbersAlone_0 (v := 0) (by decide) ?_
  refine r_istore_n f_Me_takesNumbersAlone_1 ?_
  exact w_Me_takesNumbersAlone_2 hB   hQ 5000 _ (σ) (a0) ((0 : Int32)) ha0 (lk_put_ne rfl (by decide) (Or.inl rfl)) lk_put hF
