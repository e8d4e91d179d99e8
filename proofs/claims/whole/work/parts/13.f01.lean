theorem f_Mo_draft_0 : fetch 28 0 = some (.iload_n 3, 1, 0, 0, 0) := rfl
theorem f_Mo_draft_1 : fetch 28 1 = some (.iconst 1, 1, 0, 0, 0) := rfl
theorem f_Mo_draft_2 : fetch 28 2 = some (.if_icmp .lt 21, 3, 23, 0, 0) := rfl
theorem f_Mo_draft_5 : fetch 28 5 = some (.iload_n 3, 1, 0, 0, 0) := rfl
theorem f_Mo_draft_6 : fetch 28 6 = some (.bipush 8, 2, 0, 0, 0) := rfl
theorem f_Mo_draft_8 : fetch 28 8 = some (.if_icmp .gt 15, 3, 23, 0, 0) := rfl
theorem f_Mo_draft_11 : fetch 28 11 = some (.aload_n 0, 1, 0, 0, 0) := rfl
theorem f_Mo_draft_12 : fetch 28 12 = some (.getfield 108, 3, 8, 0, 59) := rfl
theorem f_Mo_draft_15 : fetch 28 15 = some (.iload_n 3, 1, 0, 0, 0) := rfl
theorem f_Mo_draft_16 : fetch 28 16 = some (.iadd, 1, 0, 0, 0) := rfl
theorem f_Mo_draft_17 : fetch 28 17 = some (.sipush 400, 3, 0, 0, 0) := rfl
theorem f_Mo_draft_20 : fetch 28 20 = some (.if_icmp .le 5, 3, 25, 0, 0) := rfl
theorem f_Mo_draft_23 : fetch 28 23 = some (.iconst 0, 1, 0, 0, 0) := rfl
theorem f_Mo_draft_24 : fetch 28 24 = some (.ireturn, 1, 2, 0, 0) := rfl
theorem f_Mo_draft_25 : fetch 28 25 = some (.iconst 0, 1, 0, 0, 0) := rfl
theorem f_Mo_draft_26 : fetch 28 26 = some (.istore 4, 2, 0, 0, 0) := rfl
theorem f_Mo_draft_28 : fetch 28 28 = some (.iload 4, 2, 0, 0, 0) := rfl
theorem f_Mo_draft_30 : fetch 28 30 = some (.iload_n 3, 1, 0, 0, 0) := rfl
theorem f_Mo_draft_31 : fetch 28 31 = some (.if_icmp .ge 33, 3, 64, 0, 0) := rfl
theorem f_Mo_draft_34 : fetch 28 34 = some (.aload_n 0, 1, 0, 0, 0) := rfl
theorem f_Mo_draft_35 : fetch 28 35 = some (.getfield 7, 3, 8, 1, 27) := rfl
theorem f_Mo_draft_38 : fetch 28 38 = some (.aload_n 0, 1, 0, 0, 0) := rfl
theorem f_Mo_draft_39 : fetch 28 39 = some (.getfield 108, 3, 8, 0, 59) := rfl
theorem f_Mo_draft_42 : fetch 28 42 = some (.iload 4, 2, 0, 0, 0) := rfl
theorem f_Mo_draft_44 : fetch 28 44 = some (.iadd, 1, 0, 0, 0) := rfl
theorem f_Mo_draft_45 : fetch 28 45 = some (.lload_n 1, 1, 0, 0, 0) := rfl
theorem f_Mo_draft_46 : fetch 28 46 = some (.bipush 8, 2, 0, 0, 0) := rfl
theorem f_Mo_draft_48 : fetch 28 48 = some (.iload 4, 2, 0, 0, 0) := rfl
theorem f_Mo_draft_50 : fetch 28 50 = some (.imul, 1, 0, 0, 0) := rfl
theorem f_Mo_draft_51 : fetch 28 51 = some (.lushr, 1, 0, 0, 0) := rfl
theorem f_Mo_draft_52 : fetch 28 52 = some (.ldc2_w 112, 3, 255, 0, 1) := rfl
theorem f_Mo_draft_55 : fetch 28 55 = some (.land, 1, 0, 0, 0) := rfl
theorem f_Mo_draft_56 : fetch 28 56 = some (.l2i, 1, 0, 0, 0) := rfl
theorem f_Mo_draft_57 : fetch 28 57 = some (.iastore, 1, 0, 0, 0) := rfl
theorem f_Mo_draft_58 : fetch 28 58 = some (.iinc 4 1, 3, 0, 0, 0) := rfl
theorem f_Mo_draft_61 : fetch 28 61 = some (.goto (-33), 3, 28, 0, 0) := rfl
theorem f_Mo_draft_64 : fetch 28 64 = some (.aload_n 0, 1, 0, 0, 0) := rfl
theorem f_Mo_draft_65 : fetch 28 65 = some (.dup, 1, 0, 0, 0) := rfl
theorem f_Mo_draft_66 : fetch 28 66 = some (.getfield 108, 3, 8, 0, 59) := rfl
theorem f_Mo_draft_69 : fetch 28 69 = some (.iload_n 3, 1, 0, 0, 0) := rfl
theorem f_Mo_draft_70 : fetch 28 70 = some (.iadd, 1, 0, 0, 0) := rfl
theorem f_Mo_draft_71 : fetch 28 71 = some (.putfield 108, 3, 8, 0, 59) := rfl
theorem f_Mo_draft_74 : fetch 28 74 = some (.iconst 1, 1, 0, 0, 0) := rfl
theorem f_Mo_draft_75 : fetch 28 75 = some (.ireturn, 1, 2, 0, 0) := rfl
def F_Mo_draft_28  : Nat → Nat → Int64 → Int32 → Int32 → SG → Option (Bool × SG)
  | 0, _, _, _, _, _ => none
  | n + 1, x0, x1, x3, x4, σ =>
  if x3 ≤ x4 then
  stl (setI σ (x0) 0 (((σ.1 (x0) 0) + x3))) fun s2 =>
  some (true, s2)
  else if ((σ.1 (x0) 0) + x4) < 0 ∨ 400 ≤ (((σ.1 (x0) 0) + x4)).toNatClampNeg then none else
  stl (setA σ ((cref SHm (x0) 1)) ((((σ.1 (x0) 0) + x4)).toNatClampNeg) (((((((x1).toUInt64 >>> ((((8 : Int32) * x4)).toInt64.toUInt64 &&& Int64.toUInt64 63)).toInt64) &&& (255 : Int64)) : Int64).toInt32))) fun s4 =>
  F_Mo_draft_28  n (x0) (x1) (x3) ((x4 + 1)) s4
set_option maxHeartbeats 4000000 in
theorem w_Mo_draft_28 {b d : Nat} {sc : SC} {pre tl : List PE} {B : Nat} {Q : Option Value → List PE → Prop} {res : Bool × SG} (hB : B = b + pre.length)   (hQ : Q (some (.int (bz res.1))) (HH pre tl SHm B res.2)) : ∀ (n : Nat) (lv : LV) (σ : SG) (x0 : Nat) (x1 : Int64) (x3 : Int32) (x4 : Int32), isC SHm (x0) 8 = true → lv.lookup 0 = some (.ref (B + (x0))) → lv.lookup 1 = some (.long (x1)) → lv.lookup 3 = some (.int (x3)) → lv.lookup 4 = some (.int (x4)) → F_Mo_draft_28  n x0 x1 x3 x4 σ = some res → Rn b sc d 28 28 lv [] (HH pre tl SHm B σ) Q := by
  intro n
  induction n with
  | zero => intro lv σ x0 x1 x3 x4 hx0 l0 l1 l3 l4 hF; cases hF
  | succ n ih =>
    intro lv σ x0 x1 x3 x4 hx0 l0 l1 l3 l4 hF
    unfold F_Mo_draft_28 at hF
    refine r_iload f_Mo_draft_28 l4 ?_
    refine r_iload_n f_Mo_draft_30 l3 ?_
    refine r_icmp_ge f_Mo_draft_31 (fun c1 => ?_) (fun c1 => ?_)
    · rw [if_pos c1] at hF
      refine r_aload_n f_Mo_draft_64 l0 ?_
      refine r_dup f_Mo_draft_65 rfl ?_
      refine t_geti hB hx0 f_Mo_draft_66 rfl ?_
      refine r_iload_n f_Mo_draft_69 l3 ?_
      refine r_iadd f_Mo_draft_70 ?_
      refine t_puti hB hx0 f_Mo_draft_71 rfl rfl ?_
      generalize hs2 : setI σ (x0) 0 (((σ.1 (x0) 0) + x3)) = s2 at hF ⊢
      rw [stl_eq] at hF
      refine r_iconst f_Mo_draft_74 (v := 1) (by decide) ?_
      cases hF
      exact r_zreturn f_Mo_draft_75 (bz_or (true)) hQ
    · rw [if_neg c1] at hF
      refine r_aload_n f_Mo_draft_34 l0 ?_
      refine t_getc hB hx0 f_Mo_draft_35 rfl ?_
      refine r_aload_n f_Mo_draft_38 l0 ?_
      refine t_geti hB hx0 f_Mo_draft_39 rfl ?_
      refine r_iload f_Mo_draft_42 l4 ?_
      refine r_iadd f_Mo_draft_44 ?_
      refine r_lload_n f_Mo_draft_45 l1 ?_
      refine r_bipush f_Mo_draft_46 (v := 8) (by decide) ?_
      refine r_iload f_Mo_draft_48 l4 ?_
      refine r_imul f_Mo_draft_50 ?_
      refine r_lushr f_Mo_draft_51 ?_
      refine r_ldc2 f_Mo_draft_52 (v := 255) (by decide) ?_
      refine r_land f_Mo_draft_55 ?_
      refine r_l2i f_Mo_draft_56 ?_
      by_cases c3 : ((σ.1 (x0) 0) + x4) < 0 ∨ 400 ≤ (((σ.1 (x0) 0) + x4)).toNatClampNeg
      · rw [if_pos c3] at hF; cases hF
      rw [if_neg c3] at hF
      refine t_iast hB (cc_8_1 hx0) f_Mo_draft_57 c3 ?_
      generalize hs4 : setA σ ((cref SHm (x0) 1)) ((((σ.1 (x0) 0) + x4)).toNatClampNeg) (((((((x1).toUInt64 >>> ((((8 : Int32) * x4)).toInt64.toUInt64 &&& Int64.toUInt64 63)).toInt64) &&& (255 : Int64)) : Int64).toInt32)) = s4 at hF ⊢
      rw [stl_eq] at hF
      refine r_iinc f_Mo_draft_58 l4 (w := x4 + 1) rfl ?_
      refine r_goto f_Mo_draft_61 ?_
      exact ih _ (s4) (x0) (x1) (x3) ((x4 + 1)) hx0 (lk_put_ne l0 (by decide) (Or.inl rfl)) (lk_put_ne l1 (by decide) (Or.inr (by decide))) (lk_put_ne l3 (by decide) (Or.inl rfl)) lk_put hF
def F_Mo_draft_23   (σ : SG) : Option (Bool × SG) :=
  some (false, σ)
set_option maxHeartbeats 4000000 in
theorem w_Mo_draft_23 {b d : Nat} {sc : SC} {pre tl : List PE} {B : Nat} {Q : Option Value → List PE → Prop} {res : Bool × SG} (hB : B = b + pre.length)   (hQ : Q (some (.int (bz res.1))) (HH pre tl SHm B res.2)) (lv : LV) (σ : SG)   (hF : F_Mo_draft_23   σ = some res) : Rn b sc d 28 23 lv [] (HH pre tl SHm B σ) Q := by
  unfold F_Mo_draft_23 at hF
  refine r_iconst f_Mo_draft_23 (v := 0) (by decide) ?_
  cases hF
  exact r_zreturn f_Mo_draft_24 (bz_or (false)) hQ
def F_Mo_draft (a0 : Nat) (a1 : Int64) (a2 : Int32) (σ : SG) : Option (Bool × SG) :=
  if a2 < (1 : Int32) then
  F_Mo_draft_23 σ
  else if (8 : Int32) < a2 then
  F_Mo_draft_23 σ
  else if ((σ.1 (a0) 0) + a2) ≤ (400 : Int32) then
  F_Mo_draft_28  5000 (a0) (a1) (a2) ((0 : Int32)) σ
  else F_Mo_draft_23 σ
set_option maxHeartbeats 4000000 in
theorem w_Mo_draft {b d : Nat} {pre tl : List PE} {B : Nat} {Q : Option Value → List PE → Prop} {res : Bool × SG} (hB : B = b + pre.length)  {σ : SG} (a0 : Nat) (a1 : Int64) (a2 : Int32) (ha0 : isC SHm (a0) 8 = true) (hF : F_Mo_draft a0 a1 a2 σ = some res) (hQ : Q (some (.int (bz res.1))) (HH pre tl SHm B res.2)) : Cl b d 28 [.ref (B + (a0)), .long (a1), .int (a2)] (HH pre tl SHm B σ) Q := by
  unfold Cl
  unfold F_Mo_draft at hF
  refine r_iload_n f_Mo_draft_0 rfl ?_
  refine r_iconst f_Mo_draft_1 (v := 1) (by decide) ?_
  refine r_icmp_lt f_Mo_draft_2 (fun c5 => ?_) (fun c5 => ?_)
  · rw [if_pos c5] at hF
    exact w_Mo_draft_23 hB   hQ _ (σ) hF
  · rw [if_neg c5] at hF
    refine r_iload_n f_Mo_draft_5 rfl ?_
    refine r_bipush f_Mo_draft_6 (v := 8) (by decide) ?_
    refine r_icmp_gt f_Mo_draft_8 (fun c6 => ?_) (fun c6 => ?_)
    · rw [if_pos c6] at hF
      exact w_Mo_draft_23 hB   hQ _ (σ) hF
    · rw [if_neg c6] at hF
      refine r_aload_n f_Mo_draft_11 rfl ?_
      refine t_geti hB ha0 f_Mo_draft_12 rfl ?_
      refine r_iload_n f_Mo_draft_15 rfl ?_
      refine r_iadd f_Mo_draft_16 ?_
      refine r_sipush f_Mo_draft_17 (v := 400) (by decide) ?_
      refine r_icmp_le f_Mo_draft_20 (fun c7 => ?_) (fun c7 => ?_)
      · rw [if_pos c7] at hF
        refine r_iconst f_Mo_draft_25 (v := 0) (by decide) ?_
        refine r_istore f_Mo_draft_26 ?_
        exact w_Mo_draft_28 hB   hQ 5000 _ (σ) (a0) (a1) (a2) ((0 : Int32)) ha0 (lk_put_ne rfl (by decide) (Or.inl rfl)) (lk_put_ne rfl (by decide) (Or.inr (by decide))) (lk_put_ne rfl (by decide) (Or.inl rfl)) lk_put hF
      · rw [if_neg c7] at hF
        exact w_Mo_draft_23 hB   hQ _ (σ) hF
theorem f_Mo_clear_0 : fetch 29 0 = some (.aload_n 0, 1, 0, 0, 0) := rfl
theorem f_Mo_clear_1 : fetch 29 1 = some (.iconst 0, 1, 0, 0, 0) := rfl
theorem f_Mo_clear_2 : fetch 29 2 = some (.putfield 108, 3, 8, 0, 59) := rfl
theorem f_Mo_clear_5 : fetch 29 5 = some (.return_, 1, 0, 0, 0) := rfl
def F_Mo_clear (a0 : Nat) (σ : SG) : Option (SG) :=
  stl (setI σ (a0) 0 ((0 : Int32))) fun s1 =>
  some s1
set_option maxHeartbeats 4000000 in
theorem w_Mo_clear {b d : Nat} {pre tl : List PE} {B : Nat} {Q : Option Value → List PE → Prop} {res : SG} (hB : B = b + pre.length)  {σ : SG} (a0 : Nat) (ha0 : isC SHm (a0) 8 = true) (hF : F_Mo_clear a0 σ = some res) (hQ : Q none (HH pre tl SHm B res)) : Cl b d 29 [.ref (B + (a0))] (HH pre tl SHm B σ) Q := by
  unfold Cl
  unfold F_Mo_clear at hF
  refine r_aload_n f_Mo_clear_0 rfl ?_
  refine r_iconst f_Mo_clear_1 (v := 0) (by decide) ?_
  refine t_puti hB ha0 f_Mo_clear_2 rfl rfl ?_
  generalize hs1 : setI σ (a0) 0 ((0 : Int32)) = s1 at hF ⊢
  rw [stl_eq] at hF
  cases hF
  exact r_return f_Mo_clear_5 hQ
theorem f_Mo_next_0 : fetch 32 0 = some (.aload_n 0, 1, 0, 0, 0) := rfl
theorem f_Mo_next_1 : fetch 32 1 = some (.aload_n 0, 1, 0, 0, 0) := rfl
theorem f_Mo_next_2 : fetch 32 2 = some (.getfield 114, 3, 8, 3, 60) := rfl
theorem f_Mo_next_5 : fetch 32 5 = some (.ifCond .ne 14, 3, 19, 0, 0) := rfl
theorem f_Mo_next_8 : fetch 32 8 = some (.aload_n 0, 1, 0, 0, 0) := rfl
theorem f_Mo_next_9 : fetch 32 9 = some (.getfield 118, 3, 8, 2, 63) := rfl
theorem f_Mo_next_12 : fetch 32 12 = some (.aload_n 0, 1, 0, 0, 0) := rfl
theorem f_Mo_next_13 : fetch 32 13 = some (.getfield 108, 3, 8, 0, 59) := rfl
theorem f_Mo_next_16 : fetch 32 16 = some (.if_icmp .lt 7, 3, 23, 0, 0) := rfl
theorem f_Mo_next_19 : fetch 32 19 = some (.iconst 1, 1, 0, 0, 0) := rfl
theorem f_Mo_next_20 : fetch 32 20 = some (.goto 4, 3, 24, 0, 0) := rfl
theorem f_Mo_next_23 : fetch 32 23 = some (.iconst 0, 1, 0, 0, 0) := rfl
theorem f_Mo_next_24 : fetch 32 24 = some (.putfield 114, 3, 8, 3, 60) := rfl
theorem f_Mo_next_27 : fetch 32 27 = some (.aload_n 0, 1, 0, 0, 0) := rfl
theorem f_Mo_next_28 : fetch 32 28 = some (.dup, 1, 0, 0, 0) := rfl
theorem f_Mo_next_29 : fetch 32 29 = some (.getfield 118, 3, 8, 2, 63) := rfl
theorem f_Mo_next_32 : fetch 32 32 = some (.iconst 1, 1, 0, 0, 0) := rfl
theorem f_Mo_next_33 : fetch 32 33 = some (.iadd, 1, 0, 0, 0) := rfl
theorem f_Mo_next_34 : fetch 32 34 = some (.putfield 118, 3, 8, 2, 63) := rfl
theorem f_Mo_next_37 : fetch 32 37 = some (.aload_n 0, 1, 0, 0, 0) := rfl
theorem f_Mo_next_38 : fetch 32 38 = some (.getfield 114, 3, 8, 3, 60) := rfl
theorem f_Mo_next_41 : fetch 32 41 = some (.ifCond .eq 7, 3, 48, 0, 0) := rfl
theorem f_Mo_next_44 : fetch 32 44 = some (.iconst 0, 1, 0, 0, 0) := rfl
theorem f_Mo_next_45 : fetch 32 45 = some (.goto 14, 3, 59, 0, 0) := rfl
theorem f_Mo_next_48 : fetch 32 48 = some (.aload_n 0, 1, 0, 0, 0) := rfl
theorem f_Mo_next_49 : fetch 32 49 = some (.getfield 7, 3, 8, 1, 27) := rfl
theorem f_Mo_next_52 : fetch 32 52 = some (.aload_n 0, 1, 0, 0, 0) := rfl
theorem f_Mo_next_53 : fetch 32 53 = some (.getfield 118, 3, 8, 2, 63) := rfl
theorem f_Mo_next_56 : fetch 32 56 = some (.iconst 1, 1, 0, 0, 0) := rfl
theorem f_Mo_next_57 : fetch 32 57 = some (.isub, 1, 0, 0, 0) := rfl
theorem f_Mo_next_58 : fetch 32 58 = some (.iaload, 1, 0, 0, 0) := rfl
theorem f_Mo_next_59 : fetch 32 59 = some (.ireturn, 1, 0, 0, 0) := rfl
def F_Mo_next_59  (y0 : Int32) (σ : SG) : Option (Int32 × SG) :=
  some (y0, σ)
set_option maxHeartbeats 4000000 in
theorem w_Mo_next_59 {b d : Nat} {sc : SC} {pre tl : List PE} {B : Nat} {Q : Option Value → List PE → Prop} {res : Int32 × SG} (hB : B = b + pre.length)   (hQ : Q (some (.int res.1)) (HH pre tl SHm B res.2)) (lv : LV) (σ : SG) (y0 : Int32)  (hF : F_Mo_next_59  y0 σ = some res) : Rn b sc d 32 59 lv [.int (y0)] (HH pre tl SHm B σ) Q := by
  unfold F_Mo_next_59 at hF
  cases hF
  exact r_ireturn f_Mo_next_59 hQ
def F_Mo_next_24  (x0 : Nat) (y0 : Nat) (y1 : Bool) (σ : SG) : Option (Int32 × SG) :=
  stl (setI σ (y0) 3 (bz (y1))) fun s1 =>
  stl (setI s1 (x0) 2 (((s1.1 (x0) 2) + (1 : Int32)))) fun s2 =>
  if (zb (s2.1 (x0) 3)) = true then
  F_Mo_next_59 ((0 : Int32)) s2
  else if ((s2.1 (x0) 2) - (1 : Int32)) < 0 ∨ 400 ≤ (((s2.1 (x0) 2) - (1 : Int32))).toNatClampNeg then none else
  F_Mo_next_59 ((s2.2.2.2.1 ((cref SHm (x0) 1)) ((((s2.1 (x0) 2) - (1 : Int32))).toNatClampNeg))) s2
set_option maxHeartbeats 4000000 in
theorem w_Mo_next_24 {b d : Nat} {sc : SC} {pre tl : List PE} {B : Nat} {Q : Option Value → List PE → Prop} {res : Int32 × SG} (hB : B = b + pre.length)   (hQ : Q (some (.int res.1)) (HH pre tl SHm B res.2)) (lv : LV) (σ : SG) (x0 : Nat) (y0 : Nat) (y1 : Bool) (hx0 : isC SHm (x0) 8 = true) (hy0 : isC SHm (y0) 8 = true) (l0 : lv.lookup 0 = some (.ref (B + (x0)))) (hF : F_Mo_next_24  x0 y0 y1 σ = some res) : Rn b sc d 32 24 lv [.int (bz (y1)), .ref (B + (y0))] (HH pre tl SHm B σ) Q := by
  unfold F_Mo_next_24 at hF
  refine t_putz (v := y1) hB hy0 f_Mo_next_24 rfl rfl ?_
  generalize hs1 : setI σ (y0) 3 (bz (y1)) = s1 at hF ⊢
  rw [stl_eq] at hF
  refine r_aload_n f_Mo_next_27 l0 ?_
  refine r_dup f_Mo_next_28 rfl ?_
  refine t_geti hB hx0 f_Mo_next_29 rfl ?_
  refine r_iconst f_Mo_next_32 (v := 1) (by decide) ?_
  refine r_iadd f_Mo_next_33 ?_
  refine t_puti hB hx0 f_Mo_next_34 rfl rfl ?_
  generalize hs2 : setI s1 (x0) 2 (((s1.1 (x0) 2) + (1 : Int32))) = s2 at hF ⊢
  rw [stl_eq] at hF
  refine r_aload_n f_Mo_next_37 l0 ?_
  refine t_getz hB hx0 f_Mo_next_38 rfl ?_
  refine r_if_eq f_Mo_next_41 (fun c3 => ?_) (fun c3 => ?_)
  · rw [if_neg (bz_nt c3)] at hF
    refine r_aload_n f_Mo_next_48 l0 ?_
    refine t_getc hB hx0 f_Mo_next_49 rfl ?_
    refine r_aload_n f_Mo_next_52 l0 ?_
    refine t_geti hB hx0 f_Mo_next_53 rfl ?_
    refine r_iconst f_Mo_next_56 (v := 1) (by decide) ?_
    refine r_isub f_Mo_next_57 ?_
    by_cases c4 : ((s2.1 (x0) 2) - (1 : Int32)) < 0 ∨ 400 ≤ (((s2.1 (x0) 2) - (1 : Int32))).toNatClampNeg
    · rw [if_pos c4] at hF; cases hF
    rw [if_neg c4] at hF
    refine t_iald hB (cc_8_1 hx0) f_Mo_next_58 c4 ?_
    exact w_Mo_next_59 hB   hQ _ (s2) ((s2.2.2.2.1 ((cref SHm (x0) 1)) ((((s2.1 (x0) 2) - (1 : Int32))).toNatClampNeg))) hF
  · rw [if_pos (bz_t c3)] at hF
    refine r_iconst f_Mo_next_44 (v := 0) (by decide) ?_
    refine r_goto f_Mo_next_45 ?_
    exact w_Mo_next_59 hB   hQ _ (s2) ((0 : Int32)) hF
def F_Mo_next_19  (x0 : Nat) (y0 : Nat) (σ : SG) : Option (Int32 × SG) :=
  F_Mo_next_24 (x0) (y0) (true) σ
set_option maxHeartbeats 4000000 in
theorem w_Mo_next_19 {b d : Nat} {sc : SC} {pre tl : List PE} {B : Nat} {Q : Option Value → List PE → Prop} {res : Int32 × SG} (hB : B = b + pre.length)   (hQ : Q (some (.int res.1)) (HH pre tl SHm B res.2)) (lv : LV) (σ : SG) (x0 : Nat) (y0 : Nat) (hx0 : isC SHm (x0) 8 = true) (hy0 : isC SHm (y0) 8 = true) (l0 : lv.lookup 0 = some (.ref (B + (x0)))) (hF : F_Mo_next_19  x0 y0 σ = some res) : Rn b sc d 32 19 lv [.ref (B + (y0))] (HH pre tl SHm B σ) Q := by
  unfold F_Mo_next_19 at hF
  refine r_iconst f_Mo_next_19 (v := 1) (by decide) ?_
  refine r_goto f_Mo_next_20 ?_
  exact w_Mo_next_24 hB   hQ _ (σ) (x0) (y0) (true) hx0 hy0 l0 hF
def F_Mo_next (a0 : Nat) (σ : SG) : Option (Int32 × SG) :=
  if (zb (σ.1 (a0) 3)) = true then
  F_Mo_next_19 (a0) (a0) σ
  else if (σ.1 (a0) 2) < (σ.1 (a0) 0) then
  F_Mo_next_24 (a0) (a0) (false) σ
  else F_Mo_next_19 (a0) (a0) σ
set_option maxHeartbeats 4000000 in
theorem w_Mo_next {b d : Nat} {pre tl : List PE} {B : Nat} {Q : Option Value → List PE → Prop} {res : Int32 × SG} (hB : B = b + pre.length)  {σ : SG} (a0 : Nat) (ha0 : isC SHm (a0) 8 = true) (hF : F_Mo_next a0 σ = some res) (hQ : Q (some (.int res.1)) (HH pre tl SHm B res.2)) : Cl b d 32 [.ref (B + (a0))] (HH pre tl SHm B σ) Q := by
  unfold Cl
  unfold F_Mo_next at hF
  refine r_aload_n f_Mo_next_0 rfl ?_
  refine r_aload_n f_Mo_next_1 rfl ?_
  refine t_getz hB ha0 f_Mo_next_2 rfl ?_
  refine r_if_ne f_Mo_next_5 (fun c5 => ?_) (fun c5 => ?_)
  · rw [if_pos (bz_t c5)] at hF
    exact w_Mo_next_19 hB   hQ _ (σ) (a0) (a0) ha0 ha0 rfl hF
  · rw [if_neg (bz_nt (Decidable.not_not.mp c5))] at hF
    refine r_aload_n f_Mo_next_8 rfl ?_
    refine t_geti hB ha0 f_Mo_next_9 rfl ?_
    refine r_aload_n f_Mo_next_12 rfl ?_
    refine t_geti hB ha0 f_Mo_next_13 rfl ?_
    refine r_icmp_lt f_Mo_next_16 (fun c6 => ?_) (fun c6 => ?_)
    · rw [if_pos c6] at hF
      refine r_iconst f_Mo_next_23 (v := 0) (by decide) ?_
      exact w_Mo_next_24 hB   hQ _ (σ) (a0) (a0) (false) ha0 ha0 rfl hF
    · rw [if_neg c6] at hF
      exact w_Mo_next_19 hB   hQ _ (σ) (a0) (a0) ha0 ha0 rfl hF
theorem f_Mo_between_0 : fetch 33 0 = some (.aload_n 0, 1, 0, 0, 0) := rfl
theorem f_Mo_between_1 : fetch 33 1 = some (.invokevirtual 121, 3, 32, 0, 42) := rfl
theorem f_Mo_between_4 : fetch 33 4 = some (.istore_n 3, 1, 0, 0, 0) := rfl
theorem f_Mo_between_5 : fetch 33 5 = some (.aload_n 0, 1, 0, 0, 0) := rfl
theorem f_Mo_between_6 : fetch 33 6 = some (.aload_n 0, 1, 0, 0, 0) := rfl
theorem f_Mo_between_7 : fetch 33 7 = some (.getfield 114, 3, 8, 3, 60) := rfl
theorem f_Mo_between_10 : fetch 33 10 = some (.ifCond .ne 13, 3, 23, 0, 0) := rfl
theorem f_Mo_between_13 : fetch 33 13 = some (.iload_n 3, 1, 0, 0, 0) := rfl
theorem f_Mo_between_14 : fetch 33 14 = some (.iload_n 1, 1, 0, 0, 0) := rfl
theorem f_Mo_between_15 : fetch 33 15 = some (.if_icmp .lt 8, 3, 23, 0, 0) := rfl
theorem f_Mo_between_18 : fetch 33 18 = some (.iload_n 3, 1, 0, 0, 0) := rfl
theorem f_Mo_between_19 : fetch 33 19 = some (.iload_n 2, 1, 0, 0, 0) := rfl
theorem f_Mo_between_20 : fetch 33 20 = some (.if_icmp .le 7, 3, 27, 0, 0) := rfl
theorem f_Mo_between_23 : fetch 33 23 = some (.iconst 1, 1, 0, 0, 0) := rfl
theorem f_Mo_between_24 : fetch 33 24 = some (.goto 4, 3, 28, 0, 0) := rfl
theorem f_Mo_between_27 : fetch 33 27 = some (.iconst 0, 1, 0, 0, 0) := rfl
theorem f_Mo_between_28 : fetch 33 28 = some (.putfield 114, 3, 8, 3, 60) := rfl
theorem f_Mo_between_31 : fetch 33 31 = some (.aload_n 0, 1, 0, 0, 0) := rfl
theorem f_Mo_between_32 : fetch 33 32 = some (.getfield 114, 3, 8, 3, 60) := rfl
theorem f_Mo_between_35 : fetch 33 35 = some (.ifCond .eq 7, 3, 42, 0, 0) := rfl
theorem f_Mo_between_38 : fetch 33 38 = some (.iload_n 1, 1, 0, 0, 0) := rfl
theorem f_Mo_between_39 : fetch 33 39 = some (.goto 4, 3, 43, 0, 0) := rfl
theorem f_Mo_between_42 : fetch 33 42 = some (.iload_n 3, 1, 0, 0, 0) := rfl
theorem f_Mo_between_43 : fetch 33 43 = some (.ireturn, 1, 0, 0, 0) := rfl
def F_Mo_between_43  (y0 : Int32) (σ : SG) : Option (Int32 × SG) :=
  some (y0, σ)
set_option maxHeartbeats 4000000 in
theorem w_Mo_between_43 {b d : Nat} {sc : SC} {pre tl : List PE} {B : Nat} {Q : Option Value → List PE → Prop} {res : Int32 × SG} (hB : B = b + pre.length) (hd : 1 ≤ d)   (hQ : Q (some (.int res.1)) (HH pre tl SHm B res.2)) (lv : LV) (σ : SG) (y0 : Int32)  (hF : F_Mo_between_43  y0 σ = some res) : Rn b sc d 33 43 lv [.int (y0)] (HH pre tl SHm B σ) Q := by
  obtain ⟨e0, rfl⟩ : ∃ e, d = e + 1 := ⟨d - 1, by omega⟩
  unfold F_Mo_between_43 at hF
  cases hF
  exact r_ireturn f_Mo_between_43 hQ
def F_Mo_between_28  (x0 : Nat) (x1 : Int32) (x3 : Int32) (y0 : Nat) (y1 : Bool) (σ : SG) : Option (Int32 × SG) :=
  stl (setI σ (y0) 3 (bz (y1))) fun s1 =>
  if (zb (s1.1 (x0) 3)) = true then
  F_Mo_between_43 (x1) s1
  else F_Mo_between_43 (x3) s1
set_option maxHeartbeats 4000000 in
theorem w_Mo_between_28 {b d : Nat} {sc : SC} {pre tl : List PE} {B : Nat} {Q : Option Value → List PE → Prop} {res : Int32 × SG} (hB : B = b + pre.length) (hd : 1 ≤ d)   (hQ : Q (some (.int res.1)) (HH pre tl SHm B res.2)) (lv : LV) (σ : SG) (x0 : Nat) (x1 : Int32) (x3 : Int32) (y0 : Nat) (y1 : Bool) (hx0 : isC SHm (x0) 8 = true) (hy0 : isC SHm (y0) 8 = true) (l0 : lv.lookup 0 = some (.ref (B + (x0)))) (l1 : lv.lookup 1 = some (.int (x1))) (l3 : lv.lookup 3 = some (.int (x3))) (hF : F_Mo_between_28  x0 x1 x3 y0 y1 σ = some res) : Rn b sc d 33 28 lv [.int (bz (y1)), .ref (B + (y0))] (HH pre tl SHm B σ) Q := by
  obtain ⟨e0, rfl⟩ : ∃ e, d = e + 1 := ⟨d - 1, by omega⟩
  unfold F_Mo_between_28 at hF
  refine t_putz (v := y1) hB hy0 f_Mo_between_28 rfl rfl ?_
  generalize hs1 : setI σ (y0) 3 (bz (y1)) = s1 at hF ⊢
  rw [stl_eq] at hF
  refine r_aload_n f_Mo_between_31 l0 ?_
  refine t_getz hB hx0 f_Mo_between_32 rfl ?_
  refine r_if_eq f_Mo_between_35 (fun c2 => ?_) (fun c2 => ?_)
  · rw [if_neg (bz_nt c2)] at hF
    refine r_iload_n f_Mo_between_42 l3 ?_
    exact w_Mo_between_43 hB hd  hQ _ (s1) (x3) hF
  · rw [if_pos (bz_t c2)] at hF
    refine r_iload_n f_Mo_between_38 l1 ?_
    refine r_goto f_Mo_between_39 ?_
    exact w_Mo_between_43 hB hd  hQ _ (s1) (x1) hF
def F_Mo_between_23  (x0 : Nat) (x1 : Int32) (x3 : Int32) (y0 : Nat) (σ : SG) : Option (Int32 × SG) :=
  F_Mo_between_28 (x0) (x1) (x3) (y0) (true) σ
set_option maxHeartbeats 4000000 in
theorem w_Mo_between_23 {b d : Nat} {sc : SC} {pre tl : List PE} {B : Nat} {Q : Option Value → List PE → Prop} {res : Int32 × SG} (hB : B = b + pre.length) (hd : 1 ≤ d)   (hQ : Q (some (.int res.1)) (HH pre tl SHm B res.2)) (lv : LV) (σ : SG) (x0 : Nat) (x1 : Int32) (x3 : Int32) (y0 : Nat) (hx0 : isC SHm (x0) 8 = true) (hy0 : isC SHm (y0) 8 = true) (l0 : lv.lookup 0 = some (.ref (B + (x0)))) (l1 : lv.lookup 1 = some (.int (x1))) (l3 : lv.lookup 3 = some (.int (x3))) (hF : F_Mo_between_23  x0 x1 x3 y0 σ = some res) : Rn b sc d 33 23 lv [.ref (B + (y0))] (HH pre tl SHm B σ) Q := by
  obtain ⟨e0, rfl⟩ : ∃ e, d = e + 1 := ⟨d - 1, by omega⟩
  unfold F_Mo_between_23 at hF
  refine r_iconst f_Mo_between_23 (v := 1) (by decide) ?_
  refine r_goto f_Mo_between_24 ?_
  exact w_Mo_between_28 hB hd  hQ _ (σ) (x0) (x1) (x3) (y0) (true) hx0 hy0 l0 l1 l3 hF
def F_Mo_between (a0 : Nat) (a1 : Int32) (a2 : Int32) (σ : SG) : Option (Int32 × SG) :=
  match F_Mo_next (a0) σ with
  | none => none
  | some q3 =>
  if (zb (q3.2.1 (a0) 3)) = true then
  F_Mo_between_23 (a0) (a1) (q3.1) (a0) q3.2
  else if q3.1 < a1 then
  F_Mo_between_23 (a0) (a1) (q3.1) (a0) q3.2
  else if q3.1 ≤ a2 then
  F_Mo_between_28 (a0) (a1) (q3.1) (a0) (false) q3.2
  else F_Mo_between_23 (a0) (a1) (q3.1) (a0) q3.2
set_option maxHeartbeats 4000000 in
theorem w_Mo_between {b d : Nat} {pre tl : List PE} {B : Nat} {Q : Option Value → List PE → Prop} {res : Int32 × SG} (hB : B = b + pre.length) (hd : 1 ≤ d)  {σ : SG} (a0 : Nat) (a1 : Int32) (a2 : Int32) (ha0 : isC SHm (a0) 8 = true) (hF : F_Mo_between a0 a1 a2 σ = some res) (hQ : Q (some (.int res.1)) (HH pre tl SHm B res.2)) : Cl b d 33 [.ref (B + (a0)), .int (a1), .int (a2)] (HH pre tl SHm B σ) Q := by
  obtain ⟨e0, rfl⟩ : ∃ e, d = e + 1 := ⟨d - 1, by omega⟩
  unfold Cl
  unfold F_Mo_between at hF
  refine r_aload_n f_Mo_between_0 rfl ?_
  cases hq3 : F_Mo_next (a0) σ with
  | none => simp only [hq3] at hF; cases hF
  | some q3 =>
    simp only [hq3] at hF
    refine t_V0i hB ha0 rfl rfl f_Mo_between_1 (by decide) (Nat.le_of_ble_eq_true rfl) (Nat.le_of_ble_eq_true rfl) (w_Mo_next hB  (a0) ha0 hq3 ⟨_, rfl, ?_⟩)
    refine r_istore_n f_Mo_between_4 ?_
    refine r_aload_n f_Mo_between_5 (lk_put_ne rfl (by decide) (Or.inl rfl)) ?_
    refine r_aload_n f_Mo_between_6 (lk_put_ne rfl (by decide) (Or.inl rfl)) ?_
    refine t_getz hB ha0 f_Mo_between_7 rfl ?_
    refine r_if_ne f_Mo_between_10 (fun c4 => ?_) (fun c4 => ?_)
    · rw [if_pos (bz_t c4)] at hF
      exact w_Mo_between_23 hB hd  hQ _ (q3.2) (a0) (a1) (q3.1) (a0) ha0 ha0 (lk_put_ne rfl (by decide) (Or.inl rfl)) (lk_put_ne rfl (by decide) (Or.inl rfl)) lk_put hF
    · rw [if_neg (bz_nt (Decidable.not_not.mp c4))] at hF
      refine r_iload_n f_Mo_between_13 lk_put ?_
      refine r_iload_n f_Mo_between_14 (lk_put_ne rfl (by decide) (Or.inl rfl)) ?_
      refine r_icmp_lt f_Mo_between_15 (fun c5 => ?_) (fun c5 => ?_)
      · rw [if_pos c5] at hF
        exact w_Mo_between_23 hB hd  hQ _ (q3.2) (a0) (a1) (q3.1) (a0) ha0 ha0 (lk_put_ne rfl (by decide) (Or.inl rfl)) (lk_put_ne rfl (by decide) (Or.inl rfl)) lk_put hF
      · rw [if_neg c5] at hF
        refine r_iload_n f_Mo_between_18 lk_put ?_
        refine r_iload_n f_Mo_between_19 (lk_put_ne rfl (by decide) (Or.inl rfl)) ?_
        refine r_icmp_le f_Mo_between_20 (fun c6 => ?_) (fun c6 => ?_)
        · rw [if_pos c6] at hF
          refine r_iconst f_Mo_between_27 (v := 0) (by decide) ?_
          exact w_Mo_between_28 hB hd  hQ _ (q3.2) (a0) (a1) (q3.1) (a0) (false) ha0 ha0 (lk_put_ne rfl (by decide) (Or.inl rfl)) (lk_put_ne rfl (by decide) (Or.inl rfl)) lk_put hF
        · rw [if_neg c6] at hF
          exact w_Mo_between_23 hB hd  hQ _ (q3.2) (a0) (a1) (q3.1) (a0) ha0 ha0 (lk_put_ne rfl (by decide) (Or.inl rfl)) (lk_put_ne rfl (by decide) (Or.inl rfl)) lk_put hF
theorem f_Mo_typeOf_0 : fetch 34 0 = some (.aload_n 0, 1, 0, 0, 0) := rfl
theorem f_Mo_typeOf_1 : fetch 34 1 = some (.invokevirtual 121, 3, 32, 0, 42) := rfl
theorem f_Mo_typeOf_4 : fetch 34 4 = some (.istore 4, 2, 0, 0, 0) := rfl
theorem f_Mo_typeOf_6 : fetch 34 6 = some (.iload 4, 2, 0, 0, 0) := rfl
theorem f_Mo_typeOf_8 : fetch 34 8 = some (.iconst 1, 1, 0, 0, 0) := rfl
theorem f_Mo_typeOf_9 : fetch 34 9 = some (.if_icmp .eq 56, 3, 65, 0, 0) := rfl
theorem f_Mo_typeOf_12 : fetch 34 12 = some (.iload 4, 2, 0, 0, 0) := rfl
theorem f_Mo_typeOf_14 : fetch 34 14 = some (.iconst 2, 1, 0, 0, 0) := rfl
theorem f_Mo_typeOf_15 : fetch 34 15 = some (.if_icmp .eq 50, 3, 65, 0, 0) := rfl
theorem f_Mo_typeOf_18 : fetch 34 18 = some (.iload 4, 2, 0, 0, 0) := rfl
theorem f_Mo_typeOf_20 : fetch 34 20 = some (.iconst 4, 1, 0, 0, 0) := rfl
theorem f_Mo_typeOf_21 : fetch 34 21 = some (.if_icmp .eq 44, 3, 65, 0, 0) := rfl
theorem f_Mo_typeOf_24 : fetch 34 24 = some (.iload 4, 2, 0, 0, 0) := rfl
theorem f_Mo_typeOf_26 : fetch 34 26 = some (.iconst 5, 1, 0, 0, 0) := rfl
theorem f_Mo_typeOf_27 : fetch 34 27 = some (.if_icmp .eq 38, 3, 65, 0, 0) := rfl
theorem f_Mo_typeOf_30 : fetch 34 30 = some (.iload_n 2, 1, 0, 0, 0) := rfl
theorem f_Mo_typeOf_31 : fetch 34 31 = some (.ifCond .eq 9, 3, 40, 0, 0) := rfl
theorem f_Mo_typeOf_34 : fetch 34 34 = some (.iload 4, 2, 0, 0, 0) := rfl
theorem f_Mo_typeOf_36 : fetch 34 36 = some (.iconst 3, 1, 0, 0, 0) := rfl
theorem f_Mo_typeOf_37 : fetch 34 37 = some (.if_icmp .eq 28, 3, 65, 0, 0) := rfl
theorem f_Mo_typeOf_40 : fetch 34 40 = some (.iload_n 3, 1, 0, 0, 0) := rfl
theorem f_Mo_typeOf_41 : fetch 34 41 = some (.ifCond .eq 8, 3, 49, 0, 0) := rfl
theorem f_Mo_typeOf_44 : fetch 34 44 = some (.iload 4, 2, 0, 0, 0) := rfl
theorem f_Mo_typeOf_46 : fetch 34 46 = some (.ifCond .eq 19, 3, 65, 0, 0) := rfl
theorem f_Mo_typeOf_49 : fetch 34 49 = some (.iload 4, 2, 0, 0, 0) := rfl
theorem f_Mo_typeOf_51 : fetch 34 51 = some (.bipush 8, 2, 0, 0, 0) := rfl
theorem f_Mo_typeOf_53 : fetch 34 53 = some (.if_icmp .lt 16, 3, 69, 0, 0) := rfl
theorem f_Mo_typeOf_56 : fetch 34 56 = some (.iload 4, 2, 0, 0, 0) := rfl
theorem f_Mo_typeOf_58 : fetch 34 58 = some (.bipush 8, 2, 0, 0, 0) := rfl
theorem f_Mo_typeOf_60 : fetch 34 60 = some (.iload_n 1, 1, 0, 0, 0) := rfl
theorem f_Mo_typeOf_61 : fetch 34 61 = some (.iadd, 1, 0, 0, 0) := rfl
theorem f_Mo_typeOf_62 : fetch 34 62 = some (.if_icmp .ge 7, 3, 69, 0, 0) := rfl
theorem f_Mo_typeOf_65 : fetch 34 65 = some (.iconst 1, 1, 0, 0, 0) := rfl
theorem f_Mo_typeOf_66 : fetch 34 66 = some (.goto 4, 3, 70, 0, 0) := rfl
theorem f_Mo_typeOf_69 : fetch 34 69 = some (.iconst 0, 1, 0, 0, 0) := rfl
theorem f_Mo_typeOf_70 : fetch 34 70 = some (.istore 5, 2, 0, 0, 0) := rfl
theorem f_Mo_typeOf_72 : fetch 34 72 = some (.aload_n 0, 1, 0, 0, 0) := rfl
theorem f_Mo_typeOf_73 : fetch 34 73 = some (.aload_n 0, 1, 0, 0, 0) := rfl
theorem f_Mo_typeOf_74 : fetch 34 74 = some (.getfield 114, 3, 8, 3, 60) := rfl
theorem f_Mo_typeOf_77 : fetch 34 77 = some (.ifCond .ne 8, 3, 85, 0, 0) := rfl
theorem f_Mo_typeOf_80 : fetch 34 80 = some (.iload 5, 2, 0, 0, 0) := rfl
theorem f_Mo_typeOf_82 : fetch 34 82 = some (.ifCond .ne 7, 3, 89, 0, 0) := rfl
theorem f_Mo_typeOf_85 : fetch 34 85 = some (.iconst 1, 1, 0, 0, 0) := rfl
theorem f_Mo_typeOf_86 : fetch 34 86 = some (.goto 4, 3, 90, 0, 0) := rfl
theorem f_Mo_typeOf_89 : fetch 34 89 = some (.iconst 0, 1, 0, 0, 0) := rfl
theorem f_Mo_typeOf_90 : fetch 34 90 = some (.putfield 114, 3, 8, 3, 60) := rfl
theorem f_Mo_typeOf_93 : fetch 34 93 = some (.aload_n 0, 1, 0, 0, 0) := rfl
theorem f_Mo_typeOf_94 : fetch 34 94 = some (.getfield 114, 3, 8, 3, 60) := rfl
theorem f_Mo_typeOf_97 : fetch 34 97 = some (.ifCond .eq 7, 3, 104, 0, 0) := rfl
theorem f_Mo_typeOf_100 : fetch 34 100 = some (.iconst 0, 1, 0, 0, 0) := rfl
theorem f_Mo_typeOf_101 : fetch 34 101 = some (.goto 5, 3, 106, 0, 0) := rfl
theorem f_Mo_typeOf_104 : fetch 34 104 = some (.iload 4, 2, 0, 0, 0) := rfl
theorem f_Mo_typeOf_106 : fetch 34 106 = some (.ireturn, 1, 0, 0, 0) := rfl
def F_Mo_typeOf_106  (y0 : Int32) (σ : SG) : Option (Int32 × SG) :=
  some (y0, σ)
set_option maxHeartbeats 4000000 in
theorem w_Mo_typeOf_106 {b d : Nat} {sc : SC} {pre tl : List PE} {B : Nat} {Q : Option Value → List PE → Prop} {res : Int32 × SG} (hB : B = b + pre.length) (hd : 1 ≤ d)   (hQ : Q (some (.int res.1)) (HH pre tl SHm B res.2)) (lv : LV) (σ : SG) (y0 : Int32)  (hF : F_Mo_typeOf_106  y0 σ = some res) : Rn b sc d 34 106 lv [.int (y0)] (HH pre tl SHm B σ) Q := by
  obtain ⟨e0, rfl⟩ : ∃ e, d = e + 1 := ⟨d - 1, by omega⟩
  unfold F_Mo_typeOf_106 at hF
  cases hF
  exact r_ireturn f_Mo_typeOf_106 hQ
def F_Mo_typeOf_90  (x0 : Nat) (x4 : Int32) (y0 : Nat) (y1 : Bool) (σ : SG) : Option (Int32 × SG) :=
  stl (setI σ (y0) 3 (bz (y1))) fun s1 =>
  if (zb (s1.1 (x0) 3)) = true then
  F_Mo_typeOf_106 ((0 : Int32)) s1
  else F_Mo_typeOf_106 (x4) s1
set_option maxHeartbeats 4000000 in
theorem w_Mo_typeOf_90 {b d : Nat} {sc : SC} {pre tl : List PE} {B : Nat} {Q : Option Value → List PE → Prop} {res : Int32 × SG} (hB : B = b + pre.length) (hd : 1 ≤ d)   (hQ : Q (some (.int res.1)) (HH pre tl SHm B res.2)) (lv : LV) (σ : SG) (x0 : Nat) (x4 : Int32) (y0 : Nat) (y1 : Bool) (hx0 : isC SHm (x0) 8 = true) (hy0 : isC SHm (y0) 8 = true) (l0 : lv.lookup 0 = some (.ref (B + (x0)))) (l4 : lv.lookup 4 = some (.int (x4))) (hF : F_Mo_typeOf_90  x0 x4 y0 y1 σ = some res) : Rn b sc d 34 90 lv [.int (bz (y1)), .ref (B + (y0))] (HH pre tl SHm B σ) Q := by
  obtain ⟨e0, rfl⟩ : ∃ e, d = e + 1 := ⟨d - 1, by omega⟩
  unfold F_Mo_typeOf_90 at hF
  refine t_putz (v := y1) hB hy0 f_Mo_typeOf_90 rfl rfl ?_
  generalize hs1 : setI σ (y0) 3 (bz (y1)) = s1 at hF ⊢
  rw [stl_eq] at hF
  refine r_aload_n f_Mo_typeOf_93 l0 ?_
  refine t_getz hB hx0 f_Mo_typeOf_94 rfl ?_
  refine r_if_eq f_Mo_typeOf_97 (fun c2 => ?_) (fun c2 => ?_)
  · rw [if_neg (bz_nt c2)] at hF
    refine r_iload f_Mo_typeOf_104 l4 ?_
    exact w_Mo_typeOf_106 hB hd  hQ _ (s1) (x4) hF
  · rw [if_pos (bz_t c2)] at hF
    refine r_iconst f_Mo_typeOf_100 (v := 0) (by decide) ?_
    refine r_goto f_Mo_typeOf_101 ?_
    exact w_Mo_typeOf_106 hB hd  hQ _ (s1) ((0 : Int32)) hF
def F_Mo_typeOf_85  (x0 : Nat) (x4 : Int32) (y0 : Nat) (σ : SG) : Option (Int32 × SG) :=
  F_Mo_typeOf_90 (x0) (x4) (y0) (true) σ
set_option maxHeartbeats 4000000 in
theorem w_Mo_typeOf_85 {b d : Nat} {sc : SC} {pre tl : List PE} {B : Nat} {Q : Option Value → List PE → Prop} {res : Int32 × SG} (hB : B = b + pre.length) (hd : 1 ≤ d)   (hQ : Q (some (.int res.1)) (HH pre tl SHm B res.2)) (lv : LV) (σ : SG) (x0 : Nat) (x4 : Int32) (y0 : Nat) (hx0 : isC SHm (x0) 8 = true) (hy0 : isC SHm (y0) 8 = true) (l0 : lv.lookup 0 = some (.ref (B + (x0)))) (l4 : lv.lookup 4 = some (.int (x4))) (hF : F_Mo_typeOf_85  x0 x4 y0 σ = some res) : Rn b sc d 34 85 lv [.ref (B + (y0))] (HH pre tl SHm B σ) Q := by
  obtain ⟨e0, rfl⟩ : ∃ e, d = e + 1 := ⟨d - 1, by omega⟩
  unfold F_Mo_typeOf_85 at hF
  refine r_iconst f_Mo_typeOf_85 (v := 1) (by decide) ?_
  refine r_goto f_Mo_typeOf_86 ?_
  exact w_Mo_typeOf_90 hB hd  hQ _ (σ) (x0) (x4) (y0) (true) hx0 hy0 l0 l4 hF
def F_Mo_typeOf_70  (x0 : Nat) (x4 : Int32) (y0 : Bool) (σ : SG) : Option (Int32 × SG) :=
  if (zb (σ.1 (x0) 3)) = true then
  F_Mo_typeOf_85 (x0) (x4) (x0) σ
  else if y0 = true then
  F_Mo_typeOf_90 (x0) (x4) (x0) (false) σ
  else F_Mo_typeOf_85 (x0) (x4) (x0) σ
set_option maxHeartbeats 4000000 in
theorem w_Mo_typeOf_70 {b d : Nat} {sc : SC} {pre tl : List PE} {B : Nat} {Q : Option Value → List PE → Prop} {res : Int32 × SG} (hB : B = b + pre.length) (hd : 1 ≤ d)   (hQ : Q (some (.int res.1)) (HH pre tl SHm B res.2)) (lv : LV) (σ : SG) (x0 : Nat) (x4 : Int32) (y0 : Bool) (hx0 : isC SHm (x0) 8 = true) (l0 : lv.lookup 0 = some (.ref (B + (x0)))) (l4 : lv.lookup 4 = some (.int (x4))) (hF : F_Mo_typeOf_70  x0 x4 y0 σ = some res) : Rn b sc d 34 70 lv [.int (bz (y0))] (HH pre tl SHm B σ) Q := by
  obtain ⟨e0, rfl⟩ : ∃ e, d = e + 1 := ⟨d - 1, by omega⟩
  unfold F_Mo_typeOf_70 at hF
  refine r_istore f_Mo_typeOf_70 ?_
  refine r_aload_n f_Mo_typeOf_72 (lk_put_ne l0 (by decide) (Or.inl rfl)) ?_
  refine r_aload_n f_Mo_typeOf_73 (lk_put_ne l0 (by decide) (Or.inl rfl)) ?_
  refine t_getz hB hx0 f_Mo_typeOf_74 rfl ?_
  refine r_if_ne f_Mo_typeOf_77 (fun c3 => ?_) (fun c3 => ?_)
  · rw [if_pos (bz_t c3)] at hF
    exact w_Mo_typeOf_85 hB hd  hQ _ (σ) (x0) (x4) (x0) hx0 hx0 (lk_put_ne l0 (by decide) (Or.inl rfl)) (lk_put_ne l4 (by decide) (Or.inl rfl)) hF
  · rw [if_neg (bz_nt (Decidable.not_not.mp c3))] at hF
    refine r_iload f_Mo_typeOf_80 lk_put ?_
    refine r_if_ne f_Mo_typeOf_82 (fun c4 => ?_) (fun c4 => ?_)
    · rw [if_pos (bz_t c4)] at hF
      refine r_iconst f_Mo_typeOf_89 (v := 0) (by decide) ?_
      exact w_Mo_typeOf_90 hB hd  hQ _ (σ) (x0) (x4) (x0) (false) hx0 hx0 (lk_put_ne l0 (by decide) (Or.inl rfl)) (lk_put_ne l4 (by decide) (Or.inl rfl)) hF
    · rw [if_neg (bz_nt (Decidable.not_not.mp c4))] at hF
      exact w_Mo_typeOf_85 hB hd  hQ _ (σ) (x0) (x4) (x0) hx0 hx0 (lk_put_ne l0 (by decide) (Or.inl rfl)) (lk_put_ne l4 (by decide) (Or.inl rfl)) hF
def F_Mo_typeOf_69  (x0 : Nat) (x4 : Int32) (σ : SG) : Option (Int32 × SG) :=
  F_Mo_typeOf_70 (x0) (x4) (false) σ
set_option maxHeartbeats 4000000 in
theorem w_Mo_typeOf_69 {b d : Nat} {sc : SC} {pre tl : List PE} {B : Nat} {Q : Option Value → List PE → Prop} {res : Int32 × SG} (hB : B = b + pre.length) (hd : 1 ≤ d)   (hQ : Q (some (.int res.1)) (HH pre tl SHm B res.2)) (lv : LV) (σ : SG) (x0 : Nat) (x4 : Int32) (hx0 : isC SHm (x0) 8 = true) (l0 : lv.lookup 0 = some (.ref (B + (x0)))) (l4 : lv.lookup 4 = some (.int (x4))) (hF : F_Mo_typeOf_69  x0 x4 σ = some res) : Rn b sc d 34 69 lv [] (HH pre tl SHm B σ) Q := by
  obtain ⟨e0, rfl⟩ : ∃ e, d = e + 1 := ⟨d - 1, by omega⟩
  unfold F_Mo_typeOf_69 at hF
  refine r_iconst f_Mo_typeOf_69 (v := 0) (by decide) ?_
  exact w_Mo_typeOf_70 hB hd  hQ _ (σ) (x0) (x4) (false) hx0 l0 l4 hF
def F_Mo_typeOf_65  (x0 : Nat) (x4 : Int32) (σ : SG) : Option (Int32 × SG) :=
  F_Mo_typeOf_70 (x0) (x4) (true) σ
set_option maxHeartbeats 4000000 in
theorem w_Mo_typeOf_65 {b d : Nat} {sc : SC} {pre tl : List PE} {B : Nat} {Q : Option Value → List PE → Prop} {res : Int32 × SG} (hB : B = b + pre.length) (hd : 1 ≤ d)   (hQ : Q (some (.int res.1)) (HH pre tl SHm B res.2)) (lv : LV) (σ : SG) (x0 : Nat) (x4 : Int32) (hx0 : isC SHm (x0) 8 = true) (l0 : lv.lookup 0 = some (.ref (B + (x0)))) (l4 : lv.lookup 4 = some (.int (x4))) (hF : F_Mo_typeOf_65  x0 x4 σ = some res) : Rn b sc d 34 65 lv [] (HH pre tl SHm B σ) Q := by
  obtain ⟨e0, rfl⟩ : ∃ e, d = e + 1 := ⟨d - 1, by omega⟩
  unfold F_Mo_typeOf_65 at hF
  refine r_iconst f_Mo_typeOf_65 (v := 1) (by decide) ?_
  refine r_goto f_Mo_typeOf_66 ?_
  exact w_Mo_typeOf_70 hB hd  hQ _ (σ) (x0) (x4) (true) hx0 l0 l4 hF
def F_Mo_typeOf_49  (x0 : Nat) (x1 : Int32) (x4 : Int32) (σ : SG) : Option (Int32 × SG) :=
  if x4 < (8 : Int32) then
  F_Mo_typeOf_69 (x0) (x4) σ
  else if ((8 : Int32) + x1) ≤ x4 then
  F_Mo_typeOf_69 (x0) (x4) σ
  else F_Mo_typeOf_65 (x0) (x4) σ
set_option maxHeartbeats 4000000 in
theorem w_Mo_typeOf_49 {b d : Nat} {sc : SC} {pre tl : List PE} {B : Nat} {Q : Option Value → List PE → Prop} {res : Int32 × SG} (hB : B = b + pre.length) (hd : 1 ≤ d)   (hQ : Q (some (.int res.1)) (HH pre tl SHm B res.2)) (lv : LV) (σ : SG) (x0 : Nat) (x1 : Int32) (x4 : Int32) (hx0 : isC SHm (x0) 8 = true) (l0 : lv.lookup 0 = some (.ref (B + (x0)))) (l1 : lv.lookup 1 = some (.int (x1))) (l4 : lv.lookup 4 = some (.int (x4))) (hF : F_Mo_typeOf_49  x0 x1 x4 σ = some res) : Rn b sc d 34 49 lv [] (HH pre tl SHm B σ) Q := by
  obtain ⟨e0, rfl⟩ : ∃ e, d = e + 1 := ⟨d - 1, by omega⟩
  unfold F_Mo_typeOf_49 at hF
  refine r_iload f_Mo_typeOf_49 l4 ?_
  refine r_bipush f_Mo_typeOf_51 (v := 8) (by decide) ?_
  refine r_icmp_lt f_Mo_typeOf_53 (fun c5 => ?_) (fun c5 => ?_)
  · rw [if_pos c5] at hF
    exact w_Mo_typeOf_69 hB hd  hQ _ (σ) (x0) (x4) hx0 l0 l4 hF
  · rw [if_neg c5] at hF
    refine r_iload f_Mo_typeOf_56 l4 ?_
    refine r_bipush f_Mo_typeOf_58 (v := 8) (by decide) ?_
    refine r_iload_n f_Mo_typeOf_60 l1 ?_
    refine r_iadd f_Mo_typeOf_61 ?_
    refine r_icmp_ge f_Mo_typeOf_62 (fun c6 => ?_) (fun c6 => ?_)
    · rw [if_pos c6] at hF
      exact w_Mo_typeOf_69 hB hd  hQ _ (σ) (x0) (x4) hx0 l0 l4 hF
    · rw [if_neg c6] at hF
      exact w_Mo_typeOf_65 hB hd  hQ _ (σ) (x0) (x4) hx0 l0 l4 hF
def F_Mo_typeOf_40  (x0 : Nat) (x1 : Int32) (x3 : Bool) (x4 : Int32) (σ : SG) : Option (Int32 × SG) :=
  if x3 = true then
  if x4 = 0 then
  F_Mo_typeOf_65 (x0) (x4) σ
  else F_Mo_typeOf_49 (x0) (x1) (x4) σ
  else F_Mo_typeOf_49 (x0) (x1) (x4) σ
set_option maxHeartbeats 4000000 in
theorem w_Mo_typeOf_40 {b d : Nat} {sc : SC} {pre tl : List PE} {B : Nat} {Q : Option Value → List PE → Prop} {res : Int32 × SG} (hB : B = b + pre.length) (hd : 1 ≤ d)   (hQ : Q (some (.int res.1)) (HH pre tl SHm B res.2)) (lv : LV) (σ : SG) (x0 : Nat) (x1 : Int32) (x3 : Bool) (x4 : Int32) (hx0 : isC SHm (x0) 8 = true) (l0 : lv.lookup 0 = some (.ref (B + (x0)))) (l1 : lv.lookup 1 = some (.int (x1))) (l3 : lv.lookup 3 = some (.int (bz (x3)))) (l4 : lv.lookup 4 = some (.int (x4))) (hF : F_Mo_typeOf_40  x0 x1 x3 x4 σ = some res) : Rn b sc d 34 40 lv [] (HH pre tl SHm B σ) Q := by
  obtain ⟨e0, rfl⟩ : ∃ e, d = e + 1 := ⟨d - 1, by omega⟩
  unfold F_Mo_typeOf_40 at hF
  refine r_iload_n f_Mo_typeOf_40 l3 ?_
  refine r_if_eq f_Mo_typeOf_41 (fun c7 => ?_) (fun c7 => ?_)
  · rw [if_neg (bz_nt c7)] at hF
    exact w_Mo_typeOf_49 hB hd  hQ _ (σ) (x0) (x1) (x4) hx0 l0 l1 l4 hF
  · rw [if_pos (bz_t c7)] at hF
    refine r_iload f_Mo_typeOf_44 l4 ?_
    refine r_if_eq f_Mo_typeOf_46 (fun c8 => ?_) (fun c8 => ?_)
    · rw [if_pos c8] at hF
      exact w_Mo_typeOf_65 hB hd  hQ _ (σ) (x0) (x4) hx0 l0 l4 hF
    · rw [if_neg c8] at hF
      exact w_Mo_typeOf_49 hB hd  hQ _ (σ) (x0) (x1) (x4) hx0 l0 l1 l4 hF
def F_Mo_typeOf (a0 : Nat) (a1 : Int32) (a2 : Bool) (a3 : Bool) (σ : SG) : Option (Int32 × SG) :=
  match F_Mo_next (a0) σ with
  | none => none
  | some q9 =>
  if q9.1 = (1 : Int32) then
  F_Mo_typeOf_65 (a0) (q9.1) q9.2
  else if q9.1 = (2 : Int32) then
  F_Mo_typeOf_65 (a0) (q9.1) q9.2
  else if q9.1 = (4 : Int32) then
  F_Mo_typeOf_65 (a0) (q9.1) q9.2
  else if q9.1 = (5 : Int32) then
  F_Mo_typeOf_65 (a0) (q9.1) q9.2
  else if a2 = true then
  if q9.1 = (3 : Int32) then
  F_Mo_typeOf_65 (a0) (q9.1) q9.2
  else F_Mo_typeOf_40 (a0) (a1) (a3) (q9.1) q9.2
  else F_Mo_typeOf_40 (a0) (a1) (a3) (q9.1) q9.2
set_option maxHeartbeats 4000000 in
theorem w_Mo_typeOf {b d : Nat} {pre tl : List PE} {B : Nat} {Q : Option Value → List PE → Prop} {res : Int32 × SG} (hB : B = b + pre.length) (hd : 1 ≤ d)  {σ : SG} (a0 : Nat) (a1 : Int32) (a2 : Bool) (a3 : Bool) (ha0 : isC SHm (a0) 8 = true) (hF : F_Mo_typeOf a0 a1 a2 a3 σ = some res) (hQ : Q (some (.int res.1)) (HH pre tl SHm B res.2)) : Cl b d 34 [.ref (B + (a0)), .int (a1), .int (bz (a2)), .int (bz (a3))] (HH pre tl SHm B σ) Q := by
  obtain ⟨e0, rfl⟩ : ∃ e, d = e + 1 := ⟨d - 1, by omega⟩
  unfold Cl
  unfold F_Mo_typeOf at hF
  refine r_aload_n f_Mo_typeOf_0 rfl ?_
  cases hq9 : F_Mo_next (a0) σ with
  | none => simp only [hq9] at hF; cases hF
  | some q9 =>
    simp only [hq9] at hF
    refine t_V0i hB ha0 rfl rfl f_Mo_typeOf_1 (by decide) (Nat.le_of_ble_eq_true rfl) (Nat.le_of_ble_eq_true rfl) (w_Mo_next hB  (a0) ha0 hq9 ⟨_, rfl, ?_⟩)
    refine r_istore f_Mo_typeOf_4 ?_
    refine r_iload f_Mo_typeOf_6 lk_put ?_
    refine r_iconst f_Mo_typeOf_8 (v := 1) (by decide) ?_
    refine r_icmp_eq f_Mo_typeOf_9 (fun c10 => ?_) (fun c10 => ?_)
    · rw [if_pos c10] at hF
      exact w_Mo_typeOf_65 hB hd  hQ _ (q9.2) (a0) (q9.1) ha0 (lk_put_ne rfl (by decide) (Or.inl rfl)) lk_put hF
    · rw [if_neg c10] at hF
      refine r_iload f_Mo_typeOf_12 lk_put ?_
      refine r_iconst f_Mo_typeOf_14 (v := 2) (by decide) ?_
      refine r_icmp_eq f_Mo_typeOf_15 (fun c11 => ?_) (fun c11 => ?_)
      · rw [if_pos c11] at hF
        exact w_Mo_typeOf_65 hB hd  hQ _ (q9.2) (a0) (q9.1) ha0 (lk_put_ne rfl (by decide) (Or.inl rfl)) lk_put hF
      · rw [if_neg c11] at hF
        refine r_iload f_Mo_typeOf_18 lk_put ?_
        refine r_iconst f_Mo_typeOf_20 (v := 4) (by decide) ?_
        refine r_icmp_eq f_Mo_typeOf_21 (fun c12 => ?_) (fun c12 => ?_)
        · rw [if_pos c12] at hF
          exact w_Mo_typeOf_65 hB hd  hQ _ (q9.2) (a0) (q9.1) ha0 (lk_put_ne rfl (by decide) (Or.inl rfl)) lk_put hF
        · rw [if_neg c12] at hF
          refine r_iload f_Mo_typeOf_24 lk_put ?_
          refine r_iconst f_Mo_typeOf_26 (v := 5) (by decide) ?_
          refine r_icmp_eq f_Mo_typeOf_27 (fun c13 => ?_) (fun c13 => ?_)
          · rw [if_pos c13] at hF
            exact w_Mo_typeOf_65 hB hd  hQ _ (q9.2) (a0) (q9.1) ha0 (lk_put_ne rfl (by decide) (Or.inl rfl)) lk_put hF
          · rw [if_neg c13] at hF
            refine r_iload_n f_Mo_typeOf_30 (lk_put_ne rfl (by decide) (Or.inl rfl)) ?_
            refine r_if_eq f_Mo_typeOf_31 (fun c14 => ?_) (fun c14 => ?_)
            · rw [if_neg (bz_nt c14)] at hF
              exact w_Mo_typeOf_40 hB hd  hQ _ (q9.2) (a0) (a1) (a3) (q9.1) ha0 (lk_put_ne rfl (by decide) (Or.inl rfl)) (lk_put_ne rfl (by decide) (Or.inl rfl)) (lk_put_ne rfl (by decide) (Or.inl rfl)) lk_put hF
            · rw [if_pos (bz_t c14)] at hF
              refine r_iload f_Mo_typeOf_34 lk_put ?_
              refine r_iconst f_Mo_typeOf_36 (v := 3) (by decide) ?_
              refine r_icmp_eq f_Mo_typeOf_37 (fun c15 => ?_) (fun c15 => ?_)
              · rw [if_pos c15] at hF
                exact w_Mo_typeOf_65 hB hd  hQ _ (q9.2) (a0) (q9.1) ha0 (lk_put_ne rfl (by decide) (Or.inl rfl)) lk_put hF
              · rw [if_neg c15] at hF
                exact w_Mo_typeOf_40 hB hd  hQ _ (q9.2) (a0) (a1) (a3) (q9.1) ha0 (lk_put_ne rfl (by decide) (Or.inl rfl)) (lk_put_ne rfl (by decide) (Or.inl rfl)) (lk_put_ne rfl (by decide) (Or.inl rfl)) lk_put hF
theorem f_Mo_scanMethod_0 : fetch 35 0 = some (.aload_n 0, 1, 0, 0, 0) := rfl
theorem f_Mo_scanMethod_1 : fetch 35 1 = some (.iload_n 2, 1, 0, 0, 0) := rfl
theorem f_Mo_scanMethod_2 : fetch 35 2 = some (.iconst 0, 1, 0, 0, 0) := rfl
theorem f_Mo_scanMethod_3 : fetch 35 3 = some (.iconst 1, 1, 0, 0, 0) := rfl
theorem f_Mo_scanMethod_4 : fetch 35 4 = some (.invokevirtual 132, 3, 34, 3, 44) := rfl
theorem f_Mo_scanMethod_7 : fetch 35 7 = some (.istore 4, 2, 0, 0, 0) := rfl
theorem f_Mo_scanMethod_9 : fetch 35 9 = some (.aload_n 0, 1, 0, 0, 0) := rfl
theorem f_Mo_scanMethod_10 : fetch 35 10 = some (.iconst 0, 1, 0, 0, 0) := rfl
theorem f_Mo_scanMethod_11 : fetch 35 11 = some (.iconst 3, 1, 0, 0, 0) := rfl
theorem f_Mo_scanMethod_12 : fetch 35 12 = some (.invokevirtual 125, 3, 33, 2, 43) := rfl
theorem f_Mo_scanMethod_15 : fetch 35 15 = some (.istore 5, 2, 0, 0, 0) := rfl
theorem f_Mo_scanMethod_17 : fetch 35 17 = some (.iload_n 3, 1, 0, 0, 0) := rfl
theorem f_Mo_scanMethod_18 : fetch 35 18 = some (.ifCond .eq 11, 3, 29, 0, 0) := rfl
theorem f_Mo_scanMethod_21 : fetch 35 21 = some (.aload_n 0, 1, 0, 0, 0) := rfl
theorem f_Mo_scanMethod_22 : fetch 35 22 = some (.getfield 19, 3, 8, 8, 30) := rfl
theorem f_Mo_scanMethod_25 : fetch 35 25 = some (.iload_n 1, 1, 0, 0, 0) := rfl
theorem f_Mo_scanMethod_26 : fetch 35 26 = some (.iload 4, 2, 0, 0, 0) := rfl
theorem f_Mo_scanMethod_28 : fetch 35 28 = some (.iastore, 1, 0, 0, 0) := rfl
theorem f_Mo_scanMethod_29 : fetch 35 29 = some (.iload_n 3, 1, 0, 0, 0) := rfl
theorem f_Mo_scanMethod_30 : fetch 35 30 = some (.ifCond .eq 11, 3, 41, 0, 0) := rfl
theorem f_Mo_scanMethod_33 : fetch 35 33 = some (.aload_n 0, 1, 0, 0, 0) := rfl
theorem f_Mo_scanMethod_34 : fetch 35 34 = some (.getfield 22, 3, 8, 9, 31) := rfl
theorem f_Mo_scanMethod_37 : fetch 35 37 = some (.iload_n 1, 1, 0, 0, 0) := rfl
theorem f_Mo_scanMethod_38 : fetch 35 38 = some (.iload 5, 2, 0, 0, 0) := rfl
theorem f_Mo_scanMethod_40 : fetch 35 40 = some (.iastore, 1, 0, 0, 0) := rfl
theorem f_Mo_scanMethod_41 : fetch 35 41 = some (.iconst 0, 1, 0, 0, 0) := rfl
theorem f_Mo_scanMethod_42 : fetch 35 42 = some (.istore 6, 2, 0, 0, 0) := rfl
theorem f_Mo_scanMethod_44 : fetch 35 44 = some (.iload 6, 2, 0, 0, 0) := rfl
theorem f_Mo_scanMethod_46 : fetch 35 46 = some (.iload 5, 2, 0, 0, 0) := rfl
theorem f_Mo_scanMethod_48 : fetch 35 48 = some (.if_icmp .ge 42, 3, 90, 0, 0) := rfl
theorem f_Mo_scanMethod_51 : fetch 35 51 = some (.aload_n 0, 1, 0, 0, 0) := rfl
theorem f_Mo_scanMethod_52 : fetch 35 52 = some (.getfield 114, 3, 8, 3, 60) := rfl
theorem f_Mo_scanMethod_55 : fetch 35 55 = some (.ifCond .ne 35, 3, 90, 0, 0) := rfl
theorem f_Mo_scanMethod_58 : fetch 35 58 = some (.aload_n 0, 1, 0, 0, 0) := rfl
theorem f_Mo_scanMethod_59 : fetch 35 59 = some (.iload_n 2, 1, 0, 0, 0) := rfl
theorem f_Mo_scanMethod_60 : fetch 35 60 = some (.iconst 1, 1, 0, 0, 0) := rfl
theorem f_Mo_scanMethod_61 : fetch 35 61 = some (.iconst 0, 1, 0, 0, 0) := rfl
theorem f_Mo_scanMethod_62 : fetch 35 62 = some (.invokevirtual 132, 3, 34, 3, 44) := rfl
theorem f_Mo_scanMethod_65 : fetch 35 65 = some (.istore 7, 2, 0, 0, 0) := rfl
theorem f_Mo_scanMethod_67 : fetch 35 67 = some (.iload_n 3, 1, 0, 0, 0) := rfl
theorem f_Mo_scanMethod_68 : fetch 35 68 = some (.ifCond .eq 16, 3, 84, 0, 0) := rfl
theorem f_Mo_scanMethod_71 : fetch 35 71 = some (.aload_n 0, 1, 0, 0, 0) := rfl
theorem f_Mo_scanMethod_72 : fetch 35 72 = some (.getfield 25, 3, 8, 10, 32) := rfl
theorem f_Mo_scanMethod_75 : fetch 35 75 = some (.iconst 3, 1, 0, 0, 0) := rfl
theorem f_Mo_scanMethod_76 : fetch 35 76 = some (.iload_n 1, 1, 0, 0, 0) := rfl
theorem f_Mo_scanMethod_77 : fetch 35 77 = some (.imul, 1, 0, 0, 0) := rfl
theorem f_Mo_scanMethod_78 : fetch 35 78 = some (.iload 6, 2, 0, 0, 0) := rfl
theorem f_Mo_scanMethod_80 : fetch 35 80 = some (.iadd, 1, 0, 0, 0) := rfl
theorem f_Mo_scanMethod_81 : fetch 35 81 = some (.iload 7, 2, 0, 0, 0) := rfl
theorem f_Mo_scanMethod_83 : fetch 35 83 = some (.iastore, 1, 0, 0, 0) := rfl
theorem f_Mo_scanMethod_84 : fetch 35 84 = some (.iinc 6 1, 3, 0, 0, 0) := rfl
theorem f_Mo_scanMethod_87 : fetch 35 87 = some (.goto (-43), 3, 44, 0, 0) := rfl
theorem f_Mo_scanMethod_90 : fetch 35 90 = some (.aload_n 0, 1, 0, 0, 0) := rfl
theorem f_Mo_scanMethod_91 : fetch 35 91 = some (.iconst 0, 1, 0, 0, 0) := rfl
theorem f_Mo_scanMethod_92 : fetch 35 92 = some (.iconst 4, 1, 0, 0, 0) := rfl
theorem f_Mo_scanMethod_93 : fetch 35 93 = some (.invokevirtual 125, 3, 33, 2, 43) := rfl
theorem f_Mo_scanMethod_96 : fetch 35 96 = some (.istore 6, 2, 0, 0, 0) := rfl
theorem f_Mo_scanMethod_98 : fetch 35 98 = some (.iload_n 3, 1, 0, 0, 0) := rfl
theorem f_Mo_scanMethod_99 : fetch 35 99 = some (.ifCond .eq 11, 3, 110, 0, 0) := rfl
theorem f_Mo_scanMethod_102 : fetch 35 102 = some (.aload_n 0, 1, 0, 0, 0) := rfl
theorem f_Mo_scanMethod_103 : fetch 35 103 = some (.getfield 28, 3, 8, 11, 33) := rfl
theorem f_Mo_scanMethod_106 : fetch 35 106 = some (.iload_n 1, 1, 0, 0, 0) := rfl
theorem f_Mo_scanMethod_107 : fetch 35 107 = some (.iload 6, 2, 0, 0, 0) := rfl
theorem f_Mo_scanMethod_109 : fetch 35 109 = some (.iastore, 1, 0, 0, 0) := rfl
theorem f_Mo_scanMethod_110 : fetch 35 110 = some (.iconst 0, 1, 0, 0, 0) := rfl
theorem f_Mo_scanMethod_111 : fetch 35 111 = some (.istore 7, 2, 0, 0, 0) := rfl
theorem f_Mo_scanMethod_113 : fetch 35 113 = some (.iload 7, 2, 0, 0, 0) := rfl
theorem f_Mo_scanMethod_115 : fetch 35 115 = some (.iload 6, 2, 0, 0, 0) := rfl
theorem f_Mo_scanMethod_117 : fetch 35 117 = some (.if_icmp .ge 42, 3, 159, 0, 0) := rfl
theorem f_Mo_scanMethod_120 : fetch 35 120 = some (.aload_n 0, 1, 0, 0, 0) := rfl
theorem f_Mo_scanMethod_121 : fetch 35 121 = some (.getfield 114, 3, 8, 3, 60) := rfl
theorem f_Mo_scanMethod_124 : fetch 35 124 = some (.ifCond .ne 35, 3, 159, 0, 0) := rfl
theorem f_Mo_scanMethod_127 : fetch 35 127 = some (.aload_n 0, 1, 0, 0, 0) := rfl
theorem f_Mo_scanMethod_128 : fetch 35 128 = some (.iload_n 2, 1, 0, 0, 0) := rfl
theorem f_Mo_scanMethod_129 : fetch 35 129 = some (.iconst 0, 1, 0, 0, 0) := rfl
theorem f_Mo_scanMethod_130 : fetch 35 130 = some (.iconst 0, 1, 0, 0, 0) := rfl
theorem f_Mo_scanMethod_131 : fetch 35 131 = some (.invokevirtual 132, 3, 34, 3, 44) := rfl
theorem f_Mo_scanMethod_134 : fetch 35 134 = some (.istore 8, 2, 0, 0, 0) := rfl
theorem f_Mo_scanMethod_136 : fetch 35 136 = some (.iload_n 3, 1, 0, 0, 0) := rfl
theorem f_Mo_scanMethod_137 : fetch 35 137 = some (.ifCond .eq 16, 3, 153, 0, 0) := rfl
theorem f_Mo_scanMethod_140 : fetch 35 140 = some (.aload_n 0, 1, 0, 0, 0) := rfl
theorem f_Mo_scanMethod_141 : fetch 35 141 = some (.getfield 31, 3, 8, 12, 34) := rfl
theorem f_Mo_scanMethod_144 : fetch 35 144 = some (.iconst 4, 1, 0, 0, 0) := rfl
theorem f_Mo_scanMethod_145 : fetch 35 145 = some (.iload_n 1, 1, 0, 0, 0) := rfl
theorem f_Mo_scanMethod_146 : fetch 35 146 = some (.imul, 1, 0, 0, 0) := rfl
theorem f_Mo_scanMethod_147 : fetch 35 147 = some (.iload 7, 2, 0, 0, 0) := rfl
theorem f_Mo_scanMethod_149 : fetch 35 149 = some (.iadd, 1, 0, 0, 0) := rfl
theorem f_Mo_scanMethod_150 : fetch 35 150 = some (.iload 8, 2, 0, 0, 0) := rfl
theorem f_Mo_scanMethod_152 : fetch 35 152 = some (.iastore, 1, 0, 0, 0) := rfl
theorem f_Mo_scanMethod_153 : fetch 35 153 = some (.iinc 7 1, 3, 0, 0, 0) := rfl
theorem f_Mo_scanMethod_156 : fetch 35 156 = some (.goto (-43), 3, 113, 0, 0) := rfl
theorem f_Mo_scanMethod_159 : fetch 35 159 = some (.aload_n 0, 1, 0, 0, 0) := rfl
theorem f_Mo_scanMethod_160 : fetch 35 160 = some (.iconst 0, 1, 0, 0, 0) := rfl
theorem f_Mo_scanMethod_161 : fetch 35 161 = some (.iconst 3, 1, 0, 0, 0) := rfl
theorem f_Mo_scanMethod_162 : fetch 35 162 = some (.invokevirtual 125, 3, 33, 2, 43) := rfl
theorem f_Mo_scanMethod_165 : fetch 35 165 = some (.istore 7, 2, 0, 0, 0) := rfl
theorem f_Mo_scanMethod_167 : fetch 35 167 = some (.iload_n 3, 1, 0, 0, 0) := rfl
theorem f_Mo_scanMethod_168 : fetch 35 168 = some (.ifCond .eq 11, 3, 179, 0, 0) := rfl
theorem f_Mo_scanMethod_171 : fetch 35 171 = some (.aload_n 0, 1, 0, 0, 0) := rfl
theorem f_Mo_scanMethod_172 : fetch 35 172 = some (.getfield 34, 3, 8, 13, 35) := rfl
theorem f_Mo_scanMethod_175 : fetch 35 175 = some (.iload_n 1, 1, 0, 0, 0) := rfl
theorem f_Mo_scanMethod_176 : fetch 35 176 = some (.iload 7, 2, 0, 0, 0) := rfl
theorem f_Mo_scanMethod_178 : fetch 35 178 = some (.iastore, 1, 0, 0, 0) := rfl
theorem f_Mo_scanMethod_179 : fetch 35 179 = some (.iconst 0, 1, 0, 0, 0) := rfl
theorem f_Mo_scanMethod_180 : fetch 35 180 = some (.istore 8, 2, 0, 0, 0) := rfl
theorem f_Mo_scanMethod_182 : fetch 35 182 = some (.iload 8, 2, 0, 0, 0) := rfl
theorem f_Mo_scanMethod_184 : fetch 35 184 = some (.iload 7, 2, 0, 0, 0) := rfl
theorem f_Mo_scanMethod_186 : fetch 35 186 = some (.if_icmp .ge 110, 3, 296, 0, 0) := rfl
theorem f_Mo_scanMethod_189 : fetch 35 189 = some (.aload_n 0, 1, 0, 0, 0) := rfl
theorem f_Mo_scanMethod_190 : fetch 35 190 = some (.getfield 114, 3, 8, 3, 60) := rfl
theorem f_Mo_scanMethod_193 : fetch 35 193 = some (.ifCond .ne 103, 3, 296, 0, 0) := rfl
theorem f_Mo_scanMethod_196 : fetch 35 196 = some (.aload_n 0, 1, 0, 0, 0) := rfl
theorem f_Mo_scanMethod_197 : fetch 35 197 = some (.invokevirtual 121, 3, 32, 0, 42) := rfl
theorem f_Mo_scanMethod_200 : fetch 35 200 = some (.istore 9, 2, 0, 0, 0) := rfl
theorem f_Mo_scanMethod_202 : fetch 35 202 = some (.aload_n 0, 1, 0, 0, 0) := rfl
theorem f_Mo_scanMethod_203 : fetch 35 203 = some (.invokevirtual 121, 3, 32, 0, 42) := rfl
theorem f_Mo_scanMethod_206 : fetch 35 206 = some (.istore 10, 2, 0, 0, 0) := rfl
theorem f_Mo_scanMethod_208 : fetch 35 208 = some (.aload_n 0, 1, 0, 0, 0) := rfl
theorem f_Mo_scanMethod_209 : fetch 35 209 = some (.invokevirtual 121, 3, 32, 0, 42) := rfl
theorem f_Mo_scanMethod_212 : fetch 35 212 = some (.istore 11, 2, 0, 0, 0) := rfl
theorem f_Mo_scanMethod_214 : fetch 35 214 = some (.aload_n 0, 1, 0, 0, 0) := rfl
theorem f_Mo_scanMethod_215 : fetch 35 215 = some (.iconst 0, 1, 0, 0, 0) := rfl
theorem f_Mo_scanMethod_216 : fetch 35 216 = some (.iconst 1, 1, 0, 0, 0) := rfl
theorem f_Mo_scanMethod_217 : fetch 35 217 = some (.invokevirtual 125, 3, 33, 2, 43) := rfl
theorem f_Mo_scanMethod_220 : fetch 35 220 = some (.istore 12, 2, 0, 0, 0) := rfl
theorem f_Mo_scanMethod_222 : fetch 35 222 = some (.iload_n 3, 1, 0, 0, 0) := rfl
theorem f_Mo_scanMethod_223 : fetch 35 223 = some (.ifCond .ne 6, 3, 229, 0, 0) := rfl
theorem f_Mo_scanMethod_226 : fetch 35 226 = some (.goto 64, 3, 290, 0, 0) := rfl
theorem f_Mo_scanMethod_229 : fetch 35 229 = some (.aload_n 0, 1, 0, 0, 0) := rfl
theorem f_Mo_scanMethod_230 : fetch 35 230 = some (.getfield 37, 3, 8, 14, 36) := rfl
theorem f_Mo_scanMethod_233 : fetch 35 233 = some (.iconst 3, 1, 0, 0, 0) := rfl
theorem f_Mo_scanMethod_234 : fetch 35 234 = some (.iload_n 1, 1, 0, 0, 0) := rfl
theorem f_Mo_scanMethod_235 : fetch 35 235 = some (.imul, 1, 0, 0, 0) := rfl
theorem f_Mo_scanMethod_236 : fetch 35 236 = some (.iload 8, 2, 0, 0, 0) := rfl
theorem f_Mo_scanMethod_238 : fetch 35 238 = some (.iadd, 1, 0, 0, 0) := rfl
theorem f_Mo_scanMethod_239 : fetch 35 239 = some (.iload 9, 2, 0, 0, 0) := rfl
theorem f_Mo_scanMethod_241 : fetch 35 241 = some (.iastore, 1, 0, 0, 0) := rfl
theorem f_Mo_scanMethod_242 : fetch 35 242 = some (.aload_n 0, 1, 0, 0, 0) := rfl
theorem f_Mo_scanMethod_243 : fetch 35 243 = some (.getfield 40, 3, 8, 15, 37) := rfl
theorem f_Mo_scanMethod_246 : fetch 35 246 = some (.iconst 3, 1, 0, 0, 0) := rfl
theorem f_Mo_scanMethod_247 : fetch 35 247 = some (.iload_n 1, 1, 0, 0, 0) := rfl
theorem f_Mo_scanMethod_248 : fetch 35 248 = some (.imul, 1, 0, 0, 0) := rfl
theorem f_Mo_scanMethod_249 : fetch 35 249 = some (.iload 8, 2, 0, 0, 0) := rfl
theorem f_Mo_scanMethod_251 : fetch 35 251 = some (.iadd, 1, 0, 0, 0) := rfl
theorem f_Mo_scanMethod_252 : fetch 35 252 = some (.iload 10, 2, 0, 0, 0) := rfl
theorem f_Mo_scanMethod_254 : fetch 35 254 = some (.iastore, 1, 0, 0, 0) := rfl
theorem f_Mo_scanMethod_255 : fetch 35 255 = some (.aload_n 0, 1, 0, 0, 0) := rfl
theorem f_Mo_scanMethod_256 : fetch 35 256 = some (.getfield 43, 3, 8, 16, 38) := rfl
theorem f_Mo_scanMethod_259 : fetch 35 259 = some (.iconst 3, 1, 0, 0, 0) := rfl
theorem f_Mo_scanMethod_260 : fetch 35 260 = some (.iload_n 1, 1, 0, 0, 0) := rfl
theorem f_Mo_scanMethod_261 : fetch 35 261 = some (.imul, 1, 0, 0, 0) := rfl
theorem f_Mo_scanMethod_262 : fetch 35 262 = some (.iload 8, 2, 0, 0, 0) := rfl
theorem f_Mo_scanMethod_264 : fetch 35 264 = some (.iadd, 1, 0, 0, 0) := rfl
theorem f_Mo_scanMethod_265 : fetch 35 265 = some (.iload 11, 2, 0, 0, 0) := rfl
theorem f_Mo_scanMethod_267 : fetch 35 267 = some (.iastore, 1, 0, 0, 0) := rfl
theorem f_Mo_scanMethod_268 : fetch 35 268 = some (.aload_n 0, 1, 0, 0, 0) := rfl
theorem f_Mo_scanMethod_269 : fetch 35 269 = some (.getfield 46, 3, 8, 17, 39) := rfl
theorem f_Mo_scanMethod_272 : fetch 35 272 = some (.iconst 3, 1, 0, 0, 0) := rfl
theorem f_Mo_scanMethod_273 : fetch 35 273 = some (.iload_n 1, 1, 0, 0, 0) := rfl
theorem f_Mo_scanMethod_274 : fetch 35 274 = some (.imul, 1, 0, 0, 0) := rfl
theorem f_Mo_scanMethod_275 : fetch 35 275 = some (.iload 8, 2, 0, 0, 0) := rfl
theorem f_Mo_scanMethod_277 : fetch 35 277 = some (.iadd, 1, 0, 0, 0) := rfl
theorem f_Mo_scanMethod_278 : fetch 35 278 = some (.iload 12, 2, 0, 0, 0) := rfl
theorem f_Mo_scanMethod_280 : fetch 35 280 = some (.iconst 1, 1, 0, 0, 0) := rfl
theorem f_Mo_scanMethod_281 : fetch 35 281 = some (.if_icmp .ne 7, 3, 288, 0, 0) := rfl
theorem f_Mo_scanMethod_284 : fetch 35 284 = some (.iconst 1, 1, 0, 0, 0) := rfl
theorem f_Mo_scanMethod_285 : fetch 35 285 = some (.goto 4, 3, 289, 0, 0) := rfl
theorem f_Mo_scanMethod_288 : fetch 35 288 = some (.iconst 0, 1, 0, 0, 0) := rfl
theorem f_Mo_scanMethod_289 : fetch 35 289 = some (.bastore, 1, 0, 0, 0) := rfl
theorem f_Mo_scanMethod_290 : fetch 35 290 = some (.iinc 8 1, 3, 0, 0, 0) := rfl
theorem f_Mo_scanMethod_293 : fetch 35 293 = some (.goto (-111), 3, 182, 0, 0) := rfl
theorem f_Mo_scanMethod_296 : fetch 35 296 = some (.aload_n 0, 1, 0, 0, 0) := rfl
theorem f_Mo_scanMethod_297 : fetch 35 297 = some (.iconst 1, 1, 0, 0, 0) := rfl
theorem f_Mo_scanMethod_298 : fetch 35 298 = some (.bipush 100, 2, 0, 0, 0) := rfl
theorem f_Mo_scanMethod_300 : fetch 35 300 = some (.invokevirtual 125, 3, 33, 2, 43) := rfl
theorem f_Mo_scanMethod_303 : fetch 35 303 = some (.istore 8, 2, 0, 0, 0) := rfl
theorem f_Mo_scanMethod_305 : fetch 35 305 = some (.iload_n 3, 1, 0, 0, 0) := rfl
theorem f_Mo_scanMethod_306 : fetch 35 306 = some (.ifCond .eq 11, 3, 317, 0, 0) := rfl
theorem f_Mo_scanMethod_309 : fetch 35 309 = some (.aload_n 0, 1, 0, 0, 0) := rfl
theorem f_Mo_scanMethod_310 : fetch 35 310 = some (.getfield 50, 3, 8, 18, 40) := rfl
theorem f_Mo_scanMethod_313 : fetch 35 313 = some (.iload_n 1, 1, 0, 0, 0) := rfl
theorem f_Mo_scanMethod_314 : fetch 35 314 = some (.iload 8, 2, 0, 0, 0) := rfl
theorem f_Mo_scanMethod_316 : fetch 35 316 = some (.iastore, 1, 0, 0, 0) := rfl
theorem f_Mo_scanMethod_317 : fetch 35 317 = some (.iconst 0, 1, 0, 0, 0) := rfl
theorem f_Mo_scanMethod_318 : fetch 35 318 = some (.istore 9, 2, 0, 0, 0) := rfl
theorem f_Mo_scanMethod_320 : fetch 35 320 = some (.iload 9, 2, 0, 0, 0) := rfl
theorem f_Mo_scanMethod_322 : fetch 35 322 = some (.iload 8, 2, 0, 0, 0) := rfl
theorem f_Mo_scanMethod_324 : fetch 35 324 = some (.if_icmp .ge 40, 3, 364, 0, 0) := rfl
theorem f_Mo_scanMethod_327 : fetch 35 327 = some (.aload_n 0, 1, 0, 0, 0) := rfl
theorem f_Mo_scanMethod_328 : fetch 35 328 = some (.getfield 114, 3, 8, 3, 60) := rfl
theorem f_Mo_scanMethod_331 : fetch 35 331 = some (.ifCond .ne 33, 3, 364, 0, 0) := rfl
theorem f_Mo_scanMethod_334 : fetch 35 334 = some (.aload_n 0, 1, 0, 0, 0) := rfl
theorem f_Mo_scanMethod_335 : fetch 35 335 = some (.invokevirtual 121, 3, 32, 0, 42) := rfl
theorem f_Mo_scanMethod_338 : fetch 35 338 = some (.istore 10, 2, 0, 0, 0) := rfl
theorem f_Mo_scanMethod_340 : fetch 35 340 = some (.iload_n 3, 1, 0, 0, 0) := rfl
theorem f_Mo_scanMethod_341 : fetch 35 341 = some (.ifCond .eq 17, 3, 358, 0, 0) := rfl
theorem f_Mo_scanMethod_344 : fetch 35 344 = some (.aload_n 0, 1, 0, 0, 0) := rfl
theorem f_Mo_scanMethod_345 : fetch 35 345 = some (.getfield 53, 3, 8, 19, 41) := rfl
theorem f_Mo_scanMethod_348 : fetch 35 348 = some (.bipush 100, 2, 0, 0, 0) := rfl
theorem f_Mo_scanMethod_350 : fetch 35 350 = some (.iload_n 1, 1, 0, 0, 0) := rfl
theorem f_Mo_scanMethod_351 : fetch 35 351 = some (.imul, 1, 0, 0, 0) := rfl
theorem f_Mo_scanMethod_352 : fetch 35 352 = some (.iload 9, 2, 0, 0, 0) := rfl
theorem f_Mo_scanMethod_354 : fetch 35 354 = some (.iadd, 1, 0, 0, 0) := rfl
theorem f_Mo_scanMethod_355 : fetch 35 355 = some (.iload 10, 2, 0, 0, 0) := rfl
theorem f_Mo_scanMethod_357 : fetch 35 357 = some (.iastore, 1, 0, 0, 0) := rfl
theorem f_Mo_scanMethod_358 : fetch 35 358 = some (.iinc 9 1, 3, 0, 0, 0) := rfl
theorem f_Mo_scanMethod_361 : fetch 35 361 = some (.goto (-41), 3, 320, 0, 0) := rfl
theorem f_Mo_scanMethod_364 : fetch 35 364 = some (.return_, 1, 0, 0, 0) := rfl
def F_Mo_scanMethod_364   (σ : SG) : Option (SG) :=
  some σ
set_option maxHeartbeats 4000000 in
theorem w_Mo_scanMethod_364 {b d : Nat} {sc : SC} {pre tl : List PE} {B : Nat} {Q : Option Value → List PE → Prop} {res : SG} (hB : B = b + pre.length) (hd : 2 ≤ d)   (hQ : Q none (HH pre tl SHm B res)) (lv : LV) (σ : SG)   (hF : F_Mo_scanMethod_364   σ = some res) : Rn b sc d 35 364 lv [] (HH pre tl SHm B σ) Q := by
  obtain ⟨e0, rfl⟩ : ∃ e, d = e + 1 := ⟨d - 1, by omega⟩
  unfold F_Mo_scanMethod_364 at hF
  cases hF
  exact r_return f_Mo_scanMethod_364 hQ
def F_Mo_scanMethod_358 (rec320 : Nat → Int32 → Bool → Int32 → Int32 → SG → Option (SG)) (x0 : Nat) (x1 : Int32) (x3 : Bool) (x8 : Int32) (x9 : Int32) (σ : SG) : Option (SG) :=
  rec320 (x0) (x1) (x3) (x8) ((x9 + 1)) σ
set_option maxHeartbeats 4000000 in
theorem w_Mo_scanMethod_358 {b d : Nat} {sc : SC} {pre tl : List PE} {B : Nat} {Q : Option Value → List PE → Prop} {res : SG} (hB : B = b + pre.length) (hd : 2 ≤ d) {rec320 : Nat → Int32 → Bool → Int32 → Int32 → SG → Option (SG)} (hr320 : ∀ (lv : LV) (σ : SG) (x0 : Nat) (x1 : Int32) (x3 : Bool) (x8 : Int32) (x9 : Int32), isC SHm (x0) 8 = true → lv.lookup 0 = some (.ref (B + (x0))) → lv.lookup 1 = some (.int (x1)) → lv.lookup 3 = some (.int (bz (x3))) → lv.lookup 8 = some (.int (x8)) → lv.lookup 9 = some (.int (x9)) →  rec320 x0 x1 x3 x8 x9 σ = some res → Rn b sc d 35 320 lv [] (HH pre tl SHm B σ) Q) (hQ : Q none (HH pre tl SHm B res)) (lv : LV) (σ : SG) (x0 : Nat) (x1 : Int32) (x3 : Bool) (x8 : Int32) (x9 : Int32) (hx0 : isC SHm (x0) 8 = true) (l0 : lv.lookup 0 = some (.ref (B + (x0)))) (l1 : lv.lookup 1 = some (.int (x1))) (l3 : lv.lookup 3 = some (.int (bz (x3)))) (l8 : lv.lookup 8 = some (.int (x8))) (l9 : lv.lookup 9 = some (.int (x9))) (hF : F_Mo_scanMethod_358 rec320 x0 x1 x3 x8 x9 σ = some res) : Rn b sc d 35 358 lv [] (HH pre tl SHm B σ) Q := by
  obtain ⟨e0, rfl⟩ : ∃ e, d = e + 1 := ⟨d - 1, by omega⟩
  unfold F_Mo_scanMethod_358 at hF
  refine r_iinc f_Mo_scanMethod_358 l9 (w := x9 + 1) rfl ?_
  refine r_goto f_Mo_scanMethod_361 ?_
  exact hr320 _ (σ) (x0) (x1) (x3) (x8) ((x9 + 1)) hx0 (lk_put_ne l0 (by decide) (Or.inl rfl)) (lk_put_ne l1 (by decide) (Or.inl rfl)) (lk_put_ne l3 (by decide) (Or.inl rfl)) (lk_put_ne l8 (by decide) (Or.inl rfl)) lk_put hF
def F_Mo_scanMethod_320  : Nat → Nat → Int32 → Bool → Int32 → Int32 → SG → Option (SG)
  | 0, _, _, _, _, _, _ => none
  | n + 1, x0, x1, x3, x8, x9, σ =>
  if x8 ≤ x9 then
  F_Mo_scanMethod_364 σ
  else if (zb (σ.1 (x0) 3)) = true then
  F_Mo_scanMethod_364 σ
  else match F_Mo_next (x0) σ with
  | none => none
  | some q3 =>
  if x3 = true then
  if (((100 : Int32) * x1) + x9) < 0 ∨ 600 ≤ ((((100 : Int32) * x1) + x9)).toNatClampNeg then none else
  stl (setA q3.2 ((cref SHm (x0) 19)) (((((100 : Int32) * x1) + x9)).toNatClampNeg) (q3.1)) fun s6 =>
  F_Mo_scanMethod_358 (F_Mo_scanMethod_320  n) (x0) (x1) (x3) (x8) (x9) s6
  else F_Mo_scanMethod_358 (F_Mo_scanMethod_320  n) (x0) (x1) (x3) (x8) (x9) q3.2
set_option maxHeartbeats 4000000 in
theorem w_Mo_scanMethod_320 {b d : Nat} {sc : SC} {pre tl : List PE} {B : Nat} {Q : Option Value → List PE → Prop} {res : SG} (hB : B = b + pre.length) (hd : 2 ≤ d)   (hQ : Q none (HH pre tl SHm B res)) : ∀ (n : Nat) (lv : LV) (σ : SG) (x0 : Nat) (x1 : Int32) (x3 : Bool) (x8 : Int32) (x9 : Int32), isC SHm (x0) 8 = true → lv.lookup 0 = some (.ref (B + (x0))) → lv.lookup 1 = some (.int (x1)) → lv.lookup 3 = some (.int (bz (x3))) → lv.lookup 8 = some (.int (x8)) → lv.lookup 9 = some (.int (x9)) → F_Mo_scanMethod_320  n x0 x1 x3 x8 x9 σ = some res → Rn b sc d 35 320 lv [] (HH pre tl SHm B σ) Q := by
  obtain ⟨e0, rfl⟩ : ∃ e, d = e + 1 := ⟨d - 1, by omega⟩
  intro n
  induction n with
  | zero => intro lv σ x0 x1 x3 x8 x9 hx0 l0 l1 l3 l8 l9 hF; cases hF
  | succ n ih =>
    intro lv σ x0 x1 x3 x8 x9 hx0 l0 l1 l3 l8 l9 hF
    unfold F_Mo_scanMethod_320 at hF
    refine r_iload f_Mo_scanMethod_320 l9 ?_
    refine r_iload f_Mo_scanMethod_322 l8 ?_
    refine r_icmp_ge f_Mo_scanMethod_324 (fun c1 => ?_) (fun c1 => ?_)
    · rw [if_pos c1] at hF
      exact w_Mo_scanMethod_364 hB hd  hQ _ (σ) hF
    · rw [if_neg c1] at hF
      refine r_aload_n f_Mo_scanMethod_327 l0 ?_
      refine t_getz hB hx0 f_Mo_scanMethod_328 rfl ?_
      refine r_if_ne f_Mo_scanMethod_331 (fun c2 => ?_) (fun c2 => ?_)
      · rw [if_pos (bz_t c2)] at hF
        exact w_Mo_scanMethod_364 hB hd  hQ _ (σ) hF
      · rw [if_neg (bz_nt (Decidable.not_not.mp c2))] at hF
        refine r_aload_n f_Mo_scanMethod_334 l0 ?_
        cases hq3 : F_Mo_next (x0) σ with
        | none => simp only [hq3] at hF; cases hF
        | some q3 =>
          simp only [hq3] at hF
          refine t_V0i hB hx0 rfl rfl f_Mo_scanMethod_335 (by decide) (Nat.le_of_ble_eq_true rfl) (Nat.le_of_ble_eq_true rfl) (w_Mo_next hB  (x0) hx0 hq3 ⟨_, rfl, ?_⟩)
          refine r_istore f_Mo_scanMethod_338 ?_
          refine r_iload_n f_Mo_scanMethod_340 (lk_put_ne l3 (by decide) (Or.inl rfl)) ?_
          refine r_if_eq f_Mo_scanMethod_341 (fun c4 => ?_) (fun c4 => ?_)
          · rw [if_neg (bz_nt c4)] at hF
            exact w_Mo_scanMethod_358 hB hd (ih) hQ _ (q3.2) (x0) (x1) (x3) (x8) (x9) hx0 (lk_put_ne l0 (by decide) (Or.inl rfl)) (lk_put_ne l1 (by decide) (Or.inl rfl)) (lk_put_ne l3 (by decide) (Or.inl rfl)) (lk_put_ne l8 (by decide) (Or.inl rfl)) (lk_put_ne l9 (by decide) (Or.inl rfl)) hF
          · rw [if_pos (bz_t c4)] at hF
            refine r_aload_n f_Mo_scanMethod_344 (lk_put_ne l0 (by decide) (Or.inl rfl)) ?_
            refine t_getc hB hx0 f_Mo_scanMethod_345 rfl ?_
            refine r_bipush f_Mo_scanMethod_348 (v := 100) (by decide) ?_
            refine r_iload_n f_Mo_scanMethod_350 (lk_put_ne l1 (by decide) (Or.inl rfl)) ?_
            refine r_imul f_Mo_scanMethod_351 ?_
            refine r_iload f_Mo_scanMethod_352 (lk_put_ne l9 (by decide) (Or.inl rfl)) ?_
            refine r_iadd f_Mo_scanMethod_354 ?_
            refine r_iload f_Mo_scanMethod_355 lk_put ?_
            by_cases c5 : (((100 : Int32) * x1) + x9) < 0 ∨ 600 ≤ ((((100 : Int32) * x1) + x9)).toNatClampNeg
            · rw [if_pos c5] at hF; cases hF
            rw [if_neg c5] at hF
            refine t_iast hB (cc_8_19 hx0) f_Mo_scanMethod_357 c5 ?_
            generalize hs6 : setA q3.2 ((cref SHm (x0) 19)) (((((100 : Int32) * x1) + x9)).toNatClampNeg) (q3.1) = s6 at hF ⊢
            rw [stl_eq] at hF
            exact w_Mo_scanMethod_358 hB hd (ih) hQ _ (s6) (x0) (x1) (x3) (x8) (x9) hx0 (lk_put_ne l0 (by decide) (Or.inl rfl)) (lk_put_ne l1 (by decide) (Or.inl rfl)) (lk_put_ne l3 (by decide) (Or.inl rfl)) (lk_put_ne l8 (by decide) (Or.inl rfl)) (lk_put_ne l9 (by decide) (Or.inl rfl)) hF
def F_Mo_scanMethod_317  (x0 : Nat) (x1 : Int32) (x3 : Bool) (x8 : Int32) (σ : SG) : Option (SG) :=
  F_Mo_scanMethod_320  5000 (x0) (x1) (x3) (x8) ((0 : Int32)) σ
set_option maxHeartbeats 4000000 in
theorem w_Mo_scanMethod_317 {b d : Nat} {sc : SC} {pre tl : List PE} {B : Nat} {Q : Option Value → List PE → Prop} {res : SG} (hB : B = b + pre.length) (hd : 2 ≤ d)   (hQ : Q none (HH pre tl SHm B res)) (lv : LV) (σ : SG) (x0 : Nat) (x1 : Int32) (x3 : Bool) (x8 : Int32) (hx0 : isC SHm (x0) 8 = true) (l0 : lv.lookup 0 = some (.ref (B + (x0)))) (l1 : lv.lookup 1 = some (.int (x1))) (l3 : lv.lookup 3 = some (.int (bz (x3)))) (l8 : lv.lookup 8 = some (.int (x8))) (hF : F_Mo_scanMethod_317  x0 x1 x3 x8 σ = some res) : Rn b sc d 35 317 lv [] (HH pre tl SHm B σ) Q := by
  obtain ⟨e0, rfl⟩ : ∃ e, d = e + 1 := ⟨d - 1, by omega⟩
  unfold F_Mo_scanMethod_317 at hF
  refine r_iconst f_Mo_scanMethod_317 (v := 0) (by decide) ?_
  refine r_istore f_Mo_scanMethod_318 ?_
  exact w_Mo_scanMethod_320 hB hd  hQ 5000 _ (σ) (x0) (x1) (x3) (x8) ((0 : Int32)) hx0 (lk_put_ne l0 (by decide) (Or.inl rfl)) (lk_put_ne l1 (by decide) (Or.inl rfl)) (lk_put_ne l3 (by decide) (Or.inl rfl)) (lk_put_ne l8 (by decide) (Or.inl rfl)) lk_put hF
def F_Mo_scanMethod_296  (x0 : Nat) (x1 : Int32) (x3 : Bool) (σ : SG) : Option (SG) :=
  match F_Mo_between (x0) ((1 : Int32)) ((100 : Int32)) σ with
  | none => none
  | some q7 =>
  if x3 = true then
  if x1 < 0 ∨ 6 ≤ (x1).toNatClampNeg then none else
  stl (setA q7.2 ((cref SHm (x0) 18)) ((x1).toNatClampNeg) (q7.1)) fun s10 =>
  F_Mo_scanMethod_317 (x0) (x1) (x3) (q7.1) s10
  else F_Mo_scanMethod_317 (x0) (x1) (x3) (q7.1) q7.2
set_option maxHeartbeats 4000000 in
theorem w_Mo_scanMethod_296 {b d : Nat} {sc : SC} {pre tl : List PE} {B : Nat} {Q : Option Value → List PE → Prop} {res : SG} (hB : B = b + pre.length) (hd : 2 ≤ d)   (hQ : Q none (HH pre tl SHm B res)) (lv : LV) (σ : SG) (x0 : Nat) (x1 : Int32) (x3 : Bool) (hx0 : isC SHm (x0) 8 = true) (l0 : lv.lookup 0 = some (.ref (B + (x0)))) (l1 : lv.lookup 1 = some (.int (x1))) (l3 : lv.lookup 3 = some (.int (bz (x3)))) (hF : F_Mo_scanMethod_296  x0 x1 x3 σ = some res) : Rn b sc d 35 296 lv [] (HH pre tl SHm B σ) Q := by
  obtain ⟨e0, rfl⟩ : ∃ e, d = e + 1 := ⟨d - 1, by omega⟩
  unfold F_Mo_scanMethod_296 at hF
  refine r_aload_n f_Mo_scanMethod_296 l0 ?_
  refine r_iconst f_Mo_scanMethod_297 (v := 1) (by decide) ?_
  refine r_bipush f_Mo_scanMethod_298 (v := 100) (by decide) ?_
  cases hq7 : F_Mo_between (x0) ((1 : Int32)) ((100 : Int32)) σ with
  | none => simp only [hq7] at hF; cases hF
  | some q7 =>
    simp only [hq7] at hF
    refine t_V2i hB hx0 rfl rfl f_Mo_scanMethod_300 (by decide) (Nat.le_of_ble_eq_true rfl) (Nat.le_of_ble_eq_true rfl) (w_Mo_between hB (by omega) (x0) ((1 : Int32)) ((100 : Int32)) hx0 hq7 ⟨_, rfl, ?_⟩)
    refine r_istore f_Mo_scanMethod_303 ?_
    refine r_iload_n f_Mo_scanMethod_305 (lk_put_ne l3 (by decide) (Or.inl rfl)) ?_
    refine r_if_eq f_Mo_scanMethod_306 (fun c8 => ?_) (fun c8 => ?_)
    · rw [if_neg (bz_nt c8)] at hF
      exact w_Mo_scanMethod_317 hB hd  hQ _ (q7.2) (x0) (x1) (x3) (q7.1) hx0 (lk_put_ne l0 (by decide) (Or.inl rfl)) (lk_put_ne l1 (by decide) (Or.inl rfl)) (lk_put_ne l3 (by decide) (Or.inl rfl)) lk_put hF
    · rw [if_pos (bz_t c8)] at hF
      refine r_aload_n f_Mo_scanMethod_309 (lk_put_ne l0 (by decide) (Or.inl rfl)) ?_
      refine t_getc hB hx0 f_Mo_scanMethod_310 rfl ?_
      refine r_iload_n f_Mo_scanMethod_313 (lk_put_ne l1 (by decide) (Or.inl rfl)) ?_
      refine r_iload f_Mo_scanMethod_314 lk_put ?_
      by_cases c9 : x1 < 0 ∨ 6 ≤ (x1).toNatClampNeg
      · rw [if_pos c9] at hF; cases hF
      rw [if_neg c9] at hF
      refine t_iast hB (cc_8_18 hx0) f_Mo_scanMethod_316 c9 ?_
      generalize hs10 : setA q7.2 ((cref SHm (x0) 18)) ((x1).toNatClampNeg) (q7.1) = s10 at hF ⊢
      rw [stl_eq] at hF
      exact w_Mo_scanMethod_317 hB hd  hQ _ (s10) (x0) (x1) (x3) (q7.1) hx0 (lk_put_ne l0 (by decide) (Or.inl rfl)) (lk_put_ne l1 (by decide) (Or.inl rfl)) (lk_put_ne l3 (by decide) (Or.inl rfl)) lk_put hF
def F_Mo_scanMethod_290 (rec182 : Nat → Int32 → Bool → Int32 → Int32 → SG → Option (SG)) (x0 : Nat) (x1 : Int32) (x3 : Bool) (x7 : Int32) (x8 : Int32) (σ : SG) : Option (SG) :=
  rec182 (x0) (x1) (x3) (x7) ((x8 + 1)) σ
set_option maxHeartbeats 4000000 in
theorem w_Mo_scanMethod_290 {b d : Nat} {sc : SC} {pre tl : List PE} {B : Nat} {Q : Option Value → List PE → Prop} {res : SG} (hB : B = b + pre.length) (hd : 2 ≤ d) {rec182 : Nat → Int32 → Bool → Int32 → Int32 → SG → Option (SG)} (hr182 : ∀ (lv : LV) (σ : SG) (x0 : Nat) (x1 : Int32) (x3 : Bool) (x7 : Int32) (x8 : Int32), isC SHm (x0) 8 = true → lv.lookup 0 = some (.ref (B + (x0))) → lv.lookup 1 = some (.int (x1)) → lv.lookup 3 = some (.int (bz (x3))) → lv.lookup 7 = some (.int (x7)) → lv.lookup 8 = some (.int (x8)) →  rec182 x0 x1 x3 x7 x8 σ = some res → Rn b sc d 35 182 lv [] (HH pre tl SHm B σ) Q) (hQ : Q none (HH pre tl SHm B res)) (lv : LV) (σ : SG) (x0 : Nat) (x1 : Int32) (x3 : Bool) (x7 : Int32) (x8 : Int32) (hx0 : isC SHm (x0) 8 = true) (l0 : lv.lookup 0 = some (.ref (B + (x0)))) (l1 : lv.lookup 1 = some (.int (x1))) (l3 : lv.lookup 3 = some (.int (bz (x3)))) (l7 : lv.lookup 7 = some (.int (x7))) (l8 : lv.lookup 8 = some (.int (x8))) (hF : F_Mo_scanMethod_290 rec182 x0 x1 x3 x7 x8 σ = some res) : Rn b sc d 35 290 lv [] (HH pre tl SHm B σ) Q := by
  obtain ⟨e0, rfl⟩ : ∃ e, d = e + 1 := ⟨d - 1, by omega⟩
  unfold F_Mo_scanMethod_290 at hF
  refine r_iinc f_Mo_scanMethod_290 l8 (w := x8 + 1) rfl ?_
  refine r_goto f_Mo_scanMethod_293 ?_
  exact hr182 _ (σ) (x0) (x1) (x3) (x7) ((x8 + 1)) hx0 (lk_put_ne l0 (by decide) (Or.inl rfl)) (lk_put_ne l1 (by decide) (Or.inl rfl)) (lk_put_ne l3 (by decide) (Or.inl rfl)) (lk_put_ne l7 (by decide) (Or.inl rfl)) lk_put hF
def F_Mo_scanMethod_289 (rec182 : Nat → Int32 → Bool → Int32 → Int32 → SG → Option (SG)) (x0 : Nat) (x1 : Int32) (x3 : Bool) (x7 : Int32) (x8 : Int32) (y0 : Nat) (y1 : Int32) (y2 : Bool) (σ : SG) : Option (SG) :=
  if y1 < 0 ∨ 18 ≤ (y1).toNatClampNeg then none else
  stl (setA σ (y0) ((y1).toNatClampNeg) (bz (y2))) fun s12 =>
  F_Mo_scanMethod_290 (rec182) (x0) (x1) (x3) (x7) (x8) s12
set_option maxHeartbeats 4000000 in
theorem w_Mo_scanMethod_289 {b d : Nat} {sc : SC} {pre tl : List PE} {B : Nat} {Q : Option Value → List PE → Prop} {res : SG} (hB : B = b + pre.length) (hd : 2 ≤ d) {rec182 : Nat → Int32 → Bool → Int32 → Int32 → SG → Option (SG)} (hr182 : ∀ (lv : LV) (σ : SG) (x0 : Nat) (x1 : Int32) (x3 : Bool) (x7 : Int32) (x8 : Int32), isC SHm (x0) 8 = true → lv.lookup 0 = some (.ref (B + (x0))) → lv.lookup 1 = some (.int (x1)) → lv.lookup 3 = some (.int (bz (x3))) → lv.lookup 7 = some (.int (x7)) → lv.lookup 8 = some (.int (x8)) →  rec182 x0 x1 x3 x7 x8 σ = some res → Rn b sc d 35 182 lv [] (HH pre tl SHm B σ) Q) (hQ : Q none (HH pre tl SHm B res)) (lv : LV) (σ : SG) (x0 : Nat) (x1 : Int32) (x3 : Bool) (x7 : Int32) (x8 : Int32) (y0 : Nat) (y1 : Int32) (y2 : Bool) (hx0 : isC SHm (x0) 8 = true) (hy0 : isA SHm (y0) 2 18 = true) (l0 : lv.lookup 0 = some (.ref (B + (x0)))) (l1 : lv.lookup 1 = some (.int (x1))) (l3 : lv.lookup 3 = some (.int (bz (x3)))) (l7 : lv.lookup 7 = some (.int (x7))) (l8 : lv.lookup 8 = some (.int (x8))) (hF : F_Mo_scanMethod_289 rec182 x0 x1 x3 x7 x8 y0 y1 y2 σ = some res) : Rn b sc d 35 289 lv [.int (bz (y2)), .int (y1), .ref (B + (y0))] (HH pre tl SHm B σ) Q := by
  obtain ⟨e0, rfl⟩ : ∃ e, d = e + 1 := ⟨d - 1, by omega⟩
  unfold F_Mo_scanMethod_289 at hF
  by_cases c11 : y1 < 0 ∨ 18 ≤ (y1).toNatClampNeg
  · rw [if_pos c11] at hF; cases hF
  rw [if_neg c11] at hF
  refine t_bast (v := y2) hB hy0 f_Mo_scanMethod_289 c11 ?_
  generalize hs12 : setA σ (y0) ((y1).toNatClampNeg) (bz (y2)) = s12 at hF ⊢
  rw [stl_eq] at hF
  exact w_Mo_scanMethod_290 hB hd (hr182) hQ _ (s12) (x0) (x1) (x3) (x7) (x8) hx0 l0 l1 l3 l7 l8 hF
def F_Mo_scanMethod_182  : Nat → Nat → Int32 → Bool → Int32 → Int32 → SG → Option (SG)
  | 0, _, _, _, _, _, _ => none
  | n + 1, x0, x1, x3, x7, x8, σ =>
  if x7 ≤ x8 then
  F_Mo_scanMethod_296 (x0) (x1) (x3) σ
  else if (zb (σ.1 (x0) 3)) = true then
  F_Mo_scanMethod_296 (x0) (x1) (x3) σ
  else match F_Mo_next (x0) σ with
  | none => none
  | some q15 =>
  match F_Mo_next (x0) q15.2 with
  | none => none
  | some q16 =>
  match F_Mo_next (x0) q16.2 with
  | none => none
  | some q17 =>
  match F_Mo_between (x0) ((0 : Int32)) ((1 : Int32)) q17.2 with
  | none => none
  | some q18 =>
  if x3 = true then
  if (((3 : Int32) * x1) + x8) < 0 ∨ 18 ≤ ((((3 : Int32) * x1) + x8)).toNatClampNeg then none else
  stl (setA q18.2 ((cref SHm (x0) 14)) (((((3 : Int32) * x1) + x8)).toNatClampNeg) (q15.1)) fun s21 =>
  if (((3 : Int32) * x1) + x8) < 0 ∨ 18 ≤ ((((3 : Int32) * x1) + x8)).toNatClampNeg then none else
  stl (setA s21 ((cref SHm (x0) 15)) (((((3 : Int32) * x1) + x8)).toNatClampNeg) (q16.1)) fun s23 =>
  if (((3 : Int32) * x1) + x8) < 0 ∨ 18 ≤ ((((3 : Int32) * x1) + x8)).toNatClampNeg then none else
  stl (setA s23 ((cref SHm (x0) 16)) (((((3 : Int32) * x1) + x8)).toNatClampNeg) (q17.1)) fun s25 =>
  if q18.1 = (1 : Int32) then
  F_Mo_scanMethod_289 (F_Mo_scanMethod_182  n) (x0) (x1) (x3) (x7) (x8) ((cref SHm (x0) 17)) ((((3 : Int32) * x1) + x8)) (true) s25
  else F_Mo_scanMethod_289 (F_Mo_scanMethod_182  n) (x0) (x1) (x3) (x7) (x8) ((cref SHm (x0) 17)) ((((3 : Int32) * x1) + x8)) (false) s25
  else F_Mo_scanMethod_290 (F_Mo_scanMethod_182  n) (x0) (x1) (x3) (x7) (x8) q18.2
set_option maxHeartbeats 4000000 in
theorem w_Mo_scanMethod_182 {b d : Nat} {sc : SC} {pre tl : List PE} {B : Nat} {Q : Option Value → List PE → Prop} {res : SG} (hB : B = b + pre.length) (hd : 2 ≤ d)   (hQ : Q none (HH pre tl SHm B res)) : ∀ (n : Nat) (lv : LV) (σ : SG) (x0 : Nat) (x1 : Int32) (x3 : Bool) (x7 : Int32) (x8 : Int32), isC SHm (x0) 8 = true → lv.lookup 0 = some (.ref (B + (x0))) → lv.lookup 1 = some (.int (x1)) → lv.lookup 3 = some (.int (bz (x3))) → lv.lookup 7 = some (.int (x7)) → lv.lookup 8 = some (.int (x8)) → F_Mo_scanMethod_182  n x0 x1 x3 x7 x8 σ = some res → Rn b sc d 35 182 lv [] (HH pre tl SHm B σ) Q := by
  obtain ⟨e0, rfl⟩ : ∃ e, d = e + 1 := ⟨d - 1, by omega⟩
  intro n
  induction n with
  | zero => intro lv σ x0 x1 x3 x7 x8 hx0 l0 l1 l3 l7 l8 hF; cases hF
  | succ n ih =>
    intro lv σ x0 x1 x3 x7 x8 hx0 l0 l1 l3 l7 l8 hF
    unfold F_Mo_scanMethod_182 at hF
    refine r_iload f_Mo_scanMethod_182 l8 ?_
    refine r_iload f_Mo_scanMethod_184 l7 ?_
    refine r_icmp_ge f_Mo_scanMethod_186 (fun c13 => ?_) (fun c13 => ?_)
    · rw [if_pos c13] at hF
      exact w_Mo_scanMethod_296 hB hd  hQ _ (σ) (x0) (x1) (x3) hx0 l0 l1 l3 hF
    · rw [if_neg c13] at hF
      refine r_aload_n f_Mo_scanMethod_189 l0 ?_
      refine t_getz hB hx0 f_Mo_scanMethod_190 rfl ?_
      refine r_if_ne f_Mo_scanMethod_193 (fun c14 => ?_) (fun c14 => ?_)
      · rw [if_pos (bz_t c14)] at hF
        exact w_Mo_scanMethod_296 hB hd  hQ _ (σ) (x0) (x1) (x3) hx0 l0 l1 l3 hF
      · rw [if_neg (bz_nt (Decidable.not_not.mp c14))] at hF
        refine r_aload_n f_Mo_scanMethod_196 l0 ?_
        cases hq15 : F_Mo_next (x0) σ with
        | none => simp only [hq15] at hF; cases hF
        | some q15 =>
          simp only [hq15] at hF
          refine t_V0i hB hx0 rfl rfl f_Mo_scanMethod_197 (by decide) (Nat.le_of_ble_eq_true rfl) (Nat.le_of_ble_eq_true rfl) (w_Mo_next hB  (x0) hx0 hq15 ⟨_, rfl, ?_⟩)
          refine r_istore f_Mo_scanMethod_200 ?_
          refine r_aload_n f_Mo_scanMethod_202 (lk_put_ne l0 (by decide) (Or.inl rfl)) ?_
          cases hq16 : F_Mo_next (x0) q15.2 with
          | none => simp only [hq16] at hF; cases hF
          | some q16 =>
            simp only [hq16] at hF
            refine t_V0i hB hx0 rfl rfl f_Mo_scanMethod_203 (by decide) (Nat.le_of_ble_eq_true rfl) (Nat.le_of_ble_eq_true rfl) (w_Mo_next hB  (x0) hx0 hq16 ⟨_, rfl, ?_⟩)
            refine r_istore f_Mo_scanMethod_206 ?_
            refine r_aload_n f_Mo_scanMethod_208 (lk_put_ne (lk_put_ne l0 (by decide) (Or.inl rfl)) (by decide) (Or.inl rfl)) ?_
            cases hq17 : F_Mo_next (x0) q16.2 with
            | none => simp only [hq17] at hF; cases hF
            | some q17 =>
              simp only [hq17] at hF
              refine t_V0i hB hx0 rfl rfl f_Mo_scanMethod_209 (by decide) (Nat.le_of_ble_eq_true rfl) (Nat.le_of_ble_eq_true rfl) (w_Mo_next hB  (x0) hx0 hq17 ⟨_, rfl, ?_⟩)
              refine r_istore f_Mo_scanMethod_212 ?_
              refine r_aload_n f_Mo_scanMethod_214 (lk_put_ne (lk_put_ne (lk_put_ne l0 (by decide) (Or.inl rfl)) (by decide) (Or.inl rfl)) (by decide) (Or.inl rfl)) ?_
              refine r_iconst f_Mo_scanMethod_215 (v := 0) (by decide) ?_
              refine r_iconst f_Mo_scanMethod_216 (v := 1) (by decide) ?_
              cases hq18 : F_Mo_between (x0) ((0 : Int32)) ((1 : Int32)) q17.2 with
              | none => simp only [hq18] at hF; cases hF
              | some q18 =>
                simp only [hq18] at hF
                refine t_V2i hB hx0 rfl rfl f_Mo_scanMethod_217 (by decide) (Nat.le_of_ble_eq_true rfl) (Nat.le_of_ble_eq_true rfl) (w_Mo_between hB (by omega) (x0) ((0 : Int32)) ((1 : Int32)) hx0 hq18 ⟨_, rfl, ?_⟩)
                refine r_istore f_Mo_scanMethod_220 ?_
                refine r_iload_n f_Mo_scanMethod_222 (lk_put_ne (lk_put_ne (lk_put_ne (lk_put_ne l3 (by decide) (Or.inl rfl)) (by decide) (Or.inl rfl)) (by decide) (Or.inl rfl)) (by decide) (Or.inl rfl)) ?_
                refine r_if_ne f_Mo_scanMethod_223 (fun c19 => ?_) (fun c19 => ?_)
                · rw [if_pos (bz_t c19)] at hF
                  refine r_aload_n f_Mo_scanMethod_229 (lk_put_ne (lk_put_ne (lk_put_ne (lk_put_ne l0 (by decide) (Or.inl rfl)) (by decide) (Or.inl rfl)) (by decide) (Or.inl rfl)) (by decide) (Or.inl rfl)) ?_
                  refine t_getc hB hx0 f_Mo_scanMethod_230 rfl ?_
                  refine r_iconst f_Mo_scanMethod_233 (v := 3) (by decide) ?_
                  refine r_iload_n f_Mo_scanMethod_234 (lk_put_ne (lk_put_ne (lk_put_ne (lk_put_ne l1 (by decide) (Or.inl rfl)) (by decide) (Or.inl rfl)) (by decide) (Or.inl rfl)) (by decide) (Or.inl rfl)) ?_
                  refine r_imul f_Mo_scanMethod_235 ?_
                  refine r_iload f_Mo_scanMethod_236 (lk_put_ne (lk_put_ne (lk_put_ne (lk_put_ne l8 (by decide) (Or.inl rfl)) (by decide) (Or.inl rfl)) (by decide) (Or.inl rfl)) (by decide) (Or.inl rfl)) ?_
                  refine r_iadd f_Mo_scanMethod_238 ?_
                  refine r_iload f_Mo_scanMethod_239 (lk_put_ne (lk_put_ne (lk_put_ne lk_put (by decide) (Or.inl rfl)) (by decide) (Or.inl rfl)) (by decide) (Or.inl rfl)) ?_
                  by_cases c20 : (((3 : Int32) * x1) + x8) < 0 ∨ 18 ≤ ((((3 : Int32) * x1) + x8)).toNatClampNeg
                  · rw [if_pos c20] at hF; cases hF
                  rw [if_neg c20] at hF
                  refine t_iast hB (cc_8_14 hx0) f_Mo_scanMethod_241 c20 ?_
                  generalize hs21 : setA q18.2 ((cref SHm (x0) 14)) (((((3 : Int32) * x1) + x8)).toNatClampNeg) (q15.1) = s21 at hF ⊢
                  rw [stl_eq] at hF
                  refine r_aload_n f_Mo_scanMethod_242 (lk_put_ne (lk_put_ne (lk_put_ne (lk_put_ne l0 (by decide) (Or.inl rfl)) (by decide) (Or.inl rfl)) (by decide) (Or.inl rfl)) (by decide) (Or.inl rfl)) ?_
                  refine t_getc hB hx0 f_Mo_scanMethod_243 rfl ?_
                  refine r_iconst f_Mo_scanMethod_246 (v := 3) (by decide) ?_
                  refine r_iload_n f_Mo_scanMethod_247 (lk_put_ne (lk_put_ne (lk_put_ne (lk_put_ne l1 (by decide) (Or.inl rfl)) (by decide) (Or.inl rfl)) (by decide) (Or.inl rfl)) (by decide) (Or.inl rfl)) ?_
                  refine r_imul f_Mo_scanMethod_248 ?_
                  refine r_iload f_Mo_scanMethod_249 (lk_put_ne (lk_put_ne (lk_put_ne (lk_put_ne l8 (by decide) (Or.inl rfl)) (by decide) (Or.inl rfl)) (by decide) (Or.inl rfl)) (by decide) (Or.inl rfl)) ?_
                  refine r_iadd f_Mo_scanMethod_251 ?_
                  refine r_iload f_Mo_scanMethod_252 (lk_put_ne (lk_put_ne lk_put (by decide) (Or.inl rfl)) (by decide) (Or.inl rfl)) ?_
                  by_cases c22 : (((3 : Int32) * x1) + x8) < 0 ∨ 18 ≤ ((((3 : Int32) * x1) + x8)).toNatClampNeg
                  · rw [if_pos c22] at hF; cases hF
                  rw [if_neg c22] at hF
                  refine t_iast hB (cc_8_15 hx0) f_Mo_scanMethod_254 c22 ?_
                  generalize hs23 : setA s21 ((cref SHm (x0) 15)) (((((3 : Int32) * x1) + x8)).toNatClampNeg) (q16.1) = s23 at hF ⊢
                  rw [stl_eq] at hF
                  refine r_aload_n f_Mo_scanMethod_255 (lk_put_ne (lk_put_ne (lk_put_ne (lk_put_ne l0 (by decide) (Or.inl rfl)) (by decide) (Or.inl rfl)) (by decide) (Or.inl rfl)) (by decide) (Or.inl rfl)) ?_
                  refine t_getc hB hx0 f_Mo_scanMethod_256 rfl ?_
                  refine r_iconst f_Mo_scanMethod_259 (v := 3) (by decide) ?_
                  refine r_iload_n f_Mo_scanMethod_260 (lk_put_ne (lk_put_ne (lk_put_ne (lk_put_ne l1 (by decide) (Or.inl rfl)) (by decide) (Or.inl rfl)) (by decide) (Or.inl rfl)) (by decide) (Or.inl rfl)) ?_
                  refine r_imul f_Mo_scanMethod_261 ?_
                  refine r_iload f_Mo_scanMethod_262 (lk_put_ne (lk_put_ne (lk_put_ne (lk_put_ne l8 (by decide) (Or.inl rfl)) (by decide) (Or.inl rfl)) (by decide) (Or.inl rfl)) (by decide) (Or.inl rfl)) ?_
                  refine r_iadd f_Mo_scanMethod_264 ?_
                  refine r_iload f_Mo_scanMethod_265 (lk_put_ne lk_put (by decide) (Or.inl rfl)) ?_
                  by_cases c24 : (((3 : Int32) * x1) + x8) < 0 ∨ 18 ≤ ((((3 : Int32) * x1) + x8)).toNatClampNeg
                  · rw [if_pos c24] at hF; cases hF
                  rw [if_neg c24] at hF
                  refine t_iast hB (cc_8_16 hx0) f_Mo_scanMethod_267 c24 ?_
                  generalize hs25 : setA s23 ((cref SHm (x0) 16)) (((((3 : Int32) * x1) + x8)).toNatClampNeg) (q17.1) = s25 at hF ⊢
                  rw [stl_eq] at hF
                  refine r_aload_n f_Mo_scanMethod_268 (lk_put_ne (lk_put_ne (lk_put_ne (lk_put_ne l0 (by decide) (Or.inl rfl)) (by decide) (Or.inl rfl)) (by decide) (Or.inl rfl)) (by decide) (Or.inl rfl)) ?_
                  refine t_getc hB hx0 f_Mo_scanMethod_269 rfl ?_
                  refine r_iconst f_Mo_scanMethod_272 (v := 3) (by decide) ?_
                  refine r_iload_n f_Mo_scanMethod_273 (lk_put_ne (lk_put_ne (lk_put_ne (lk_put_ne l1 (by decide) (Or.inl rfl)) (by decide) (Or.inl rfl)) (by decide) (Or.inl rfl)) (by decide) (Or.inl rfl)) ?_
                  refine r_imul f_Mo_scanMethod_274 ?_
                  refine r_iload f_Mo_scanMethod_275 (lk_put_ne (lk_put_ne (lk_put_ne (lk_put_ne l8 (by decide) (Or.inl rfl)) (by decide) (Or.inl rfl)) (by decide) (Or.inl rfl)) (by decide) (Or.inl rfl)) ?_
                  refine r_iadd f_Mo_scanMethod_277 ?_
                  refine r_iload f_Mo_scanMethod_278 lk_put ?_
                  refine r_iconst f_Mo_scanMethod_280 (v := 1) (by decide) ?_
                  refine r_icmp_ne f_Mo_scanMethod_281 (fun c26 => ?_) (fun c26 => ?_)
                  · rw [if_neg c26] at hF
                    refine r_iconst f_Mo_scanMethod_288 (v := 0) (by decide) ?_
                    exact w_Mo_scanMethod_289 hB hd (ih) hQ _ (s25) (x0) (x1) (x3) (x7) (x8) ((cref SHm (x0) 17)) ((((3 : Int32) * x1) + x8)) (false) hx0 (cc_8_17 hx0) (lk_put_ne (lk_put_ne (lk_put_ne (lk_put_ne l0 (by decide) (Or.inl rfl)) (by decide) (Or.inl rfl)) (by decide) (Or.inl rfl)) (by decide) (Or.inl rfl)) (lk_put_ne (lk_put_ne (lk_put_ne (lk_put_ne l1 (by decide) (Or.inl rfl)) (by decide) (Or.inl rfl)) (by decide) (Or.inl rfl)) (by decide) (Or.inl rfl)) (lk_put_ne (lk_put_ne (lk_put_ne (lk_put_ne l3 (by decide) (Or.inl rfl)) (by decide) (Or.inl rfl)) (by decide) (Or.inl rfl)) (by decide) (Or.inl rfl)) (lk_put_ne (lk_put_ne (lk_put_ne (lk_put_ne l7 (by decide) (Or.inl rfl)) (by decide) (Or.inl rfl)) (by decide) (Or.inl rfl)) (by decide) (Or.inl rfl)) (lk_put_ne (lk_put_ne (lk_put_ne (lk_put_ne l8 (by decide) (Or.inl rfl)) (by decide) (Or.inl rfl)) (by decide) (Or.inl rfl)) (by decide) (Or.inl rfl)) hF
                  · rw [if_pos (Decidable.not_not.mp c26)] at hF
                    refine r_iconst f_Mo_scanMethod_284 (v := 1) (by decide) ?_
                    refine r_goto f_Mo_scanMethod_285 ?_
                    exact w_Mo_scanMethod_289 hB hd (ih) hQ _ (s25) (x0) (x1) (x3) (x7) (x8) ((cref SHm (x0) 17)) ((((3 : Int32) * x1) + x8)) (true) hx0 (cc_8_17 hx0) (lk_put_ne (lk_put_ne (lk_put_ne (lk_put_ne l0 (by decide) (Or.inl rfl)) (by decide) (Or.inl rfl)) (by decide) (Or.inl rfl)) (by decide) (Or.inl rfl)) (lk_put_ne (lk_put_ne (lk_put_ne (lk_put_ne l1 (by decide) (Or.inl rfl)) (by decide) (Or.inl rfl)) (by decide) (Or.inl rfl)) (by decide) (Or.inl rfl)) (lk_put_ne (lk_put_ne (lk_put_ne (lk_put_ne l3 (by decide) (Or.inl rfl)) (by decide) (Or.inl rfl)) (by decide) (Or.inl rfl)) (by decide) (Or.inl rfl)) (lk_put_ne (lk_put_ne (lk_put_ne (lk_put_ne l7 (by decide) (Or.inl rfl)) (by decide) (Or.inl rfl)) (by decide) (Or.inl rfl)) (by decide) (Or.inl rfl)) (lk_put_ne (lk_put_ne (lk_put_ne (lk_put_ne l8 (by decide) (Or.inl rfl)) (by decide) (Or.inl rfl)) (by decide) (Or.inl rfl)) (by decide) (Or.inl rfl)) hF
                · rw [if_neg (bz_nt (Decidable.not_not.mp c19))] at hF
                  refine r_goto f_Mo_scanMethod_226 ?_
                  exact w_Mo_scanMethod_290 hB hd (ih) hQ _ (q18.2) (x0) (x1) (x3) (x7) (x8) hx0 (lk_put_ne (lk_put_ne (lk_put_ne (lk_put_ne l0 (by decide) (Or.inl rfl)) (by decide) (Or.inl rfl)) (by decide) (Or.inl rfl)) (by decide) (Or.inl rfl)) (lk_put_ne (lk_put_ne (lk_put_ne (lk_put_ne l1 (by decide) (Or.inl rfl)) (by decide) (Or.inl rfl)) (by decide) (Or.inl rfl)) (by decide) (Or.inl rfl)) (lk_put_ne (lk_put_ne (lk_put_ne (lk_put_ne l3 (by decide) (Or.inl rfl)) (by decide) (Or.inl rfl)) (by decide) (Or.inl rfl)) (by decide) (Or.inl rfl)) (lk_put_ne (lk_put_ne (lk_put_ne (lk_put_ne l7 (by decide) (Or.inl rfl)) (by decide) (Or.inl rfl)) (by decide) (Or.inl rfl)) (by decide) (Or.inl rfl)) (lk_put_ne (lk_put_ne (lk_put_ne (lk_put_ne l8 (by decide) (Or.inl rfl)) (by decide) (Or.inl rfl)) (by decide) (Or.inl rfl)) (by decide) (Or.inl rfl)) hF
def F_Mo_scanMethod_179  (x0 : Nat) (x1 : Int32) (x3 : Bool) (x7 : Int32) (σ : SG) : Option (SG) :=
  F_Mo_scanMethod_182  5000 (x0) (x1) (x3) (x7) ((0 : Int32)) σ
set_option maxHeartbeats 4000000 in
theorem w_Mo_scanMethod_179 {b d : Nat} {sc : SC} {pre tl : List PE} {B : Nat} {Q : Option Value → List PE → Prop} {res : SG} (hB : B = b + pre.length) (hd : 2 ≤ d)   (hQ : Q none (HH pre tl SHm B res)) (lv : LV) (σ : SG) (x0 : Nat) (x1 : Int32) (x3 : Bool) (x7 : Int32) (hx0 : isC SHm (x0) 8 = true) (l0 : lv.lookup 0 = some (.ref (B + (x0)))) (l1 : lv.lookup 1 = some (.int (x1))) (l3 : lv.lookup 3 = some (.int (bz (x3)))) (l7 : lv.lookup 7 = some (.int (x7))) (hF : F_Mo_scanMethod_179  x0 x1 x3 x7 σ = some res) : Rn b sc d 35 179 lv [] (HH pre tl SHm B σ) Q := by
  obtain ⟨e0, rfl⟩ : ∃ e, d = e + 1 := ⟨d - 1, by omega⟩
  unfold F_Mo_scanMethod_179 at hF
  refine r_iconst f_Mo_scanMethod_179 (v := 0) (by decide) ?_
  refine r_istore f_Mo_scanMethod_180 ?_
  exact w_Mo_scanMethod_182 hB hd  hQ 5000 _ (σ) (x0) (x1) (x3) (x7) ((0 : Int32)) hx0 (lk_put_ne l0 (by decide) (Or.inl rfl)) (lk_put_ne l1 (by decide) (Or.inl rfl)) (lk_put_ne l3 (by decide) (Or.inl rfl)) (lk_put_ne l7 (by decide) (Or.inl rfl)) lk_put hF
def F_Mo_scanMethod_159  (x0 : Nat) (x1 : Int32) (x3 : Bool) (σ : SG) : Option (SG) :=
  match F_Mo_between (x0) ((0 : Int32)) ((3 : Int32)) σ with
  | none => none
  | some q27 =>
  if x3 = true then
  if x1 < 0 ∨ 6 ≤ (x1).toNatClampNeg then none else
  stl (setA q27.2 ((cref SHm (x0) 13)) ((x1).toNatClampNeg) (q27.1)) fun s30 =>
  F_Mo_scanMethod_179 (x0) (x1) (x3) (q27.1) s30
  else F_Mo_scanMethod_179 (x0) (x1) (x3) (q27.1) q27.2
set_option maxHeartbeats 4000000 in
theorem w_Mo_scanMethod_159 {b d : Nat} {sc : SC} {pre tl : List PE} {B : Nat} {Q : Option Value → List PE → Prop} {res : SG} (hB : B = b + pre.length) (hd : 2 ≤ d)   (hQ : Q none (HH pre tl SHm B res)) (lv : LV) (σ : SG) (x0 : Nat) (x1 : Int32) (x3 : Bool) (hx0 : isC SHm (x0) 8 = true) (l0 : lv.lookup 0 = some (.ref (B + (x0)))) (l1 : lv.lookup 1 = some (.int (x1))) (l3 : lv.lookup 3 = some (.int (bz (x3)))) (hF : F_Mo_scanMethod_159  x0 x1 x3 σ = some res) : Rn b sc d 35 159 lv [] (HH pre tl SHm B σ) Q := by
  obtain ⟨e0, rfl⟩ : ∃ e, d = e + 1 := ⟨d - 1, by omega⟩
  unfold F_Mo_scanMethod_159 at hF
  refine r_aload_n f_Mo_scanMethod_159 l0 ?_
  refine r_iconst f_Mo_scanMethod_160 (v := 0) (by decide) ?_
  refine r_iconst f_Mo_scanMethod_161 (v := 3) (by decide) ?_
  cases hq27 : F_Mo_between (x0) ((0 : Int32)) ((3 : Int32)) σ with
  | none => simp only [hq27] at hF; cases hF
  | some q27 =>
    simp only [hq27] at hF
    refine t_V2i hB hx0 rfl rfl f_Mo_scanMethod_162 (by decide) (Nat.le_of_ble_eq_true rfl) (Nat.le_of_ble_eq_true rfl) (w_Mo_between hB (by omega) (x0) ((0 : Int32)) ((3 : Int32)) hx0 hq27 ⟨_, rfl, ?_⟩)
    refine r_istore f_Mo_scanMethod_165 ?_
    refine r_iload_n f_Mo_scanMethod_167 (lk_put_ne l3 (by decide) (Or.inl rfl)) ?_
    refine r_if_eq f_Mo_scanMethod_168 (fun c28 => ?_) (fun c28 => ?_)
    · rw [if_neg (bz_nt c28)] at hF
      exact w_Mo_scanMethod_179 hB hd  hQ _ (q27.2) (x0) (x1) (x3) (q27.1) hx0 (lk_put_ne l0 (by decide) (Or.inl rfl)) (lk_put_ne l1 (by decide) (Or.inl rfl)) (lk_put_ne l3 (by decide) (Or.inl rfl)) lk_put hF
    · rw [if_pos (bz_t c28)] at hF
      refine r_aload_n f_Mo_scanMethod_171 (lk_put_ne l0 (by decide) (Or.inl rfl)) ?_
      refine t_getc hB hx0 f_Mo_scanMethod_172 rfl ?_
      refine r_iload_n f_Mo_scanMethod_175 (lk_put_ne l1 (by decide) (Or.inl rfl)) ?_
      refine r_iload f_Mo_scanMethod_176 lk_put ?_
      by_cases c29 : x1 < 0 ∨ 6 ≤ (x1).toNatClampNeg
      · rw [if_pos c29] at hF; cases hF
      rw [if_neg c29] at hF
      refine t_iast hB (cc_8_13 hx0) f_Mo_scanMethod_178 c29 ?_
      generalize hs30 : setA q27.2 ((cref SHm (x0) 13)) ((x1).toNatClampNeg) (q27.1) = s30 at hF ⊢
      rw [stl_eq] at hF
      exact w_Mo_scanMethod_179 hB hd  hQ _ (s30) (x0) (x1) (x3) (q27.1) hx0 (lk_put_ne l0 (by decide) (Or.inl rfl)) (lk_put_ne l1 (by decide) (Or.inl rfl)) (lk_put_ne l3 (by decide) (Or.inl rfl)) lk_put hF
def F_Mo_scanMethod_153 (rec113 : Nat → Int32 → Int32 → Bool → Int32 → Int32 → SG → Option (SG)) (x0 : Nat) (x1 : Int32) (x2 : Int32) (x3 : Bool) (x6 : Int32) (x7 : Int32) (σ : SG) : Option (SG) :=
  rec113 (x0) (x1) (x2) (x3) (x6) ((x7 + 1)) σ
set_option maxHeartbeats 4000000 in
theorem w_Mo_scanMethod_153 {b d : Nat} {sc : SC} {pre tl : List PE} {B : Nat} {Q : Option Value → List PE → Prop} {res : SG} (hB : B = b + pre.length) (hd : 2 ≤ d) {rec113 : Nat → Int32 → Int32 → Bool → Int32 → Int32 → SG → Option (SG)} (hr113 : ∀ (lv : LV) (σ : SG) (x0 : Nat) (x1 : Int32) (x2 : Int32) (x3 : Bool) (x6 : Int32) (x7 : Int32), isC SHm (x0) 8 = true → lv.lookup 0 = some (.ref (B + (x0))) → lv.lookup 1 = some (.int (x1)) → lv.lookup 2 = some (.int (x2)) → lv.lookup 3 = some (.int (bz (x3))) → lv.lookup 6 = some (.int (x6)) → lv.lookup 7 = some (.int (x7)) →  rec113 x0 x1 x2 x3 x6 x7 σ = some res → Rn b sc d 35 113 lv [] (HH pre tl SHm B σ) Q) (hQ : Q none (HH pre tl SHm B res)) (lv : LV) (σ : SG) (x0 : Nat) (x1 : Int32) (x2 : Int32) (x3 : Bool) (x6 : Int32) (x7 : Int32) (hx0 : isC SHm (x0) 8 = true) (l0 : lv.lookup 0 = some (.ref (B + (x0)))) (l1 : lv.lookup 1 = some (.int (x1))) (l2 : lv.lookup 2 = some (.int (x2))) (l3 : lv.lookup 3 = some (.int (bz (x3)))) (l6 : lv.lookup 6 = some (.int (x6))) (l7 : lv.lookup 7 = some (.int (x7))) (hF : F_Mo_scanMethod_153 rec113 x0 x1 x2 x3 x6 x7 σ = some res) : Rn b sc d 35 153 lv [] (HH pre tl SHm B σ) Q := by
  obtain ⟨e0, rfl⟩ : ∃ e, d = e + 1 := ⟨d - 1, by omega⟩
  unfold F_Mo_scanMethod_153 at hF
  refine r_iinc f_Mo_scanMethod_153 l7 (w := x7 + 1) rfl ?_
  refine r_goto f_Mo_scanMethod_156 ?_
  exact hr113 _ (σ) (x0) (x1) (x2) (x3) (x6) ((x7 + 1)) hx0 (lk_put_ne l0 (by decide) (Or.inl rfl)) (lk_put_ne l1 (by decide) (Or.inl rfl)) (lk_put_ne l2 (by decide) (Or.inl rfl)) (lk_put_ne l3 (by decide) (Or.inl rfl)) (lk_put_ne l6 (by decide) (Or.inl rfl)) lk_put hF
def F_Mo_scanMethod_113  : Nat → Nat → Int32 → Int32 → Bool → Int32 → Int32 → SG → Option (SG)
  | 0, _, _, _, _, _, _, _ => none
  | n + 1, x0, x1, x2, x3, x6, x7, σ =>
  if x6 ≤ x7 then
  F_Mo_scanMethod_159 (x0) (x1) (x3) σ
  else if (zb (σ.1 (x0) 3)) = true then
  F_Mo_scanMethod_159 (x0) (x1) (x3) σ
  else match F_Mo_typeOf (x0) (x2) (false) (false) σ with
  | none => none
  | some q33 =>
  if x3 = true then
  if (((4 : Int32) * x1) + x7) < 0 ∨ 24 ≤ ((((4 : Int32) * x1) + x7)).toNatClampNeg then none else
  stl (setA q33.2 ((cref SHm (x0) 12)) (((((4 : Int32) * x1) + x7)).toNatClampNeg) (q33.1)) fun s36 =>
  F_Mo_scanMethod_153 (F_Mo_scanMethod_113  n) (x0) (x1) (x2) (x3) (x6) (x7) s36
  else F_Mo_scanMethod_153 (F_Mo_scanMethod_113  n) (x0) (x1) (x2) (x3) (x6) (x7) q33.2
set_option maxHeartbeats 4000000 in
theorem w_Mo_scanMethod_113 {b d : Nat} {sc : SC} {pre tl : List PE} {B : Nat} {Q : Option Value → List PE → Prop} {res : SG} (hB : B = b + pre.length) (hd : 2 ≤ d)   (hQ : Q none (HH pre tl SHm B res)) : ∀ (n : Nat) (lv : LV) (σ : SG) (x0 : Nat) (x1 : Int32) (x2 : Int32) (x3 : Bool) (x6 : Int32) (x7 : Int32), isC SHm (x0) 8 = true → lv.lookup 0 = some (.ref (B + (x0))) → lv.lookup 1 = some (.int (x1)) → lv.lookup 2 = some (.int (x2)) → lv.lookup 3 = some (.int (bz (x3))) → lv.lookup 6 = some (.int (x6)) → lv.lookup 7 = some (.int (x7)) → F_Mo_scanMethod_113  n x0 x1 x2 x3 x6 x7 σ = some res → Rn b sc d 35 113 lv [] (HH pre tl SHm B σ) Q := by
  obtain ⟨e0, rfl⟩ : ∃ e, d = e + 1 := ⟨d - 1, by omega⟩
  intro n
  induction n with
  | zero => intro lv σ x0 x1 x2 x3 x6 x7 hx0 l0 l1 l2 l3 l6 l7 hF; cases hF
  | succ n ih =>
    intro lv σ x0 x1 x2 x3 x6 x7 hx0 l0 l1 l2 l3 l6 l7 hF
    unfold F_Mo_scanMethod_113 at hF
    refine r_iload f_Mo_scanMethod_113 l7 ?_
    refine r_iload f_Mo_scanMethod_115 l6 ?_
    refine r_icmp_ge f_Mo_scanMethod_117 (fun c31 => ?_) (fun c31 => ?_)
    · rw [if_pos c31] at hF
      exact w_Mo_scanMethod_159 hB hd  hQ _ (σ) (x0) (x1) (x3) hx0 l0 l1 l3 hF
    · rw [if_neg c31] at hF
      refine r_aload_n f_Mo_scanMethod_120 l0 ?_
      refine t_getz hB hx0 f_Mo_scanMethod_121 rfl ?_
      refine r_if_ne f_Mo_scanMethod_124 (fun c32 => ?_) (fun c32 => ?_)
      · rw [if_pos (bz_t c32)] at hF
        exact w_Mo_scanMethod_159 hB hd  hQ _ (σ) (x0) (x1) (x3) hx0 l0 l1 l3 hF
      · rw [if_neg (bz_nt (Decidable.not_not.mp c32))] at hF
        refine r_aload_n f_Mo_scanMethod_127 l0 ?_
        refine r_iload_n f_Mo_scanMethod_128 l2 ?_
        refine r_iconst f_Mo_scanMethod_129 (v := 0) (by decide) ?_
        refine r_iconst f_Mo_scanMethod_130 (v := 0) (by decide) ?_
        cases hq33 : F_Mo_typeOf (x0) (x2) (false) (false) σ with
        | none => simp only [hq33] at hF; cases hF
        | some q33 =>
          simp only [hq33] at hF
          refine t_V3i hB hx0 rfl rfl f_Mo_scanMethod_131 (by decide) (Nat.le_of_ble_eq_true rfl) (Nat.le_of_ble_eq_true rfl) (w_Mo_typeOf hB (by omega) (x0) (x2) (false) (false) hx0 hq33 ⟨_, rfl, ?_⟩)
          refine r_istore f_Mo_scanMethod_134 ?_
          refine r_iload_n f_Mo_scanMethod_136 (lk_put_ne l3 (by decide) (Or.inl rfl)) ?_
          refine r_if_eq f_Mo_scanMethod_137 (fun c34 => ?_) (fun c34 => ?_)
          · rw [if_neg (bz_nt c34)] at hF
            exact w_Mo_scanMethod_153 hB hd (ih) hQ _ (q33.2) (x0) (x1) (x2) (x3) (x6) (x7) hx0 (lk_put_ne l0 (by decide) (Or.inl rfl)) (lk_put_ne l1 (by decide) (Or.inl rfl)) (lk_put_ne l2 (by decide) (Or.inl rfl)) (lk_put_ne l3 (by decide) (Or.inl rfl)) (lk_put_ne l6 (by decide) (Or.inl rfl)) (lk_put_ne l7 (by decide) (Or.inl rfl)) hF
          · rw [if_pos (bz_t c34)] at hF
            refine r_aload_n f_Mo_scanMethod_140 (lk_put_ne l0 (by decide) (Or.inl rfl)) ?_
            refine t_getc hB hx0 f_Mo_scanMethod_141 rfl ?_
            refine r_iconst f_Mo_scanMethod_144 (v := 4) (by decide) ?_
            refine r_iload_n f_Mo_scanMethod_145 (lk_put_ne l1 (by decide) (Or.inl rfl)) ?_
            refine r_imul f_Mo_scanMethod_146 ?_
            refine r_iload f_Mo_scanMethod_147 (lk_put_ne l7 (by decide) (Or.inl rfl)) ?_
            refine r_iadd f_Mo_scanMethod_149 ?_
            refine r_iload f_Mo_scanMethod_150 lk_put ?_
            by_cases c35 : (((4 : Int32) * x1) + x7) < 0 ∨ 24 ≤ ((((4 : Int32) * x1) + x7)).toNatClampNeg
            · rw [if_pos c35] at hF; cases hF
            rw [if_neg c35] at hF
            refine t_iast hB (cc_8_12 hx0) f_Mo_scanMethod_152 c35 ?_
            generalize hs36 : setA q33.2 ((cref SHm (x0) 12)) (((((4 : Int32) * x1) + x7)).toNatClampNeg) (q33.1) = s36 at hF ⊢
            rw [stl_eq] at hF
            exact w_Mo_scanMethod_153 hB hd (ih) hQ _ (s36) (x0) (x1) (x2) (x3) (x6) (x7) hx0 (lk_put_ne l0 (by decide) (Or.inl rfl)) (lk_put_ne l1 (by decide) (Or.inl rfl)) (lk_put_ne l2 (by decide) (Or.inl rfl)) (lk_put_ne l3 (by decide) (Or.inl rfl)) (lk_put_ne l6 (by decide) (Or.inl rfl)) (lk_put_ne l7 (by decide) (Or.inl rfl)) hF
def F_Mo_scanMethod_110  (x0 : Nat) (x1 : Int32) (x2 : Int32) (x3 : Bool) (x6 : Int32) (σ : SG) : Option (SG) :=
  F_Mo_scanMethod_113  5000 (x0) (x1) (x2) (x3) (x6) ((0 : Int32)) σ
set_option maxHeartbeats 4000000 in
theorem w_Mo_scanMethod_110 {b d : Nat} {sc : SC} {pre tl : List PE} {B : Nat} {Q : Option Value → List PE → Prop} {res : SG} (hB : B = b + pre.length) (hd : 2 ≤ d)   (hQ : Q none (HH pre tl SHm B res)) (lv : LV) (σ : SG) (x0 : Nat) (x1 : Int32) (x2 : Int32) (x3 : Bool) (x6 : Int32) (hx0 : isC SHm (x0) 8 = true) (l0 : lv.lookup 0 = some (.ref (B + (x0)))) (l1 : lv.lookup 1 = some (.int (x1))) (l2 : lv.lookup 2 = some (.int (x2))) (l3 : lv.lookup 3 = some (.int (bz (x3)))) (l6 : lv.lookup 6 = some (.int (x6))) (hF : F_Mo_scanMethod_110  x0 x1 x2 x3 x6 σ = some res) : Rn b sc d 35 110 lv [] (HH pre tl SHm B σ) Q := by
  obtain ⟨e0, rfl⟩ : ∃ e, d = e + 1 := ⟨d - 1, by omega⟩
  unfold F_Mo_scanMethod_110 at hF
  refine r_iconst f_Mo_scanMethod_110 (v := 0) (by decide) ?_
  refine r_istore f_Mo_scanMethod_111 ?_
  exact w_Mo_scanMethod_113 hB hd  hQ 5000 _ (σ) (x0) (x1) (x2) (x3) (x6) ((0 : Int32)) hx0 (lk_put_ne l0 (by decide) (Or.inl rfl)) (lk_put_ne l1 (by decide) (Or.inl rfl)) (lk_put_ne l2 (by decide) (Or.inl rfl)) (lk_put_ne l3 (by decide) (Or.inl rfl)) (lk_put_ne l6 (by decide) (Or.inl rfl)) lk_put hF
def F_Mo_scanMethod_90  (x0 : Nat) (x1 : Int32) (x2 : Int32) (x3 : Bool) (σ : SG) : Option (SG) :=
  match F_Mo_between (x0) ((0 : Int32)) ((4 : Int32)) σ with
  | none => none
  | some q37 =>
  if x3 = true then
  if x1 < 0 ∨ 6 ≤ (x1).toNatClampNeg then none else
  stl (setA q37.2 ((cref SHm (x0) 11)) ((x1).toNatClampNeg) (q37.1)) fun s40 =>
  F_Mo_scanMethod_110 (x0) (x1) (x2) (x3) (q37.1) s40
  else F_Mo_scanMethod_110 (x0) (x1) (x2) (x3) (q37.1) q37.2
set_option maxHeartbeats 4000000 in
theorem w_Mo_scanMethod_90 {b d : Nat} {sc : SC} {pre tl : List PE} {B : Nat} {Q : Option Value → List PE → Prop} {res : SG} (hB : B = b + pre.length) (hd : 2 ≤ d)   (hQ : Q none (HH pre tl SHm B res)) (lv : LV) (σ : SG) (x0 : Nat) (x1 : Int32) (x2 : Int32) (x3 : Bool) (hx0 : isC SHm (x0) 8 = true) (l0 : lv.lookup 0 = some (.ref (B + (x0)))) (l1 : lv.lookup 1 = some (.int (x1))) (l2 : lv.lookup 2 = some (.int (x2))) (l3 : lv.lookup 3 = some (.int (bz (x3)))) (hF : F_Mo_scanMethod_90  x0 x1 x2 x3 σ = some res) : Rn b sc d 35 90 lv [] (HH pre tl SHm B σ) Q := by
  obtain ⟨e0, rfl⟩ : ∃ e, d = e + 1 := ⟨d - 1, by omega⟩
  unfold F_Mo_scanMethod_90 at hF
  refine r_aload_n f_Mo_scanMethod_90 l0 ?_
  refine r_iconst f_Mo_scanMethod_91 (v := 0) (by decide) ?_
  refine r_iconst f_Mo_scanMethod_92 (v := 4) (by decide) ?_
  cases hq37 : F_Mo_between (x0) ((0 : Int32)) ((4 : Int32)) σ with
  | none => simp only [hq37] at hF; cases hF
  | some q37 =>
    simp only [hq37] at hF
    refine t_V2i hB hx0 rfl rfl f_Mo_scanMethod_93 (by decide) (Nat.le_of_ble_eq_true rfl) (Nat.le_of_ble_eq_true rfl) (w_Mo_between hB (by omega) (x0) ((0 : Int32)) ((4 : Int32)) hx0 hq37 ⟨_, rfl, ?_⟩)
    refine r_istore f_Mo_scanMethod_96 ?_
    refine r_iload_n f_Mo_scanMethod_98 (lk_put_ne l3 (by decide) (Or.inl rfl)) ?_
    refine r_if_eq f_Mo_scanMethod_99 (fun c38 => ?_) (fun c38 => ?_)
    · rw [if_neg (bz_nt c38)] at hF
      exact w_Mo_scanMethod_110 hB hd  hQ _ (q37.2) (x0) (x1) (x2) (x3) (q37.1) hx0 (lk_put_ne l0 (by decide) (Or.inl rfl)) (lk_put_ne l1 (by decide) (Or.inl rfl)) (lk_put_ne l2 (by decide) (Or.inl rfl)) (lk_put_ne l3 (by decide) (Or.inl rfl)) lk_put hF
    · rw [if_pos (bz_t c38)] at hF
      refine r_aload_n f_Mo_scanMethod_102 (lk_put_ne l0 (by decide) (Or.inl rfl)) ?_
      refine t_getc hB hx0 f_Mo_scanMethod_103 rfl ?_
      refine r_iload_n f_Mo_scanMethod_106 (lk_put_ne l1 (by decide) (Or.inl rfl)) ?_
      refine r_iload f_Mo_scanMethod_107 lk_put ?_
      by_cases c39 : x1 < 0 ∨ 6 ≤ (x1).toNatClampNeg
      · rw [if_pos c39] at hF; cases hF
      rw [if_neg c39] at hF
      refine t_iast hB (cc_8_11 hx0) f_Mo_scanMethod_109 c39 ?_
      generalize hs40 : setA q37.2 ((cref SHm (x0) 11)) ((x1).toNatClampNeg) (q37.1) = s40 at hF ⊢
      rw [stl_eq] at hF
      exact w_Mo_scanMethod_110 hB hd  hQ _ (s40) (x0) (x1) (x2) (x3) (q37.1) hx0 (lk_put_ne l0 (by decide) (Or.inl rfl)) (lk_put_ne l1 (by decide) (Or.inl rfl)) (lk_put_ne l2 (by decide) (Or.inl rfl)) (lk_put_ne l3 (by decide) (Or.inl rfl)) lk_put hF
def F_Mo_scanMethod_84 (rec44 : Nat → Int32 → Int32 → Bool → Int32 → Int32 → SG → Option (SG)) (x0 : Nat) (x1 : Int32) (x2 : Int32) (x3 : Bool) (x5 : Int32) (x6 : Int32) (σ : SG) : Option (SG) :=
  rec44 (x0) (x1) (x2) (x3) (x5) ((x6 + 1)) σ
set_option maxHeartbeats 4000000 in
theorem w_Mo_scanMethod_84 {b d : Nat} {sc : SC} {pre tl : List PE} {B : Nat} {Q : Option Value → List PE → Prop} {res : SG} (hB : B = b + pre.length) (hd : 2 ≤ d) {rec44 : Nat → Int32 → Int32 → Bool → Int32 → Int32 → SG → Option (SG)} (hr44 : ∀ (lv : LV) (σ : SG) (x0 : Nat) (x1 : Int32) (x2 : Int32) (x3 : Bool) (x5 : Int32) (x6 : Int32), isC SHm (x0) 8 = true → lv.lookup 0 = some (.ref (B + (x0))) → lv.lookup 1 = some (.int (x1)) → lv.lookup 2 = some (.int (x2)) → lv.lookup 3 = some (.int (bz (x3))) → lv.lookup 5 = some (.int (x5)) → lv.lookup 6 = some (.int (x6)) →  rec44 x0 x1 x2 x3 x5 x6 σ = some res → Rn b sc d 35 44 lv [] (HH pre tl SHm B σ) Q) (hQ : Q none (HH pre tl SHm B res)) (lv : LV) (σ : SG) (x0 : Nat) (x1 : Int32) (x2 : Int32) (x3 : Bool) (x5 : Int32) (x6 : Int32) (hx0 : isC SHm (x0) 8 = true) (l0 : lv.lookup 0 = some (.ref (B + (x0)))) (l1 : lv.lookup 1 = some (.int (x1))) (l2 : lv.lookup 2 = some (.int (x2))) (l3 : lv.lookup 3 = some (.int (bz (x3)))) (l5 : lv.lookup 5 = some (.int (x5))) (l6 : lv.lookup 6 = some (.int (x6))) (hF : F_Mo_scanMethod_84 rec44 x0 x1 x2 x3 x5 x6 σ = some res) : Rn b sc d 35 84 lv [] (HH pre tl SHm B σ) Q := by
  obtain ⟨e0, rfl⟩ : ∃ e, d = e + 1 := ⟨d - 1, by omega⟩
  unfold F_Mo_scanMethod_84 at hF
  refine r_iinc f_Mo_scanMethod_84 l6 (w := x6 + 1) rfl ?_
  refine r_goto f_Mo_scanMethod_87 ?_
  exact hr44 _ (σ) (x0) (x1) (x2) (x3) (x5) ((x6 + 1)) hx0 (lk_put_ne l0 (by decide) (Or.inl rfl)) (lk_put_ne l1 (by decide) (Or.inl rfl)) (lk_put_ne l2 (by decide) (Or.inl rfl)) (lk_put_ne l3 (by decide) (Or.inl rfl)) (lk_put_ne l5 (by decide) (Or.inl rfl)) lk_put hF
def F_Mo_scanMethod_44  : Nat → Nat → Int32 → Int32 → Bool → Int32 → Int32 → SG → Option (SG)
  | 0, _, _, _, _, _, _, _ => none
  | n + 1, x0, x1, x2, x3, x5, x6, σ =>
  if x5 ≤ x6 then
  F_Mo_scanMethod_90 (x0) (x1) (x2) (x3) σ
  else if (zb (σ.1 (x0) 3)) = true then
  F_Mo_scanMethod_90 (x0) (x1) (x2) (x3) σ
  else match F_Mo_typeOf (x0) (x2) (true) (false) σ with
  | none => none
  | some q43 =>
  if x3 = true then
  if (((3 : Int32) * x1) + x6) < 0 ∨ 18 ≤ ((((3 : Int32) * x1) + x6)).toNatClampNeg then none else
  stl (setA q43.2 ((cref SHm (x0) 10)) (((((3 : Int32) * x1) + x6)).toNatClampNeg) (q43.1)) fun s46 =>
  F_Mo_scanMethod_84 (F_Mo_scanMethod_44  n) (x0) (x1) (x2) (x3) (x5) (x6) s46
  else F_Mo_scanMethod_84 (F_Mo_scanMethod_44  n) (x0) (x1) (x2) (x3) (x5) (x6) q43.2
set_option maxHeartbeats 4000000 in
theorem w_Mo_scanMethod_44 {b d : Nat} {sc : SC} {pre tl : List PE} {B : Nat} {Q : Option Value → List PE → Prop} {res : SG} (hB : B = b + pre.length) (hd : 2 ≤ d)   (hQ : Q none (HH pre tl SHm B res)) : ∀ (n : Nat) (lv : LV) (σ : SG) (x0 : Nat) (x1 : Int32) (x2 : Int32) (x3 : Bool) (x5 : Int32) (x6 : Int32), isC SHm (x0) 8 = true → lv.lookup 0 = some (.ref (B + (x0))) → lv.lookup 1 = some (.int (x1)) → lv.lookup 2 = some (.int (x2)) → lv.lookup 3 = some (.int (bz (x3))) → lv.lookup 5 = some (.int (x5)) → lv.lookup 6 = some (.int (x6)) → F_Mo_scanMethod_44  n x0 x1 x2 x3 x5 x6 σ = some res → Rn b sc d 35 44 lv [] (HH pre tl SHm B σ) Q := by
  obtain ⟨e0, rfl⟩ : ∃ e, d = e + 1 := ⟨d - 1, by omega⟩
  intro n
  induction n with
  | zero => intro lv σ x0 x1 x2 x3 x5 x6 hx0 l0 l1 l2 l3 l5 l6 hF; cases hF
  | succ n ih =>
    intro lv σ x0 x1 x2 x3 x5 x6 hx0 l0 l1 l2 l3 l5 l6 hF
    unfold F_Mo_scanMethod_44 at hF
    refine r_iload f_Mo_scanMethod_44 l6 ?_
    refine r_iload f_Mo_scanMethod_46 l5 ?_
    refine r_icmp_ge f_Mo_scanMethod_48 (fun c41 => ?_) (fun c41 => ?_)
    · rw [if_pos c41] at hF
      exact w_Mo_scanMethod_90 hB hd  hQ _ (σ) (x0) (x1) (x2) (x3) hx0 l0 l1 l2 l3 hF
    · rw [if_neg c41] at hF
      refine r_aload_n f_Mo_scanMethod_51 l0 ?_
      refine t_getz hB hx0 f_Mo_scanMethod_52 rfl ?_
      refine r_if_ne f_Mo_scanMethod_55 (fun c42 => ?_) (fun c42 => ?_)
      · rw [if_pos (bz_t c42)] at hF
        exact w_Mo_scanMethod_90 hB hd  hQ _ (σ) (x0) (x1) (x2) (x3) hx0 l0 l1 l2 l3 hF
      · rw [if_neg (bz_nt (Decidable.not_not.mp c42))] at hF
        refine r_aload_n f_Mo_scanMethod_58 l0 ?_
        refine r_iload_n f_Mo_scanMethod_59 l2 ?_
        refine r_iconst f_Mo_scanMethod_60 (v := 1) (by decide) ?_
        refine r_iconst f_Mo_scanMethod_61 (v := 0) (by decide) ?_
        cases hq43 : F_Mo_typeOf (x0) (x2) (true) (false) σ with
        | none => simp only [hq43] at hF; cases hF
        | some q43 =>
          simp only [hq43] at hF
          refine t_V3i hB hx0 rfl rfl f_Mo_scanMethod_62 (by decide) (Nat.le_of_ble_eq_true rfl) (Nat.le_of_ble_eq_true rfl) (w_Mo_typeOf hB (by omega) (x0) (x2) (true) (false) hx0 hq43 ⟨_, rfl, ?_⟩)
          refine r_istore f_Mo_scanMethod_65 ?_
          refine r_iload_n f_Mo_scanMethod_67 (lk_put_ne l3 (by decide) (Or.inl rfl)) ?_
          refine r_if_eq f_Mo_scanMethod_68 (fun c44 => ?_) (fun c44 => ?_)
          · rw [if_neg (bz_nt c44)] at hF
            exact w_Mo_scanMethod_84 hB hd (ih) hQ _ (q43.2) (x0) (x1) (x2) (x3) (x5) (x6) hx0 (lk_put_ne l0 (by decide) (Or.inl rfl)) (lk_put_ne l1 (by decide) (Or.inl rfl)) (lk_put_ne l2 (by decide) (Or.inl rfl)) (lk_put_ne l3 (by decide) (Or.inl rfl)) (lk_put_ne l5 (by decide) (Or.inl rfl)) (lk_put_ne l6 (by decide) (Or.inl rfl)) hF
          · rw [if_pos (bz_t c44)] at hF
            refine r_aload_n f_Mo_scanMethod_71 (lk_put_ne l0 (by decide) (Or.inl rfl)) ?_
            refine t_getc hB hx0 f_Mo_scanMethod_72 rfl ?_
            refine r_iconst f_Mo_scanMethod_75 (v := 3) (by decide) ?_
            refine r_iload_n f_Mo_scanMethod_76 (lk_put_ne l1 (by decide) (Or.inl rfl)) ?_
            refine r_imul f_Mo_scanMethod_77 ?_
            refine r_iload f_Mo_scanMethod_78 (lk_put_ne l6 (by decide) (Or.inl rfl)) ?_
            refine r_iadd f_Mo_scanMethod_80 ?_
            refine r_iload f_Mo_scanMethod_81 lk_put ?_
            by_cases c45 : (((3 : Int32) * x1) + x6) < 0 ∨ 18 ≤ ((((3 : Int32) * x1) + x6)).toNatClampNeg
            · rw [if_pos c45] at hF; cases hF
            rw [if_neg c45] at hF
            refine t_iast hB (cc_8_10 hx0) f_Mo_scanMethod_83 c45 ?_
            generalize hs46 : setA q43.2 ((cref SHm (x0) 10)) (((((3 : Int32) * x1) + x6)).toNatClampNeg) (q43.1) = s46 at hF ⊢
            rw [stl_eq] at hF
            exact w_Mo_scanMethod_84 hB hd (ih) hQ _ (s46) (x0) (x1) (x2) (x3) (x5) (x6) hx0 (lk_put_ne l0 (by decide) (Or.inl rfl)) (lk_put_ne l1 (by decide) (Or.inl rfl)) (lk_put_ne l2 (by decide) (Or.inl rfl)) (lk_put_ne l3 (by decide) (Or.inl rfl)) (lk_put_ne l5 (by decide) (Or.inl rfl)) (lk_put_ne l6 (by decide) (Or.inl rfl)) hF
def F_Mo_scanMethod_41  (x0 : Nat) (x1 : Int32) (x2 : Int32) (x3 : Bool) (x5 : Int32) (σ : SG) : Option (SG) :=
  F_Mo_scanMethod_44  5000 (x0) (x1) (x2) (x3) (x5) ((0 : Int32)) σ
set_option maxHeartbeats 4000000 in
theorem w_Mo_scanMethod_41 {b d : Nat} {sc : SC} {pre tl : List PE} {B : Nat} {Q : Option Value → List PE → Prop} {res : SG} (hB : B = b + pre.length) (hd : 2 ≤ d)   (hQ : Q none (HH pre tl SHm B res)) (lv : LV) (σ : SG) (x0 : Nat) (x1 : Int32) (x2 : Int32) (x3 : Bool) (x5 : Int32) (hx0 : isC SHm (x0) 8 = true) (l0 : lv.lookup 0 = some (.ref (B + (x0)))) (l1 : lv.lookup 1 = some (.int (x1))) (l2 : lv.lookup 2 = some (.int (x2))) (l3 : lv.lookup 3 = some (.int (bz (x3)))) (l5 : lv.lookup 5 = some (.int (x5))) (hF : F_Mo_scanMethod_41  x0 x1 x2 x3 x5 σ = some res) : Rn b sc d 35 41 lv [] (HH pre tl SHm B σ) Q := by
  obtain ⟨e0, rfl⟩ : ∃ e, d = e + 1 := ⟨d - 1, by omega⟩
  unfold F_Mo_scanMethod_41 at hF
  refine r_iconst f_Mo_scanMethod_41 (v := 0) (by decide) ?_
  refine r_istore f_Mo_scanMethod_42 ?_
  exact w_Mo_scanMethod_44 hB hd  hQ 5000 _ (σ) (x0) (x1) (x2) (x3) (x5) ((0 : Int32)) hx0 (lk_put_ne l0 (by decide) (Or.inl rfl)) (lk_put_ne l1 (by decide) (Or.inl rfl)) (lk_put_ne l2 (by decide) (Or.inl rfl)) (lk_put_ne l3 (by decide) (Or.inl rfl)) (lk_put_ne l5 (by decide) (Or.inl rfl)) lk_put hF
def F_Mo_scanMethod_29  (x0 : Nat) (x1 : Int32) (x2 : Int32) (x3 : Bool) (x5 : Int32) (σ : SG) : Option (SG) :=
  if x3 = true then
  if x1 < 0 ∨ 6 ≤ (x1).toNatClampNeg then none else
  stl (setA σ ((cref SHm (x0) 9)) ((x1).toNatClampNeg) (x5)) fun s49 =>
  F_Mo_scanMethod_41 (x0) (x1) (x2) (x3) (x5) s49
  else F_Mo_scanMethod_41 (x0) (x1) (x2) (x3) (x5) σ
set_option maxHeartbeats 4000000 in
theorem w_Mo_scanMethod_29 {b d : Nat} {sc : SC} {pre tl : List PE} {B : Nat} {Q : Option Value → List PE → Prop} {res : SG} (hB : B = b + pre.length) (hd : 2 ≤ d)   (hQ : Q none (HH pre tl SHm B res)) (lv : LV) (σ : SG) (x0 : Nat) (x1 : Int32) (x2 : Int32) (x3 : Bool) (x5 : Int32) (hx0 : isC SHm (x0) 8 = true) (l0 : lv.lookup 0 = some (.ref (B + (x0)))) (l1 : lv.lookup 1 = some (.int (x1))) (l2 : lv.lookup 2 = some (.int (x2))) (l3 : lv.lookup 3 = some (.int (bz (x3)))) (l5 : lv.lookup 5 = some (.int (x5))) (hF : F_Mo_scanMethod_29  x0 x1 x2 x3 x5 σ = some res) : Rn b sc d 35 29 lv [] (HH pre tl SHm B σ) Q := by
  obtain ⟨e0, rfl⟩ : ∃ e, d = e + 1 := ⟨d - 1, by omega⟩
  unfold F_Mo_scanMethod_29 at hF
  refine r_iload_n f_Mo_scanMethod_29 l3 ?_
  refine r_if_eq f_Mo_scanMethod_30 (fun c47 => ?_) (fun c47 => ?_)
  · rw [if_neg (bz_nt c47)] at hF
    exact w_Mo_scanMethod_41 hB hd  hQ _ (σ) (x0) (x1) (x2) (x3) (x5) hx0 l0 l1 l2 l3 l5 hF
  · rw [if_pos (bz_t c47)] at hF
    refine r_aload_n f_Mo_scanMethod_33 l0 ?_
    refine t_getc hB hx0 f_Mo_scanMethod_34 rfl ?_
    refine r_iload_n f_Mo_scanMethod_37 l1 ?_
    refine r_iload f_Mo_scanMethod_38 l5 ?_
    by_cases c48 : x1 < 0 ∨ 6 ≤ (x1).toNatClampNeg
    · rw [if_pos c48] at hF; cases hF
    rw [if_neg c48] at hF
    refine t_iast hB (cc_8_9 hx0) f_Mo_scanMethod_40 c48 ?_
    generalize hs49 : setA σ ((cref SHm (x0) 9)) ((x1).toNatClampNeg) (x5) = s49 at hF ⊢
    rw [stl_eq] at hF
    exact w_Mo_scanMethod_41 hB hd  hQ _ (s49) (x0) (x1) (x2) (x3) (x5) hx0 l0 l1 l2 l3 l5 hF
def F_Mo_scanMethod (a0 : Nat) (a1 : Int32) (a2 : Int32) (a3 : Bool) (σ : SG) : Option (SG) :=
  match F_Mo_typeOf (a0) (a2) (false) (true) σ with
  | none => none
  | some q50 =>
  match F_Mo_between (a0) ((0 : Int32)) ((3 : Int32)) q50.2 with
  | none => none
  | some q51 =>
  if a3 = true then
  if a1 < 0 ∨ 6 ≤ (a1).toNatClampNeg then none else
  stl (setA q51.2 ((cref SHm (a0) 8)) ((a1).toNatClampNeg) (q50.1)) fun s54 =>
  F_Mo_scanMethod_29 (a0) (a1) (a2) (a3) (q51.1) s54
  else F_Mo_scanMethod_29 (a0) (a1) (a2) (a3) (q51.1) q51.2
set_option maxHeartbeats 4000000 in
theorem w_Mo_scanMethod {b d : Nat} {pre tl : List PE} {B : Nat} {Q : Option Value → List PE → Prop} {res : SG} (hB : B = b + pre.length) (hd : 2 ≤ d)  {σ : SG} (a0 : Nat) (a1 : Int32) (a2 : Int32) (a3 : Bool) (ha0 : isC SHm (a0) 8 = true) (hF : F_Mo_scanMethod a0 a1 a2 a3 σ = some res) (hQ : Q none (HH pre tl SHm B res)) : Cl b d 35 [.ref (B + (a0)), .int (a1), .int (a2), .int (bz (a3))] (HH pre tl SHm B σ) Q := by
  obtain ⟨e0, rfl⟩ : ∃ e, d = e + 1 := ⟨d - 1, by omega⟩
  unfold Cl
  unfold F_Mo_scanMethod at hF
  refine r_aload_n f_Mo_scanMethod_0 rfl ?_
  refine r_iload_n f_Mo_scanMethod_1 rfl ?_
  refine r_iconst f_Mo_scanMethod_2 (v := 0) (by decide) ?_
  refine r_iconst f_Mo_scanMethod_3 (v := 1) (by decide) ?_
  cases hq50 : F_Mo_typeOf (a0) (a2) (false) (true) σ with
  | none => simp only [hq50] at hF; cases hF
  | some q50 =>
    simp only [hq50] at hF
    refine t_V3i hB ha0 rfl rfl f_Mo_scanMethod_4 (by decide) (Nat.le_of_ble_eq_true rfl) (Nat.le_of_ble_eq_true rfl) (w_Mo_typeOf hB (by omega) (a0) (a2) (false) (true) ha0 hq50 ⟨_, rfl, ?_⟩)
    refine r_istore f_Mo_scanMethod_7 ?_
    refine r_aload_n f_Mo_scanMethod_9 (lk_put_ne rfl (by decide) (Or.inl rfl)) ?_
    refine r_iconst f_Mo_scanMethod_10 (v := 0) (by decide) ?_
    refine r_iconst f_Mo_scanMethod_11 (v := 3) (by decide) ?_
    cases hq51 : F_Mo_between (a0) ((0 : Int32)) ((3 : Int32)) q50.2 with
    | none => simp only [hq51] at hF; cases hF
    | some q51 =>
      simp only [hq51] at hF
      refine t_V2i hB ha0 rfl rfl f_Mo_scanMethod_12 (by decide) (Nat.le_of_ble_eq_true rfl) (Nat.le_of_ble_eq_true rfl) (w_Mo_between hB (by omega) (a0) ((0 : Int32)) ((3 : Int32)) ha0 hq51 ⟨_, rfl, ?_⟩)
      refine r_istore f_Mo_scanMethod_15 ?_
      refine r_iload_n f_Mo_scanMethod_17 (lk_put_ne (lk_put_ne rfl (by decide) (Or.inl rfl)) (by decide) (Or.inl rfl)) ?_
      refine r_if_eq f_Mo_scanMethod_18 (fun c52 => ?_) (fun c52 => ?_)
      · rw [if_neg (bz_nt c52)] at hF
        exact w_Mo_scanMethod_29 hB hd  hQ _ (q51.2) (a0) (a1) (a2) (a3) (q51.1) ha0 (lk_put_ne (lk_put_ne rfl (by decide) (Or.inl rfl)) (by decide) (Or.inl rfl)) (lk_put_ne (lk_put_ne rfl (by decide) (Or.inl rfl)) (by decide) (Or.inl rfl)) (lk_put_ne (lk_put_ne rfl (by decide) (Or.inl rfl)) (by decide) (Or.inl rfl)) (lk_put_ne (lk_put_ne rfl (by decide) (Or.inl rfl)) (by decide) (Or.inl rfl)) lk_put hF
      · rw [if_pos (bz_t c52)] at hF
        refine r_aload_n f_Mo_scanMethod_21 (lk_put_ne (lk_put_ne rfl (by decide) (Or.inl rfl)) (by decide) (Or.inl rfl)) ?_
        refine t_getc hB ha0 f_Mo_scanMethod_22 rfl ?_
        refine r_iload_n f_Mo_scanMethod_25 (lk_put_ne (lk_put_ne rfl (by decide) (Or.inl rfl)) (by decide) (Or.inl rfl)) ?_
        refine r_iload f_Mo_scanMethod_26 (lk_put_ne lk_put (by decide) (Or.inl rfl)) ?_
        by_cases c53 : a1 < 0 ∨ 6 ≤ (a1).toNatClampNeg
        · rw [if_pos c53] at hF; cases hF
        rw [if_neg c53] at hF
        refine t_iast hB (cc_8_8 ha0) f_Mo_scanMethod_28 c53 ?_
        generalize hs54 : setA q51.2 ((cref SHm (a0) 8)) ((a1).toNatClampNeg) (q50.1) = s54 at hF ⊢
        rw [stl_eq] at hF
        exact w_Mo_scanMethod_29 hB hd  hQ _ (s54) (a0) (a1) (a2) (a3) (q51.1) ha0 (lk_put_ne (lk_put_ne rfl (by decide) (Or.inl rfl)) (by decide) (Or.inl rfl)) (lk_put_ne (lk_put_ne rfl (by decide) (Or.inl rfl)) (by decide) (Or.inl rfl)) (lk_put_ne (lk_put_ne rfl (by decide) (Or.inl rfl)) (by decide) (Or.inl rfl)) (lk_put_ne (lk_put_ne rfl (by decide) (Or.inl rfl)) (by decide) (Or.inl rfl)) lk_put hF
theorem f_Mo_scan_0 : fetch 31 0 = some (.aload_n 0, 1, 0, 0, 0) := rfl
theorem f_Mo_scan_1 : fetch 31 1 = some (.iconst 0, 1, 0, 0, 0) := rfl
theorem f_Mo_scan_2 : fetch 31 2 = some (.putfield 118, 3, 8, 2, 63) := rfl
theorem f_Mo_scan_5 : fetch 31 5 = some (.aload_n 0, 1, 0, 0, 0) := rfl
theorem f_Mo_scan_6 : fetch 31 6 = some (.iconst 0, 1, 0, 0, 0) := rfl
theorem f_Mo_scan_7 : fetch 31 7 = some (.putfield 114, 3, 8, 3, 60) := rfl
theorem f_Mo_scan_10 : fetch 31 10 = some (.aload_n 0, 1, 0, 0, 0) := rfl
theorem f_Mo_scan_11 : fetch 31 11 = some (.aload_n 0, 1, 0, 0, 0) := rfl
theorem f_Mo_scan_12 : fetch 31 12 = some (.invokevirtual 121, 3, 32, 0, 42) := rfl
theorem f_Mo_scan_15 : fetch 31 15 = some (.bipush 77, 2, 0, 0, 0) := rfl
theorem f_Mo_scan_17 : fetch 31 17 = some (.if_icmp .eq 7, 3, 24, 0, 0) := rfl
theorem f_Mo_scan_20 : fetch 31 20 = some (.iconst 1, 1, 0, 0, 0) := rfl
theorem f_Mo_scan_21 : fetch 31 21 = some (.goto 4, 3, 25, 0, 0) := rfl
theorem f_Mo_scan_24 : fetch 31 24 = some (.iconst 0, 1, 0, 0, 0) := rfl
theorem f_Mo_scan_25 : fetch 31 25 = some (.putfield 114, 3, 8, 3, 60) := rfl
theorem f_Mo_scan_28 : fetch 31 28 = some (.aload_n 0, 1, 0, 0, 0) := rfl
theorem f_Mo_scan_29 : fetch 31 29 = some (.iconst 0, 1, 0, 0, 0) := rfl
theorem f_Mo_scan_30 : fetch 31 30 = some (.iconst 4, 1, 0, 0, 0) := rfl
theorem f_Mo_scan_31 : fetch 31 31 = some (.invokevirtual 125, 3, 33, 2, 43) := rfl
theorem f_Mo_scan_34 : fetch 31 34 = some (.istore_n 2, 1, 0, 0, 0) := rfl
theorem f_Mo_scan_35 : fetch 31 35 = some (.aload_n 0, 1, 0, 0, 0) := rfl
theorem f_Mo_scan_36 : fetch 31 36 = some (.iload_n 1, 1, 0, 0, 0) := rfl
theorem f_Mo_scan_37 : fetch 31 37 = some (.ifCond .eq 7, 3, 44, 0, 0) := rfl
theorem f_Mo_scan_40 : fetch 31 40 = some (.iload_n 2, 1, 0, 0, 0) := rfl
theorem f_Mo_scan_41 : fetch 31 41 = some (.goto 7, 3, 48, 0, 0) := rfl
theorem f_Mo_scan_44 : fetch 31 44 = some (.aload_n 0, 1, 0, 0, 0) := rfl
theorem f_Mo_scan_45 : fetch 31 45 = some (.getfield 129, 3, 8, 4, 64) := rfl
theorem f_Mo_scan_48 : fetch 31 48 = some (.putfield 129, 3, 8, 4, 64) := rfl
theorem f_Mo_scan_51 : fetch 31 51 = some (.iconst 0, 1, 0, 0, 0) := rfl
theorem f_Mo_scan_52 : fetch 31 52 = some (.istore_n 3, 1, 0, 0, 0) := rfl
theorem f_Mo_scan_53 : fetch 31 53 = some (.iload_n 3, 1, 0, 0, 0) := rfl
theorem f_Mo_scan_54 : fetch 31 54 = some (.iload_n 2, 1, 0, 0, 0) := rfl
theorem f_Mo_scan_55 : fetch 31 55 = some (.if_icmp .ge 85, 3, 140, 0, 0) := rfl
theorem f_Mo_scan_58 : fetch 31 58 = some (.aload_n 0, 1, 0, 0, 0) := rfl
theorem f_Mo_scan_59 : fetch 31 59 = some (.getfield 114, 3, 8, 3, 60) := rfl
theorem f_Mo_scan_62 : fetch 31 62 = some (.ifCond .ne 78, 3, 140, 0, 0) := rfl
theorem f_Mo_scan_65 : fetch 31 65 = some (.aload_n 0, 1, 0, 0, 0) := rfl
theorem f_Mo_scan_66 : fetch 31 66 = some (.iconst 0, 1, 0, 0, 0) := rfl
theorem f_Mo_scan_67 : fetch 31 67 = some (.iconst 4, 1, 0, 0, 0) := rfl
theorem f_Mo_scan_68 : fetch 31 68 = some (.invokevirtual 125, 3, 33, 2, 43) := rfl
theorem f_Mo_scan_71 : fetch 31 71 = some (.istore 4, 2, 0, 0, 0) := rfl
theorem f_Mo_scan_73 : fetch 31 73 = some (.iload_n 1, 1, 0, 0, 0) := rfl
theorem f_Mo_scan_74 : fetch 31 74 = some (.ifCond .eq 11, 3, 85, 0, 0) := rfl
theorem f_Mo_scan_77 : fetch 31 77 = some (.aload_n 0, 1, 0, 0, 0) := rfl
theorem f_Mo_scan_78 : fetch 31 78 = some (.getfield 13, 3, 8, 5, 28) := rfl
theorem f_Mo_scan_81 : fetch 31 81 = some (.iload_n 3, 1, 0, 0, 0) := rfl
theorem f_Mo_scan_82 : fetch 31 82 = some (.iload 4, 2, 0, 0, 0) := rfl
theorem f_Mo_scan_84 : fetch 31 84 = some (.iastore, 1, 0, 0, 0) := rfl
theorem f_Mo_scan_85 : fetch 31 85 = some (.iconst 0, 1, 0, 0, 0) := rfl
theorem f_Mo_scan_86 : fetch 31 86 = some (.istore 5, 2, 0, 0, 0) := rfl
theorem f_Mo_scan_88 : fetch 31 88 = some (.iload 5, 2, 0, 0, 0) := rfl
theorem f_Mo_scan_90 : fetch 31 90 = some (.iload 4, 2, 0, 0, 0) := rfl
theorem f_Mo_scan_92 : fetch 31 92 = some (.if_icmp .ge 42, 3, 134, 0, 0) := rfl
theorem f_Mo_scan_95 : fetch 31 95 = some (.aload_n 0, 1, 0, 0, 0) := rfl
theorem f_Mo_scan_96 : fetch 31 96 = some (.getfield 114, 3, 8, 3, 60) := rfl
theorem f_Mo_scan_99 : fetch 31 99 = some (.ifCond .ne 35, 3, 134, 0, 0) := rfl
theorem f_Mo_scan_102 : fetch 31 102 = some (.aload_n 0, 1, 0, 0, 0) := rfl
theorem f_Mo_scan_103 : fetch 31 103 = some (.iload_n 2, 1, 0, 0, 0) := rfl
theorem f_Mo_scan_104 : fetch 31 104 = some (.iconst 0, 1, 0, 0, 0) := rfl
theorem f_Mo_scan_105 : fetch 31 105 = some (.iconst 0, 1, 0, 0, 0) := rfl
theorem f_Mo_scan_106 : fetch 31 106 = some (.invokevirtual 132, 3, 34, 3, 44) := rfl
theorem f_Mo_scan_109 : fetch 31 109 = some (.istore 6, 2, 0, 0, 0) := rfl
theorem f_Mo_scan_111 : fetch 31 111 = some (.iload_n 1, 1, 0, 0, 0) := rfl
theorem f_Mo_scan_112 : fetch 31 112 = some (.ifCond .eq 16, 3, 128, 0, 0) := rfl
theorem f_Mo_scan_115 : fetch 31 115 = some (.aload_n 0, 1, 0, 0, 0) := rfl
theorem f_Mo_scan_116 : fetch 31 116 = some (.getfield 16, 3, 8, 6, 29) := rfl
theorem f_Mo_scan_119 : fetch 31 119 = some (.iconst 4, 1, 0, 0, 0) := rfl
theorem f_Mo_scan_120 : fetch 31 120 = some (.iload_n 3, 1, 0, 0, 0) := rfl
theorem f_Mo_scan_121 : fetch 31 121 = some (.imul, 1, 0, 0, 0) := rfl
theorem f_Mo_scan_122 : fetch 31 122 = some (.iload 5, 2, 0, 0, 0) := rfl
theorem f_Mo_scan_124 : fetch 31 124 = some (.iadd, 1, 0, 0, 0) := rfl
theorem f_Mo_scan_125 : fetch 31 125 = some (.iload 6, 2, 0, 0, 0) := rfl
theorem f_Mo_scan_127 : fetch 31 127 = some (.iastore, 1, 0, 0, 0) := rfl
theorem f_Mo_scan_128 : fetch 31 128 = some (.iinc 5 1, 3, 0, 0, 0) := rfl
theorem f_Mo_scan_131 : fetch 31 131 = some (.goto (-43), 3, 88, 0, 0) := rfl
theorem f_Mo_scan_134 : fetch 31 134 = some (.iinc 3 1, 3, 0, 0, 0) := rfl
theorem f_Mo_scan_137 : fetch 31 137 = some (.goto (-84), 3, 53, 0, 0) := rfl
theorem f_Mo_scan_140 : fetch 31 140 = some (.aload_n 0, 1, 0, 0, 0) := rfl
theorem f_Mo_scan_141 : fetch 31 141 = some (.iconst 1, 1, 0, 0, 0) := rfl
theorem f_Mo_scan_142 : fetch 31 142 = some (.bipush 6, 2, 0, 0, 0) := rfl
theorem f_Mo_scan_144 : fetch 31 144 = some (.invokevirtual 125, 3, 33, 2, 43) := rfl
theorem f_Mo_scan_147 : fetch 31 147 = some (.istore_n 3, 1, 0, 0, 0) := rfl
theorem f_Mo_scan_148 : fetch 31 148 = some (.aload_n 0, 1, 0, 0, 0) := rfl
theorem f_Mo_scan_149 : fetch 31 149 = some (.iload_n 1, 1, 0, 0, 0) := rfl
theorem f_Mo_scan_150 : fetch 31 150 = some (.ifCond .eq 7, 3, 157, 0, 0) := rfl
theorem f_Mo_scan_153 : fetch 31 153 = some (.iload_n 3, 1, 0, 0, 0) := rfl
theorem f_Mo_scan_154 : fetch 31 154 = some (.goto 7, 3, 161, 0, 0) := rfl
theorem f_Mo_scan_157 : fetch 31 157 = some (.aload_n 0, 1, 0, 0, 0) := rfl
theorem f_Mo_scan_158 : fetch 31 158 = some (.getfield 136, 3, 8, 7, 62) := rfl
theorem f_Mo_scan_161 : fetch 31 161 = some (.putfield 136, 3, 8, 7, 62) := rfl
theorem f_Mo_scan_164 : fetch 31 164 = some (.iconst 0, 1, 0, 0, 0) := rfl
theorem f_Mo_scan_165 : fetch 31 165 = some (.istore 4, 2, 0, 0, 0) := rfl
theorem f_Mo_scan_167 : fetch 31 167 = some (.iload 4, 2, 0, 0, 0) := rfl
theorem f_Mo_scan_169 : fetch 31 169 = some (.iload_n 3, 1, 0, 0, 0) := rfl
theorem f_Mo_scan_170 : fetch 31 170 = some (.if_icmp .ge 24, 3, 194, 0, 0) := rfl
theorem f_Mo_scan_173 : fetch 31 173 = some (.aload_n 0, 1, 0, 0, 0) := rfl
theorem f_Mo_scan_174 : fetch 31 174 = some (.getfield 114, 3, 8, 3, 60) := rfl
theorem f_Mo_scan_177 : fetch 31 177 = some (.ifCond .ne 17, 3, 194, 0, 0) := rfl
theorem f_Mo_scan_180 : fetch 31 180 = some (.aload_n 0, 1, 0, 0, 0) := rfl
theorem f_Mo_scan_181 : fetch 31 181 = some (.iload 4, 2, 0, 0, 0) := rfl
theorem f_Mo_scan_183 : fetch 31 183 = some (.iload_n 2, 1, 0, 0, 0) := rfl
theorem f_Mo_scan_184 : fetch 31 184 = some (.iload_n 1, 1, 0, 0, 0) := rfl
theorem f_Mo_scan_185 : fetch 31 185 = some (.invokevirtual 139, 3, 35, 3, 45) := rfl
theorem f_Mo_scan_188 : fetch 31 188 = some (.iinc 4 1, 3, 0, 0, 0) := rfl
theorem f_Mo_scan_191 : fetch 31 191 = some (.goto (-24), 3, 167, 0, 0) := rfl
theorem f_Mo_scan_194 : fetch 31 194 = some (.aload_n 0, 1, 0, 0, 0) := rfl
theorem f_Mo_scan_195 : fetch 31 195 = some (.aload_n 0, 1, 0, 0, 0) := rfl
theorem f_Mo_scan_196 : fetch 31 196 = some (.getfield 114, 3, 8, 3, 60) := rfl
theorem f_Mo_scan_199 : fetch 31 199 = some (.ifCond .ne 14, 3, 213, 0, 0) := rfl
theorem f_Mo_scan_202 : fetch 31 202 = some (.aload_n 0, 1, 0, 0, 0) := rfl
theorem f_Mo_scan_203 : fetch 31 203 = some (.getfield 118, 3, 8, 2, 63) := rfl
theorem f_Mo_scan_206 : fetch 31 206 = some (.aload_n 0, 1, 0, 0, 0) := rfl
theorem f_Mo_scan_207 : fetch 31 207 = some (.getfield 108, 3, 8, 0, 59) := rfl
theorem f_Mo_scan_210 : fetch 31 210 = some (.if_icmp .eq 7, 3, 217, 0, 0) := rfl
theorem f_Mo_scan_213 : fetch 31 213 = some (.iconst 1, 1, 0, 0, 0) := rfl
theorem f_Mo_scan_214 : fetch 31 214 = some (.goto 4, 3, 218, 0, 0) := rfl
theorem f_Mo_scan_217 : fetch 31 217 = some (.iconst 0, 1, 0, 0, 0) := rfl
theorem f_Mo_scan_218 : fetch 31 218 = some (.putfield 114, 3, 8, 3, 60) := rfl
theorem f_Mo_scan_221 : fetch 31 221 = some (.return_, 1, 0, 0, 0) := rfl
def F_Mo_scan_218  (y0 : Nat) (y1 : Bool) (σ : SG) : Option (SG) :=
  stl (setI σ (y0) 3 (bz (y1))) fun s1 =>
  some s1
set_option maxHeartbeats 4000000 in
theorem w_Mo_scan_218 {b d : Nat} {sc : SC} {pre tl : List PE} {B : Nat} {Q : Option Value → List PE → Prop} {res : SG} (hB : B = b + pre.length) (hd : 3 ≤ d)   (hQ : Q none (HH pre tl SHm B res)) (lv : LV) (σ : SG) (y0 : Nat) (y1 : Bool) (hy0 : isC SHm (y0) 8 = true) (hF : F_Mo_scan_218  y0 y1 σ = some res) : Rn b sc d 31 218 lv [.int (bz (y1)), .ref (B + (y0))] (HH pre tl SHm B σ) Q := by
  obtain ⟨e0, rfl⟩ : ∃ e, d = e + 1 := ⟨d - 1, by omega⟩
  unfold F_Mo_scan_218 at hF
  refine t_putz (v := y1) hB hy0 f_Mo_scan_218 rfl rfl ?_
  generalize hs1 : setI σ (y0) 3 (bz (y1)) = s1 at hF ⊢
  rw [stl_eq] at hF
  cases hF
  exact r_return f_Mo_scan_221 hQ
def F_Mo_scan_213  (y0 : Nat) (σ : SG) : Option (SG) :=
  F_Mo_scan_218 (y0) (true) σ
set_option maxHeartbeats 4000000 in
theorem w_Mo_scan_213 {b d : Nat} {sc : SC} {pre tl : List PE} {B : Nat} {Q : Option Value → List PE → Prop} {res : SG} (hB : B = b + pre.length) (hd : 3 ≤ d)   (hQ : Q none (HH pre tl SHm B res)) (lv : LV) (σ : SG) (y0 : Nat) (hy0 : isC SHm (y0) 8 = true) (hF : F_Mo_scan_213  y0 σ = some res) : Rn b sc d 31 213 lv [.ref (B + (y0))] (HH pre tl SHm B σ) Q := by
  obtain ⟨e0, rfl⟩ : ∃ e, d = e + 1 := ⟨d - 1, by omega⟩
  unfold F_Mo_scan_213 at hF
  refine r_iconst f_Mo_scan_213 (v := 1) (by decide) ?_
  refine r_goto f_Mo_scan_214 ?_
  exact w_Mo_scan_218 hB hd  hQ _ (σ) (y0) (true) hy0 hF
def F_Mo_scan_194  (x0 : Nat) (σ : SG) : Option (SG) :=
  if (zb (σ.1 (x0) 3)) = true then
  F_Mo_scan_213 (x0) σ
  else if (σ.1 (x0) 2) = (σ.1 (x0) 0) then
  F_Mo_scan_218 (x0) (false) σ
  else F_Mo_scan_213 (x0) σ
set_option maxHeartbeats 4000000 in
theorem w_Mo_scan_194 {b d : Nat} {sc : SC} {pre tl : List PE} {B : Nat} {Q : Option Value → List PE → Prop} {res : SG} (hB : B = b + pre.length) (hd : 3 ≤ d)   (hQ : Q none (HH pre tl SHm B res)) (lv : LV) (σ : SG) (x0 : Nat) (hx0 : isC SHm (x0) 8 = true) (l0 : lv.lookup 0 = some (.ref (B + (x0)))) (hF : F_Mo_scan_194  x0 σ = some res) : Rn b sc d 31 194 lv [] (HH pre tl SHm B σ) Q := by
  obtain ⟨e0, rfl⟩ : ∃ e, d = e + 1 := ⟨d - 1, by omega⟩
  unfold F_Mo_scan_194 at hF
  refine r_aload_n f_Mo_scan_194 l0 ?_
  refine r_aload_n f_Mo_scan_195 l0 ?_
  refine t_getz hB hx0 f_Mo_scan_196 rfl ?_
  refine r_if_ne f_Mo_scan_199 (fun c2 => ?_) (fun c2 => ?_)
  · rw [if_pos (bz_t c2)] at hF
    exact w_Mo_scan_213 hB hd  hQ _ (σ) (x0) hx0 hF
  · rw [if_neg (bz_nt (Decidable.not_not.mp c2))] at hF
    refine r_aload_n f_Mo_scan_202 l0 ?_
    refine t_geti hB hx0 f_Mo_scan_203 rfl ?_
    refine r_aload_n f_Mo_scan_206 l0 ?_
    refine t_geti hB hx0 f_Mo_scan_207 rfl ?_
    refine r_icmp_eq f_Mo_scan_210 (fun c3 => ?_) (fun c3 => ?_)
    · rw [if_pos c3] at hF
      refine r_iconst f_Mo_scan_217 (v := 0) (by decide) ?_
      exact w_Mo_scan_218 hB hd  hQ _ (σ) (x0) (false) hx0 hF
    · rw [if_neg c3] at hF
      exact w_Mo_scan_213 hB hd  hQ _ (σ) (x0) hx0 hF
def F_Mo_scan_167  : Nat → Nat → Bool → Int32 → Int32 → Int32 → SG → Option (SG)
  | 0, _, _, _, _, _, _ => none
  | n + 1, x0, x1, x2, x3, x4, σ =>
  if x3 ≤ x4 then
  F_Mo_scan_194 (x0) σ
  else if (zb (σ.1 (x0) 3)) = true then
  F_Mo_scan_194 (x0) σ
  else match F_Mo_scanMethod (x0) (x4) (x2) (x1) σ with
  | none => none
  | some q6 =>
  F_Mo_scan_167  n (x0) (x1) (x2) (x3) ((x4 + 1)) q6
set_option maxHeartbeats 4000000 in
theorem w_Mo_scan_167 {b d : Nat} {sc : SC} {pre tl : List PE} {B : Nat} {Q : Option Value → List PE → Prop} {res : SG} (hB : B = b + pre.length) (hd : 3 ≤ d)   (hQ : Q none (HH pre tl SHm B res)) : ∀ (n : Nat) (lv : LV) (σ : SG) (x0 : Nat) (x1 : Bool) (x2 : Int32) (x3 : Int32) (x4 : Int32), isC SHm (x0) 8 = true → lv.lookup 0 = some (.ref (B + (x0))) → lv.lookup 1 = some (.int (bz (x1))) → lv.lookup 2 = some (.int (x2)) → lv.lookup 3 = some (.int (x3)) → lv.lookup 4 = some (.int (x4)) → F_Mo_scan_167  n x0 x1 x2 x3 x4 σ = some res → Rn b sc d 31 167 lv [] (HH pre tl SHm B σ) Q := by
  obtain ⟨e0, rfl⟩ : ∃ e, d = e + 1 := ⟨d - 1, by omega⟩
  intro n
  induction n with
  | zero => intro lv σ x0 x1 x2 x3 x4 hx0 l0 l1 l2 l3 l4 hF; cases hF
  | succ n ih =>
    intro lv σ x0 x1 x2 x3 x4 hx0 l0 l1 l2 l3 l4 hF
    unfold F_Mo_scan_167 at hF
    refine r_iload f_Mo_scan_167 l4 ?_
    refine r_iload_n f_Mo_scan_169 l3 ?_
    refine r_icmp_ge f_Mo_scan_170 (fun c4 => ?_) (fun c4 => ?_)
    · rw [if_pos c4] at hF
      exact w_Mo_scan_194 hB hd  hQ _ (σ) (x0) hx0 l0 hF
    · rw [if_neg c4] at hF
      refine r_aload_n f_Mo_scan_173 l0 ?_
      refine t_getz hB hx0 f_Mo_scan_174 rfl ?_
      refine r_if_ne f_Mo_scan_177 (fun c5 => ?_) (fun c5 => ?_)
      · rw [if_pos (bz_t c5)] at hF
        exact w_Mo_scan_194 hB hd  hQ _ (σ) (x0) hx0 l0 hF
      · rw [if_neg (bz_nt (Decidable.not_not.mp c5))] at hF
        refine r_aload_n f_Mo_scan_180 l0 ?_
        refine r_iload f_Mo_scan_181 l4 ?_
        refine r_iload_n f_Mo_scan_183 l2 ?_
        refine r_iload_n f_Mo_scan_184 l1 ?_
        cases hq6 : F_Mo_scanMethod (x0) (x4) (x2) (x1) σ with
        | none => simp only [hq6] at hF; cases hF
        | some q6 =>
          simp only [hq6] at hF
          refine t_V3v hB hx0 rfl rfl f_Mo_scan_185 (by decide) (Nat.le_of_ble_eq_true rfl) (Nat.le_of_ble_eq_true rfl) (w_Mo_scanMethod hB (by omega) (x0) (x4) (x2) (x1) hx0 hq6 ⟨rfl, ?_⟩)
          refine r_iinc f_Mo_scan_188 l4 (w := x4 + 1) rfl ?_
          refine r_goto f_Mo_scan_191 ?_
          exact ih _ (q6) (x0) (x1) (x2) (x3) ((x4 + 1)) hx0 (lk_put_ne l0 (by decide) (Or.inl rfl)) (lk_put_ne l1 (by decide) (Or.inl rfl)) (lk_put_ne l2 (by decide) (Or.inl rfl)) (lk_put_ne l3 (by decide) (Or.inl rfl)) lk_put hF
def F_Mo_scan_161  (x0 : Nat) (x1 : Bool) (x2 : Int32) (x3 : Int32) (y0 : Nat) (y1 : Int32) (σ : SG) : Option (SG) :=
  stl (setI σ (y0) 7 (y1)) fun s7 =>
  F_Mo_scan_167  5000 (x0) (x1) (x2) (x3) ((0 : Int32)) s7
set_option maxHeartbeats 4000000 in
theorem w_Mo_scan_161 {b d : Nat} {sc : SC} {pre tl : List PE} {B : Nat} {Q : Option Value → List PE → Prop} {res : SG} (hB : B = b + pre.length) (hd : 3 ≤ d)   (hQ : Q none (HH pre tl SHm B res)) (lv : LV) (σ : SG) (x0 : Nat) (x1 : Bool) (x2 : Int32) (x3 : Int32) (y0 : Nat) (y1 : Int32) (hx0 : isC SHm (x0) 8 = true) (hy0 : isC SHm (y0) 8 = true) (l0 : lv.lookup 0 = some (.ref (B + (x0)))) (l1 : lv.lookup 1 = some (.int (bz (x1)))) (l2 : lv.lookup 2 = some (.int (x2))) (l3 : lv.lookup 3 = some (.int (x3))) (hF : F_Mo_scan_161  x0 x1 x2 x3 y0 y1 σ = some res) : Rn b sc d 31 161 lv [.int (y1), .ref (B + (y0))] (HH pre tl SHm B σ) Q := by
  obtain ⟨e0, rfl⟩ : ∃ e, d = e + 1 := ⟨d - 1, by omega⟩
  unfold F_Mo_scan_161 at hF
  refine t_puti hB hy0 f_Mo_scan_161 rfl rfl ?_
  generalize hs7 : setI σ (y0) 7 (y1) = s7 at hF ⊢
  rw [stl_eq] at hF
  refine r_iconst f_Mo_scan_164 (v := 0) (by decide) ?_
  refine r_istore f_Mo_scan_165 ?_
  exact w_Mo_scan_167 hB hd  hQ 5000 _ (s7) (x0) (x1) (x2) (x3) ((0 : Int32)) hx0 (lk_put_ne l0 (by decide) (Or.inl rfl)) (lk_put_ne l1 (by decide) (Or.inl rfl)) (lk_put_ne l2 (by decide) (Or.inl rfl)) (lk_put_ne l3 (by decide) (Or.inl rfl)) lk_put hF
def F_Mo_scan_140  (x0 : Nat) (x1 : Bool) (x2 : Int32) (σ : SG) : Option (SG) :=
  match F_Mo_between (x0) ((1 : Int32)) ((6 : Int32)) σ with
  | none => none
  | some q8 =>
  if x1 = true then
  F_Mo_scan_161 (x0) (x1) (x2) (q8.1) (x0) (q8.1) q8.2
  else F_Mo_scan_161 (x0) (x1) (x2) (q8.1) (x0) ((q8.2.1 (x0) 7)) q8.2
set_option maxHeartbeats 4000000 in
theorem w_Mo_scan_140 {b d : Nat} {sc : SC} {pre tl : List PE} {B : Nat} {Q : Option Value → List PE → Prop} {res : SG} (hB : B = b + pre.length) (hd : 3 ≤ d)   (hQ : Q none (HH pre tl SHm B res)) (lv : LV) (σ : SG) (x0 : Nat) (x1 : Bool) (x2 : Int32) (hx0 : isC SHm (x0) 8 = true) (l0 : lv.lookup 0 = some (.ref (B + (x0)))) (l1 : lv.lookup 1 = some (.int (bz (x1)))) (l2 : lv.lookup 2 = some (.int (x2))) (hF : F_Mo_scan_140  x0 x1 x2 σ = some res) : Rn b sc d 31 140 lv [] (HH pre tl SHm B σ) Q := by
  obtain ⟨e0, rfl⟩ : ∃ e, d = e + 1 := ⟨d - 1, by omega⟩
  unfold F_Mo_scan_140 at hF
  refine r_aload_n f_Mo_scan_140 l0 ?_
  refine r_iconst f_Mo_scan_141 (v := 1) (by decide) ?_
  refine r_bipush f_Mo_scan_142 (v := 6) (by decide) ?_
  cases hq8 : F_Mo_between (x0) ((1 : Int32)) ((6 : Int32)) σ with
  | none => simp only [hq8] at hF; cases hF
  | some q8 =>
    simp only [hq8] at hF
    refine t_V2i hB hx0 rfl rfl f_Mo_scan_144 (by decide) (Nat.le_of_ble_eq_true rfl) (Nat.le_of_ble_eq_true rfl) (w_Mo_between hB (by omega) (x0) ((1 : Int32)) ((6 : Int32)) hx0 hq8 ⟨_, rfl, ?_⟩)
    refine r_istore_n f_Mo_scan_147 ?_
    refine r_aload_n f_Mo_scan_148 (lk_put_ne l0 (by decide) (Or.inl rfl)) ?_
    refine r_iload_n f_Mo_scan_149 (lk_put_ne l1 (by decide) (Or.inl rfl)) ?_
    refine r_if_eq f_Mo_scan_150 (fun c9 => ?_) (fun c9 => ?_)
    · rw [if_neg (bz_nt c9)] at hF
      refine r_aload_n f_Mo_scan_157 (lk_put_ne l0 (by decide) (Or.inl rfl)) ?_
      refine t_geti hB hx0 f_Mo_scan_158 rfl ?_
      exact w_Mo_scan_161 hB hd  hQ _ (q8.2) (x0) (x1) (x2) (q8.1) (x0) ((q8.2.1 (x0) 7)) hx0 hx0 (lk_put_ne l0 (by decide) (Or.inl rfl)) (lk_put_ne l1 (by decide) (Or.inl rfl)) (lk_put_ne l2 (by decide) (Or.inl rfl)) lk_put hF
    · rw [if_pos (bz_t c9)] at hF
      refine r_iload_n f_Mo_scan_153 lk_put ?_
      refine r_goto f_Mo_scan_154 ?_
      exact w_Mo_scan_161 hB hd  hQ _ (q8.2) (x0) (x1) (x2) (q8.1) (x0) (q8.1) hx0 hx0 (lk_put_ne l0 (by decide) (Or.inl rfl)) (lk_put_ne l1 (by decide) (Or.inl rfl)) (lk_put_ne l2 (by decide) (Or.inl rfl)) lk_put hF
def F_Mo_scan_134 (rec53 : Nat → Bool → Int32 → Int32 → SG → Option (SG)) (x0 : Nat) (x1 : Bool) (x2 : Int32) (x3 : Int32) (σ : SG) : Option (SG) :=
  rec53 (x0) (x1) (x2) ((x3 + 1)) σ
set_option maxHeartbeats 4000000 in
theorem w_Mo_scan_134 {b d : Nat} {sc : SC} {pre tl : List PE} {B : Nat} {Q : Option Value → List PE → Prop} {res : SG} (hB : B = b + pre.length) (hd : 3 ≤ d) {rec53 : Nat → Bool → Int32 → Int32 → SG → Option (SG)} (hr53 : ∀ (lv : LV) (σ : SG) (x0 : Nat) (x1 : Bool) (x2 : Int32) (x3 : Int32), isC SHm (x0) 8 = true → lv.lookup 0 = some (.ref (B + (x0))) → lv.lookup 1 = some (.int (bz (x1))) → lv.lookup 2 = some (.int (x2)) → lv.lookup 3 = some (.int (x3)) →  rec53 x0 x1 x2 x3 σ = some res → Rn b sc d 31 53 lv [] (HH pre tl SHm B σ) Q) (hQ : Q none (HH pre tl SHm B res)) (lv : LV) (σ : SG) (x0 : Nat) (x1 : Bool) (x2 : Int32) (x3 : Int32) (hx0 : isC SHm (x0) 8 = true) (l0 : lv.lookup 0 = some (.ref (B + (x0)))) (l1 : lv.lookup 1 = some (.int (bz (x1)))) (l2 : lv.lookup 2 = some (.int (x2))) (l3 : lv.lookup 3 = some (.int (x3))) (hF : F_Mo_scan_134 rec53 x0 x1 x2 x3 σ = some res) : Rn b sc d 31 134 lv [] (HH pre tl SHm B σ) Q := by
  obtain ⟨e0, rfl⟩ : ∃ e, d = e + 1 := ⟨d - 1, by omega⟩
  unfold F_Mo_scan_134 at hF
  refine r_iinc f_Mo_scan_134 l3 (w := x3 + 1) rfl ?_
  refine r_goto f_Mo_scan_137 ?_
  exact hr53 _ (σ) (x0) (x1) (x2) ((x3 + 1)) hx0 (lk_put_ne l0 (by decide) (Or.inl rfl)) (lk_put_ne l1 (by decide) (Or.inl rfl)) (lk_put_ne l2 (by decide) (Or.inl rfl)) lk_put hF
def F_Mo_scan_128 (rec53 : Nat → Bool → Int32 → Int32 → SG → Option (SG)) (rec88 : Nat → Bool → Int32 → Int32 → Int32 → Int32 → SG → Option (SG)) (x0 : Nat) (x1 : Bool) (x2 : Int32) (x3 : Int32) (x4 : Int32) (x5 : Int32) (σ : SG) : Option (SG) :=
  rec88 (x0) (x1) (x2) (x3) (x4) ((x5 + 1)) σ
set_option maxHeartbeats 4000000 in
theorem w_Mo_scan_128 {b d : Nat} {sc : SC} {pre tl : List PE} {B : Nat} {Q : Option Value → List PE → Prop} {res : SG} (hB : B = b + pre.length) (hd : 3 ≤ d) {rec53 : Nat → Bool → Int32 → Int32 → SG → Option (SG)} {rec88 : Nat → Bool → Int32 → Int32 → Int32 → Int32 → SG → Option (SG)} (hr53 : ∀ (lv : LV) (σ : SG) (x0 : Nat) (x1 : Bool) (x2 : Int32) (x3 : Int32), isC SHm (x0) 8 = true → lv.lookup 0 = some (.ref (B + (x0))) → lv.lookup 1 = some (.int (bz (x1))) → lv.lookup 2 = some (.int (x2)) → lv.lookup 3 = some (.int (x3)) →  rec53 x0 x1 x2 x3 σ = some res → Rn b sc d 31 53 lv [] (HH pre tl SHm B σ) Q) (hr88 : ∀ (lv : LV) (σ : SG) (x0 : Nat) (x1 : Bool) (x2 : Int32) (x3 : Int32) (x4 : Int32) (x5 : Int32), isC SHm (x0) 8 = true → lv.lookup 0 = some (.ref (B + (x0))) → lv.lookup 1 = some (.int (bz (x1))) → lv.lookup 2 = some (.int (x2)) → lv.lookup 3 = some (.int (x3)) → lv.lookup 4 = some (.int (x4)) → lv.lookup 5 = some (.int (x5)) →  rec88 x0 x1 x2 x3 x4 x5 σ = some res → Rn b sc d 31 88 lv [] (HH pre tl SHm B σ) Q) (hQ : Q none (HH pre tl SHm B res)) (lv : LV) (σ : SG) (x0 : Nat) (x1 : Bool) (x2 : Int32) (x3 : Int32) (x4 : Int32) (x5 : Int32) (hx0 : isC SHm (x0) 8 = true) (l0 : lv.lookup 0 = some (.ref (B + (x0)))) (l1 : lv.lookup 1 = some (.int (bz (x1)))) (l2 : lv.lookup 2 = some (.int (x2))) (l3 : lv.lookup 3 = some (.int (x3))) (l4 : lv.lookup 4 = some (.int (x4))) (l5 : lv.lookup 5 = some (.int (x5))) (hF : F_Mo_scan_128 rec53 rec88 x0 x1 x2 x3 x4 x5 σ = some res) : Rn b sc d 31 128 lv [] (HH pre tl SHm B σ) Q := by
  obtain ⟨e0, rfl⟩ : ∃ e, d = e + 1 := ⟨d - 1, by omega⟩
  unfold F_Mo_scan_128 at hF
  refine r_iinc f_Mo_scan_128 l5 (w := x5 + 1) rfl ?_
  refine r_goto f_Mo_scan_131 ?_
  exact hr88 _ (σ) (x0) (x1) (x2) (x3) (x4) ((x5 + 1)) hx0 (lk_put_ne l0 (by decide) (Or.inl rfl)) (lk_put_ne l1 (by decide) (Or.inl rfl)) (lk_put_ne l2 (by decide) (Or.inl rfl)) (lk_put_ne l3 (by decide) (Or.inl rfl)) (lk_put_ne l4 (by decide) (Or.inl rfl)) lk_put hF
def F_Mo_scan_88 (rec53 : Nat → Bool → Int32 → Int32 → SG → Option (SG)) : Nat → Nat → Bool → Int32 → Int32 → Int32 → Int32 → SG → Option (SG)
  | 0, _, _, _, _, _, _, _ => none
  | n + 1, x0, x1, x2, x3, x4, x5, σ =>
  if x4 ≤ x5 then
  F_Mo_scan_134 (rec53) (x0) (x1) (x2) (x3) σ
  else if (zb (σ.1 (x0) 3)) = true then
  F_Mo_scan_134 (rec53) (x0) (x1) (x2) (x3) σ
  else match F_Mo_typeOf (x0) (x2) (false) (false) σ with
  | none => none
  | some q12 =>
  if x1 = true then
  if (((4 : Int32) * x3) + x5) < 0 ∨ 16 ≤ ((((4 : Int32) * x3) + x5)).toNatClampNeg then none else
  stl (setA q12.2 ((cref SHm (x0) 6)) (((((4 : Int32) * x3) + x5)).toNatClampNeg) (q12.1)) fun s15 =>
  F_Mo_scan_128 (rec53) (F_Mo_scan_88 rec53 n) (x0) (x1) (x2) (x3) (x4) (x5) s15
  else F_Mo_scan_128 (rec53) (F_Mo_scan_88 rec53 n) (x0) (x1) (x2) (x3) (x4) (x5) q12.2
set_option maxHeartbeats 4000000 in
theorem w_Mo_scan_88 {b d : Nat} {sc : SC} {pre tl : List PE} {B : Nat} {Q : Option Value → List PE → Prop} {res : SG} (hB : B = b + pre.length) (hd : 3 ≤ d) {rec53 : Nat → Bool → Int32 → Int32 → SG → Option (SG)} (hr53 : ∀ (lv : LV) (σ : SG) (x0 : Nat) (x1 : Bool) (x2 : Int32) (x3 : Int32), isC SHm (x0) 8 = true → lv.lookup 0 = some (.ref (B + (x0))) → lv.lookup 1 = some (.int (bz (x1))) → lv.lookup 2 = some (.int (x2)) → lv.lookup 3 = some (.int (x3)) →  rec53 x0 x1 x2 x3 σ = some res → Rn b sc d 31 53 lv [] (HH pre tl SHm B σ) Q) (hQ : Q none (HH pre tl SHm B res)) : ∀ (n : Nat) (lv : LV) (σ : SG) (x0 : Nat) (x1 : Bool) (x2 : Int32) (x3 : Int32) (x4 : Int32) (x5 : Int32), isC SHm (x0) 8 = true → lv.lookup 0 = some (.ref (B + (x0))) → lv.lookup 1 = some (.int (bz (x1))) → lv.lookup 2 = some (.int (x2)) → lv.lookup 3 = some (.int (x3)) → lv.lookup 4 = some (.int (x4)) → lv.lookup 5 = some (.int (x5)) → F_Mo_scan_88 rec53 n x0 x1 x2 x3 x4 x5 σ = some res → Rn b sc d 31 88 lv [] (HH pre tl SHm B σ) Q := by
  obtain ⟨e0, rfl⟩ : ∃ e, d = e + 1 := ⟨d - 1, by omega⟩
  intro n
  induction n with
  | zero => intro lv σ x0 x1 x2 x3 x4 x5 hx0 l0 l1 l2 l3 l4 l5 hF; cases hF
  | succ n ih =>
    intro lv σ x0 x1 x2 x3 x4 x5 hx0 l0 l1 l2 l3 l4 l5 hF
    unfold F_Mo_scan_88 at hF
    refine r_iload f_Mo_scan_88 l5 ?_
    refine r_iload f_Mo_scan_90 l4 ?_
    refine r_icmp_ge f_Mo_scan_92 (fun c10 => ?_) (fun c10 => ?_)
    · rw [if_pos c10] at hF
      exact w_Mo_scan_134 hB hd (hr53) hQ _ (σ) (x0) (x1) (x2) (x3) hx0 l0 l1 l2 l3 hF
    · rw [if_neg c10] at hF
      refine r_aload_n f_Mo_scan_95 l0 ?_
      refine t_getz hB hx0 f_Mo_scan_96 rfl ?_
      refine r_if_ne f_Mo_scan_99 (fun c11 => ?_) (fun c11 => ?_)
      · rw [if_pos (bz_t c11)] at hF
        exact w_Mo_scan_134 hB hd (hr53) hQ _ (σ) (x0) (x1) (x2) (x3) hx0 l0 l1 l2 l3 hF
      · rw [if_neg (bz_nt (Decidable.not_not.mp c11))] at hF
        refine r_aload_n f_Mo_scan_102 l0 ?_
        refine r_iload_n f_Mo_scan_103 l2 ?_
        refine r_iconst f_Mo_scan_104 (v := 0) (by decide) ?_
        refine r_iconst f_Mo_scan_105 (v := 0) (by decide) ?_
        cases hq12 : F_Mo_typeOf (x0) (x2) (false) (false) σ with
        | none => simp only [hq12] at hF; cases hF
        | some q12 =>
          simp only [hq12] at hF
          refine t_V3i hB hx0 rfl rfl f_Mo_scan_106 (by decide) (Nat.le_of_ble_eq_true rfl) (Nat.le_of_ble_eq_true rfl) (w_Mo_typeOf hB (by omega) (x0) (x2) (false) (false) hx0 hq12 ⟨_, rfl, ?_⟩)
          refine r_istore f_Mo_scan_109 ?_
          refine r_iload_n f_Mo_scan_111 (lk_put_ne l1 (by decide) (Or.inl rfl)) ?_
          refine r_if_eq f_Mo_scan_112 (fun c13 => ?_) (fun c13 => ?_)
          · rw [if_neg (bz_nt c13)] at hF
            exact w_Mo_scan_128 hB hd (hr53) (ih) hQ _ (q12.2) (x0) (x1) (x2) (x3) (x4) (x5) hx0 (lk_put_ne l0 (by decide) (Or.inl rfl)) (lk_put_ne l1 (by decide) (Or.inl rfl)) (lk_put_ne l2 (by decide) (Or.inl rfl)) (lk_put_ne l3 (by decide) (Or.inl rfl)) (lk_put_ne l4 (by decide) (Or.inl rfl)) (lk_put_ne l5 (by decide) (Or.inl rfl)) hF
          · rw [if_pos (bz_t c13)] at hF
            refine r_aload_n f_Mo_scan_115 (lk_put_ne l0 (by decide) (Or.inl rfl)) ?_
            refine t_getc hB hx0 f_Mo_scan_116 rfl ?_
            refine r_iconst f_Mo_scan_119 (v := 4) (by decide) ?_
            refine r_iload_n f_Mo_scan_120 (lk_put_ne l3 (by decide) (Or.inl rfl)) ?_
            refine r_imul f_Mo_scan_121 ?_
            refine r_iload f_Mo_scan_122 (lk_put_ne l5 (by decide) (Or.inl rfl)) ?_
            refine r_iadd f_Mo_scan_124 ?_
            refine r_iload f_Mo_scan_125 lk_put ?_
            by_cases c14 : (((4 : Int32) * x3) + x5) < 0 ∨ 16 ≤ ((((4 : Int32) * x3) + x5)).toNatClampNeg
            · rw [if_pos c14] at hF; cases hF
            rw [if_neg c14] at hF
            refine t_iast hB (cc_8_6 hx0) f_Mo_scan_127 c14 ?_
            generalize hs15 : setA q12.2 ((cref SHm (x0) 6)) (((((4 : Int32) * x3) + x5)).toNatClampNeg) (q12.1) = s15 at hF ⊢
            rw [stl_eq] at hF
            exact w_Mo_scan_128 hB hd (hr53) (ih) hQ _ (s15) (x0) (x1) (x2) (x3) (x4) (x5) hx0 (lk_put_ne l0 (by decide) (Or.inl rfl)) (lk_put_ne l1 (by decide) (Or.inl rfl)) (lk_put_ne l2 (by decide) (Or.inl rfl)) (lk_put_ne l3 (by decide) (Or.inl rfl)) (lk_put_ne l4 (by decide) (Or.inl rfl)) (lk_put_ne l5 (by decide) (Or.inl rfl)) hF
def F_Mo_scan_85 (rec53 : Nat → Bool → Int32 → Int32 → SG → Option (SG)) (x0 : Nat) (x1 : Bool) (x2 : Int32) (x3 : Int32) (x4 : Int32) (σ : SG) : Option (SG) :=
  F_Mo_scan_88 (rec53) 5000 (x0) (x1) (x2) (x3) (x4) ((0 : Int32)) σ
set_option maxHeartbeats 4000000 in
theorem w_Mo_scan_85 {b d : Nat} {sc : SC} {pre tl : List PE} {B : Nat} {Q : Option Value → List PE → Prop} {res : SG} (hB : B = b + pre.length) (hd : 3 ≤ d) {rec53 : Nat → Bool → Int32 → Int32 → SG → Option (SG)} (hr53 : ∀ (lv : LV) (σ : SG) (x0 : Nat) (x1 : Bool) (x2 : Int32) (x3 : Int32), isC SHm (x0) 8 = true → lv.lookup 0 = some (.ref (B + (x0))) → lv.lookup 1 = some (.int (bz (x1))) → lv.lookup 2 = some (.int (x2)) → lv.lookup 3 = some (.int (x3)) →  rec53 x0 x1 x2 x3 σ = some res → Rn b sc d 31 53 lv [] (HH pre tl SHm B σ) Q) (hQ : Q none (HH pre tl SHm B res)) (lv : LV) (σ : SG) (x0 : Nat) (x1 : Bool) (x2 : Int32) (x3 : Int32) (x4 : Int32) (hx0 : isC SHm (x0) 8 = true) (l0 : lv.lookup 0 = some (.ref (B + (x0)))) (l1 : lv.lookup 1 = some (.int (bz (x1)))) (l2 : lv.lookup 2 = some (.int (x2))) (l3 : lv.lookup 3 = some (.int (x3))) (l4 : lv.lookup 4 = some (.int (x4))) (hF : F_Mo_scan_85 rec53 x0 x1 x2 x3 x4 σ = some res) : Rn b sc d 31 85 lv [] (HH pre tl SHm B σ) Q := by
  obtain ⟨e0, rfl⟩ : ∃ e, d = e + 1 := ⟨d - 1, by omega⟩
  unfold F_Mo_scan_85 at hF
  refine r_iconst f_Mo_scan_85 (v := 0) (by decide) ?_
  refine r_istore f_Mo_scan_86 ?_
  exact w_Mo_scan_88 hB hd (hr53) hQ 5000 _ (σ) (x0) (x1) (x2) (x3) (x4) ((0 : Int32)) hx0 (lk_put_ne l0 (by decide) (Or.inl rfl)) (lk_put_ne l1 (by decide) (Or.inl rfl)) (lk_put_ne l2 (by decide) (Or.inl rfl)) (lk_put_ne l3 (by decide) (Or.inl rfl)) (lk_put_ne l4 (by decide) (Or.inl rfl)) lk_put hF
def F_Mo_scan_53  : Nat → Nat → Bool → Int32 → Int32 → SG → Option (SG)
  | 0, _, _, _, _, _ => none
  | n + 1, x0, x1, x2, x3, σ =>
  if x2 ≤ x3 then
  F_Mo_scan_140 (x0) (x1) (x2) σ
  else if (zb (σ.1 (x0) 3)) = true then
  F_Mo_scan_140 (x0) (x1) (x2) σ
  else match F_Mo_between (x0) ((0 : Int32)) ((4 : Int32)) σ with
  | none => none
  | some q18 =>
  if x1 = true then
  if x3 < 0 ∨ 4 ≤ (x3).toNatClampNeg then none else
  stl (setA q18.2 ((cref SHm (x0) 5)) ((x3).toNatClampNeg) (q18.1)) fun s21 =>
  F_Mo_scan_85 (F_Mo_scan_53  n) (x0) (x1) (x2) (x3) (q18.1) s21
  else F_Mo_scan_85 (F_Mo_scan_53  n) (x0) (x1) (x2) (x3) (q18.1) q18.2
set_option maxHeartbeats 4000000 in
theorem w_Mo_scan_53 {b d : Nat} {sc : SC} {pre tl : List PE} {B : Nat} {Q : Option Value → List PE → Prop} {res : SG} (hB : B = b + pre.length) (hd : 3 ≤ d)   (hQ : Q none (HH pre tl SHm B res)) : ∀ (n : Nat) (lv : LV) (σ : SG) (x0 : Nat) (x1 : Bool) (x2 : Int32) (x3 : Int32), isC SHm (x0) 8 = true → lv.lookup 0 = some (.ref (B + (x0))) → lv.lookup 1 = some (.int (bz (x1))) → lv.lookup 2 = some (.int (x2)) → lv.lookup 3 = some (.int (x3)) → F_Mo_scan_53  n x0 x1 x2 x3 σ = some res → Rn b sc d 31 53 lv [] (HH pre tl SHm B σ) Q := by
  obtain ⟨e0, rfl⟩ : ∃ e, d = e + 1 := ⟨d - 1, by omega⟩
  intro n
  induction n with
  | zero => intro lv σ x0 x1 x2 x3 hx0 l0 l1 l2 l3 hF; cases hF
  | succ n ih =>
    intro lv σ x0 x1 x2 x3 hx0 l0 l1 l2 l3 hF
    unfold F_Mo_scan_53 at hF
    refine r_iload_n f_Mo_scan_53 l3 ?_
    refine r_iload_n f_Mo_scan_54 l2 ?_
    refine r_icmp_ge f_Mo_scan_55 (fun c16 => ?_) (fun c16 => ?_)
    · rw [if_pos c16] at hF
      exact w_Mo_scan_140 hB hd  hQ _ (σ) (x0) (x1) (x2) hx0 l0 l1 l2 hF
    · rw [if_neg c16] at hF
      refine r_aload_n f_Mo_scan_58 l0 ?_
      refine t_getz hB hx0 f_Mo_scan_59 rfl ?_
      refine r_if_ne f_Mo_scan_62 (fun c17 => ?_) (fun c17 => ?_)
      · rw [if_pos (bz_t c17)] at hF
        exact w_Mo_scan_140 hB hd  hQ _ (σ) (x0) (x1) (x2) hx0 l0 l1 l2 hF
      · rw [if_neg (bz_nt (Decidable.not_not.mp c17))] at hF
        refine r_aload_n f_Mo_scan_65 l0 ?_
        refine r_iconst f_Mo_scan_66 (v := 0) (by decide) ?_
        refine r_iconst f_Mo_scan_67 (v := 4) (by decide) ?_
        cases hq18 : F_Mo_between (x0) ((0 : Int32)) ((4 : Int32)) σ with
        | none => simp only [hq18] at hF; cases hF
        | some q18 =>
          simp only [hq18] at hF
          refine t_V2i hB hx0 rfl rfl f_Mo_scan_68 (by decide) (Nat.le_of_ble_eq_true rfl) (Nat.le_of_ble_eq_true rfl) (w_Mo_between hB (by omega) (x0) ((0 : Int32)) ((4 : Int32)) hx0 hq18 ⟨_, rfl, ?_⟩)
          refine r_istore f_Mo_scan_71 ?_
          refine r_iload_n f_Mo_scan_73 (lk_put_ne l1 (by decide) (Or.inl rfl)) ?_
          refine r_if_eq f_Mo_scan_74 (fun c19 => ?_) (fun c19 => ?_)
          · rw [if_neg (bz_nt c19)] at hF
            exact w_Mo_scan_85 hB hd (ih) hQ _ (q18.2) (x0) (x1) (x2) (x3) (q18.1) hx0 (lk_put_ne l0 (by decide) (Or.inl rfl)) (lk_put_ne l1 (by decide) (Or.inl rfl)) (lk_put_ne l2 (by decide) (Or.inl rfl)) (lk_put_ne l3 (by decide) (Or.inl rfl)) lk_put hF
          · rw [if_pos (bz_t c19)] at hF
            refine r_aload_n f_Mo_scan_77 (lk_put_ne l0 (by decide) (Or.inl rfl)) ?_
            refine t_getc hB hx0 f_Mo_scan_78 rfl ?_
            refine r_iload_n f_Mo_scan_81 (lk_put_ne l3 (by decide) (Or.inl rfl)) ?_
            refine r_iload f_Mo_scan_82 lk_put ?_
            by_cases c20 : x3 < 0 ∨ 4 ≤ (x3).toNatClampNeg
            · rw [if_pos c20] at hF; cases hF
            rw [if_neg c20] at hF
            refine t_iast hB (cc_8_5 hx0) f_Mo_scan_84 c20 ?_
            generalize hs21 : setA q18.2 ((cref SHm (x0) 5)) ((x3).toNatClampNeg) (q18.1) = s21 at hF ⊢
            rw [stl_eq] at hF
            exact w_Mo_scan_85 hB hd (ih) hQ _ (s21) (x0) (x1) (x2) (x3) (q18.1) hx0 (lk_put_ne l0 (by decide) (Or.inl rfl)) (lk_put_ne l1 (by decide) (Or.inl rfl)) (lk_put_ne l2 (by decide) (Or.inl rfl)) (lk_put_ne l3 (by decide) (Or.inl rfl)) lk_put hF
def F_Mo_scan_48  (x0 : Nat) (x1 : Bool) (x2 : Int32) (y0 : Nat) (y1 : Int32) (σ : SG) : Option (SG) :=
  stl (setI σ (y0) 4 (y1)) fun s22 =>
  F_Mo_scan_53  5000 (x0) (x1) (x2) ((0 : Int32)) s22
set_option maxHeartbeats 4000000 in
theorem w_Mo_scan_48 {b d : Nat} {sc : SC} {pre tl : List PE} {B : Nat} {Q : Option Value → List PE → Prop} {res : SG} (hB : B = b + pre.length) (hd : 3 ≤ d)   (hQ : Q none (HH pre tl SHm B res)) (lv : LV) (σ : SG) (x0 : Nat) (x1 : Bool) (x2 : Int32) (y0 : Nat) (y1 : Int32) (hx0 : isC SHm (x0) 8 = true) (hy0 : isC SHm (y0) 8 = true) (l0 : lv.lookup 0 = some (.ref (B + (x0)))) (l1 : lv.lookup 1 = some (.int (bz (x1)))) (l2 : lv.lookup 2 = some (.int (x2))) (hF : F_Mo_scan_48  x0 x1 x2 y0 y1 σ = some res) : Rn b sc d 31 48 lv [.int (y1), .ref (B + (y0))] (HH pre tl SHm B σ) Q := by
  obtain ⟨e0, rfl⟩ : ∃ e, d = e + 1 := ⟨d - 1, by omega⟩
  unfold F_Mo_scan_48 at hF
  refine t_puti hB hy0 f_Mo_scan_48 rfl rfl ?_
  generalize hs22 : setI σ (y0) 4 (y1) = s22 at hF ⊢
  rw [stl_eq] at hF
  refine r_iconst f_Mo_scan_51 (v := 0) (by decide) ?_
  refine r_istore_n f_Mo_scan_52 ?_
  exact w_Mo_scan_53 hB hd  hQ 5000 _ (s22) (x0) (x1) (x2) ((0 : Int32)) hx0 (lk_put_ne l0 (by decide) (Or.inl rfl)) (lk_put_ne l1 (by decide) (Or.inl rfl)) (lk_put_ne l2 (by decide) (Or.inl rfl)) lk_put hF
def F_Mo_scan_25  (x0 : Nat) (x1 : Bool) (y0 : Nat) (y1 : Bool) (σ : SG) : Option (SG) :=
  stl (setI σ (y0) 3 (bz (y1))) fun s23 =>
  match F_Mo_between (x0) ((0 : Int32)) ((4 : Int32)) s23 with
  | none => none
  | some q24 =>
  if x1 = true then
  F_Mo_scan_48 (x0) (x1) (q24.1) (x0) (q24.1) q24.2
  else F_Mo_scan_48 (x0) (x1) (q24.1) (x0) ((q24.2.1 (x0) 4)) q24.2
set_option maxHeartbeats 4000000 in
theorem w_Mo_scan_25 {b d : Nat} {sc : SC} {pre tl : List PE} {B : Nat} {Q : Option Value → List PE → Prop} {res : SG} (hB : B = b + pre.length) (hd : 3 ≤ d)   (hQ : Q none (HH pre tl SHm B res)) (lv : LV) (σ : SG) (x0 : Nat) (x1 : Bool) (y0 : Nat) (y1 : Bool) (hx0 : isC SHm (x0) 8 = true) (hy0 : isC SHm (y0) 8 = true) (l0 : lv.lookup 0 = some (.ref (B + (x0)))) (l1 : lv.lookup 1 = some (.int (bz (x1)))) (hF : F_Mo_scan_25  x0 x1 y0 y1 σ = some res) : Rn b sc d 31 25 lv [.int (bz (y1)), .ref (B + (y0))] (HH pre tl SHm B σ) Q := by
  obtain ⟨e0, rfl⟩ : ∃ e, d = e + 1 := ⟨d - 1, by omega⟩
  unfold F_Mo_scan_25 at hF
  refine t_putz (v := y1) hB hy0 f_Mo_scan_25 rfl rfl ?_
  generalize hs23 : setI σ (y0) 3 (bz (y1)) = s23 at hF ⊢
  rw [stl_eq] at hF
  refine r_aload_n f_Mo_scan_28 l0 ?_
  refine r_iconst f_Mo_scan_29 (v := 0) (by decide) ?_
  refine r_iconst f_Mo_scan_30 (v := 4) (by decide) ?_
  cases hq24 : F_Mo_between (x0) ((0 : Int32)) ((4 : Int32)) s23 with
  | none => simp only [hq24] at hF; cases hF
  | some q24 =>
    simp only [hq24] at hF
    refine t_V2i hB hx0 rfl rfl f_Mo_scan_31 (by decide) (Nat.le_of_ble_eq_true rfl) (Nat.le_of_ble_eq_true rfl) (w_Mo_between hB (by omega) (x0) ((0 : Int32)) ((4 : Int32)) hx0 hq24 ⟨_, rfl, ?_⟩)
    refine r_istore_n f_Mo_scan_34 ?_
    refine r_aload_n f_Mo_scan_35 (lk_put_ne l0 (by decide) (Or.inl rfl)) ?_
    refine r_iload_n f_Mo_scan_36 (lk_put_ne l1 (by decide) (Or.inl rfl)) ?_
    refine r_if_eq f_Mo_scan_37 (fun c25 => ?_) (fun c25 => ?_)
    · rw [if_neg (bz_nt c25)] at hF
      refine r_aload_n f_Mo_scan_44 (lk_put_ne l0 (by decide) (Or.inl rfl)) ?_
      refine t_geti hB hx0 f_Mo_scan_45 rfl ?_
      exact w_Mo_scan_48 hB hd  hQ _ (q24.2) (x0) (x1) (q24.1) (x0) ((q24.2.1 (x0) 4)) hx0 hx0 (lk_put_ne l0 (by decide) (Or.inl rfl)) (lk_put_ne l1 (by decide) (Or.inl rfl)) lk_put hF
    · rw [if_pos (bz_t c25)] at hF
      refine r_iload_n f_Mo_scan_40 lk_put ?_
      refine r_goto f_Mo_scan_41 ?_
      exact w_Mo_scan_48 hB hd  hQ _ (q24.2) (x0) (x1) (q24.1) (x0) (q24.1) hx0 hx0 (lk_put_ne l0 (by decide) (Or.inl rfl)) (lk_put_ne l1 (by decide) (Or.inl rfl)) lk_put hF
def F_Mo_scan (a0 : Nat) (a1 : Bool) (σ : SG) : Option (SG) :=
  stl (setI σ (a0) 2 ((0 : Int32))) fun s26 =>
  stl (setI s26 (a0) 3 (bz (false))) fun s27 =>
  match F_Mo_next (a0) s27 with
  | none => none
  | some q28 =>
  if q28.1 = (77 : Int32) then
  F_Mo_scan_25 (a0) (a1) (a0) (false) q28.2
  else F_Mo_scan_25 (a0) (a1) (a0) (true) q28.2
set_option maxHeartbeats 4000000 in
theorem w_Mo_scan {b d : Nat} {pre tl : List PE} {B : Nat} {Q : Option Value → List PE → Prop} {res : SG} (hB : B = b + pre.length) (hd : 3 ≤ d)  {σ : SG} (a0 : Nat) (a1 : Bool) (ha0 : isC SHm (a0) 8 = true) (hF : F_Mo_scan a0 a1 σ = some res) (hQ : Q none (HH pre tl SHm B res)) : Cl b d 31 [.ref (B + (a0)), .int (bz (a1))] (HH pre tl SHm B σ) Q := by
  obtain ⟨e0, rfl⟩ : ∃ e, d = e + 1 := ⟨d - 1, by omega⟩
  unfold Cl
  unfold F_Mo_scan at hF
  refine r_aload_n f_Mo_scan_0 rfl ?_
  refine r_iconst f_Mo_scan_1 (v := 0) (by decide) ?_
  refine t_puti hB ha0 f_Mo_scan_2 rfl rfl ?_
  generalize hs26 : setI σ (a0) 2 ((0 : Int32)) = s26 at hF ⊢
  rw [stl_eq] at hF
  refine r_aload_n f_Mo_scan_5 rfl ?_
  refine r_iconst f_Mo_scan_6 (v := 0) (by decide) ?_
  refine t_putz (v := false) hB ha0 f_Mo_scan_7 rfl rfl ?_
  generalize hs27 : setI s26 (a0) 3 (bz (false)) = s27 at hF ⊢
  rw [stl_eq] at hF
  refine r_aload_n f_Mo_scan_10 rfl ?_
  refine r_aload_n f_Mo_scan_11 rfl ?_
  cases hq28 : F_Mo_next (a0) s27 with
  | none => simp only [hq28] at hF; cases hF
  | some q28 =>
    simp only [hq28] at hF
    refine t_V0i hB ha0 rfl rfl f_Mo_scan_12 (by decide) (Nat.le_of_ble_eq_true rfl) (Nat.le_of_ble_eq_true rfl) (w_Mo_next hB  (a0) ha0 hq28 ⟨_, rfl, ?_⟩)
    refine r_bipush f_Mo_scan_15 (v := 77) (by decide) ?_
    refine r_icmp_eq f_Mo_scan_17 (fun c29 => ?_) (fun c29 => ?_)
    · rw [if_pos c29] at hF
      refine r_iconst f_Mo_scan_24 (v := 0) (by decide) ?_
      exact w_Mo_scan_25 hB hd  hQ _ (q28.2) (a0) (a1) (a0) (false) ha0 ha0 rfl rfl hF
    · rw [if_neg c29] at hF
      refine r_iconst f_Mo_scan_20 (v := 1) (by decide) ?_
      refine r_goto f_Mo_scan_21 ?_
      exact w_Mo_scan_25 hB hd  hQ _ (q28.2) (a0) (a1) (a0) (true) ha0 ha0 rfl rfl hF
