theorem f_Mo_op_0 : fetch 38 0 = some (.aload_n 0, 1, 0, 0, 0) := rfl
theorem f_Mo_op_1 : fetch 38 1 = some (.getfield 53, 3, 8, 19, 41) := rfl
theorem f_Mo_op_4 : fetch 38 4 = some (.bipush 100, 2, 0, 0, 0) := rfl
theorem f_Mo_op_6 : fetch 38 6 = some (.aload_n 0, 1, 0, 0, 0) := rfl
theorem f_Mo_op_7 : fetch 38 7 = some (.getfield 154, 3, 8, 24, 65) := rfl
theorem f_Mo_op_10 : fetch 38 10 = some (.imul, 1, 0, 0, 0) := rfl
theorem f_Mo_op_11 : fetch 38 11 = some (.iload_n 1, 1, 0, 0, 0) := rfl
theorem f_Mo_op_12 : fetch 38 12 = some (.iadd, 1, 0, 0, 0) := rfl
theorem f_Mo_op_13 : fetch 38 13 = some (.iaload, 1, 0, 0, 0) := rfl
theorem f_Mo_op_14 : fetch 38 14 = some (.ireturn, 1, 0, 0, 0) := rfl
def F_Mo_op (a0 : Nat) (a1 : Int32) (σ : SG) : Option (Int32 × SG) :=
  if (((100 : Int32) * (σ.1 (a0) 24)) + a1) < 0 ∨ 600 ≤ ((((100 : Int32) * (σ.1 (a0) 24)) + a1)).toNatClampNeg then none else
  some ((σ.2.2.2.1 ((cref SHm (a0) 19)) (((((100 : Int32) * (σ.1 (a0) 24)) + a1)).toNatClampNeg)), σ)
set_option maxHeartbeats 4000000 in
theorem w_Mo_op {b d : Nat} {pre tl : List PE} {B : Nat} {Q : Option Value → List PE → Prop} {res : Int32 × SG} (hB : B = b + pre.length)  {σ : SG} (a0 : Nat) (a1 : Int32) (ha0 : isC SHm (a0) 8 = true) (hF : F_Mo_op a0 a1 σ = some res) (hQ : Q (some (.int res.1)) (HH pre tl SHm B res.2)) : Cl b d 38 [.ref (B + (a0)), .int (a1)] (HH pre tl SHm B σ) Q := by
  unfold Cl
  unfold F_Mo_op at hF
  refine r_aload_n f_Mo_op_0 rfl ?_
  refine t_getc hB ha0 f_Mo_op_1 rfl ?_
  refine r_bipush f_Mo_op_4 (v := 100) (by decide) ?_
  refine r_aload_n f_Mo_op_6 rfl ?_
  refine t_geti hB ha0 f_Mo_op_7 rfl ?_
  refine r_imul f_Mo_op_10 ?_
  refine r_iload_n f_Mo_op_11 rfl ?_
  refine r_iadd f_Mo_op_12 ?_
  by_cases c1 : (((100 : Int32) * (σ.1 (a0) 24)) + a1) < 0 ∨ 600 ≤ ((((100 : Int32) * (σ.1 (a0) 24)) + a1)).toNatClampNeg
  · rw [if_pos c1] at hF; cases hF
  rw [if_neg c1] at hF
  refine t_iald hB (cc_8_19 ha0) f_Mo_op_13 c1 ?_
  cases hF
  exact r_ireturn f_Mo_op_14 hQ
theorem f_Mo_bytes_0 : fetch 39 0 = some (.iload_n 0, 1, 0, 0, 0) := rfl
theorem f_Mo_bytes_1 : fetch 39 1 = some (.iconst 1, 1, 0, 0, 0) := rfl
theorem f_Mo_bytes_2 : fetch 39 2 = some (.if_icmp .lt 9, 3, 11, 0, 0) := rfl
theorem f_Mo_bytes_5 : fetch 39 5 = some (.iload_n 0, 1, 0, 0, 0) := rfl
theorem f_Mo_bytes_6 : fetch 39 6 = some (.bipush 6, 2, 0, 0, 0) := rfl
theorem f_Mo_bytes_8 : fetch 39 8 = some (.if_icmp .le 27, 3, 35, 0, 0) := rfl
theorem f_Mo_bytes_11 : fetch 39 11 = some (.iload_n 0, 1, 0, 0, 0) := rfl
theorem f_Mo_bytes_12 : fetch 39 12 = some (.bipush 13, 2, 0, 0, 0) := rfl
theorem f_Mo_bytes_14 : fetch 39 14 = some (.if_icmp .lt 9, 3, 23, 0, 0) := rfl
theorem f_Mo_bytes_17 : fetch 39 17 = some (.iload_n 0, 1, 0, 0, 0) := rfl
theorem f_Mo_bytes_18 : fetch 39 18 = some (.bipush 20, 2, 0, 0, 0) := rfl
theorem f_Mo_bytes_20 : fetch 39 20 = some (.if_icmp .le 15, 3, 35, 0, 0) := rfl
theorem f_Mo_bytes_23 : fetch 39 23 = some (.iload_n 0, 1, 0, 0, 0) := rfl
theorem f_Mo_bytes_24 : fetch 39 24 = some (.bipush 33, 2, 0, 0, 0) := rfl
theorem f_Mo_bytes_26 : fetch 39 26 = some (.if_icmp .eq 9, 3, 35, 0, 0) := rfl
theorem f_Mo_bytes_29 : fetch 39 29 = some (.iload_n 0, 1, 0, 0, 0) := rfl
theorem f_Mo_bytes_30 : fetch 39 30 = some (.bipush 36, 2, 0, 0, 0) := rfl
theorem f_Mo_bytes_32 : fetch 39 32 = some (.if_icmp .ne 7, 3, 39, 0, 0) := rfl
theorem f_Mo_bytes_35 : fetch 39 35 = some (.iconst 2, 1, 0, 0, 0) := rfl
theorem f_Mo_bytes_36 : fetch 39 36 = some (.goto 4, 3, 40, 0, 0) := rfl
theorem f_Mo_bytes_39 : fetch 39 39 = some (.iconst 1, 1, 0, 0, 0) := rfl
theorem f_Mo_bytes_40 : fetch 39 40 = some (.ireturn, 1, 0, 0, 0) := rfl
def F_Mo_bytes_40  (y0 : Int32) (σ : SG) : Option (Int32 × SG) :=
  some (y0, σ)
set_option maxHeartbeats 4000000 in
theorem w_Mo_bytes_40 {b d : Nat} {sc : SC} {pre tl : List PE} {B : Nat} {Q : Option Value → List PE → Prop} {res : Int32 × SG} (hB : B = b + pre.length)   (hQ : Q (some (.int res.1)) (HH pre tl SHm B res.2)) (lv : LV) (σ : SG) (y0 : Int32)  (hF : F_Mo_bytes_40  y0 σ = some res) : Rn b sc d 39 40 lv [.int (y0)] (HH pre tl SHm B σ) Q := by
  unfold F_Mo_bytes_40 at hF
  cases hF
  exact r_ireturn f_Mo_bytes_40 hQ
def F_Mo_bytes_35   (σ : SG) : Option (Int32 × SG) :=
  F_Mo_bytes_40 ((2 : Int32)) σ
set_option maxHeartbeats 4000000 in
theorem w_Mo_bytes_35 {b d : Nat} {sc : SC} {pre tl : List PE} {B : Nat} {Q : Option Value → List PE → Prop} {res : Int32 × SG} (hB : B = b + pre.length)   (hQ : Q (some (.int res.1)) (HH pre tl SHm B res.2)) (lv : LV) (σ : SG)   (hF : F_Mo_bytes_35   σ = some res) : Rn b sc d 39 35 lv [] (HH pre tl SHm B σ) Q := by
  unfold F_Mo_bytes_35 at hF
  refine r_iconst f_Mo_bytes_35 (v := 2) (by decide) ?_
  refine r_goto f_Mo_bytes_36 ?_
  exact w_Mo_bytes_40 hB   hQ _ (σ) ((2 : Int32)) hF
def F_Mo_bytes_23  (x0 : Int32) (σ : SG) : Option (Int32 × SG) :=
  if x0 = (33 : Int32) then
  F_Mo_bytes_35 σ
  else if x0 = (36 : Int32) then
  F_Mo_bytes_35 σ
  else F_Mo_bytes_40 ((1 : Int32)) σ
set_option maxHeartbeats 4000000 in
theorem w_Mo_bytes_23 {b d : Nat} {sc : SC} {pre tl : List PE} {B : Nat} {Q : Option Value → List PE → Prop} {res : Int32 × SG} (hB : B = b + pre.length)   (hQ : Q (some (.int res.1)) (HH pre tl SHm B res.2)) (lv : LV) (σ : SG) (x0 : Int32) (l0 : lv.lookup 0 = some (.int (x0))) (hF : F_Mo_bytes_23  x0 σ = some res) : Rn b sc d 39 23 lv [] (HH pre tl SHm B σ) Q := by
  unfold F_Mo_bytes_23 at hF
  refine r_iload_n f_Mo_bytes_23 l0 ?_
  refine r_bipush f_Mo_bytes_24 (v := 33) (by decide) ?_
  refine r_icmp_eq f_Mo_bytes_26 (fun c1 => ?_) (fun c1 => ?_)
  · rw [if_pos c1] at hF
    exact w_Mo_bytes_35 hB   hQ _ (σ) hF
  · rw [if_neg c1] at hF
    refine r_iload_n f_Mo_bytes_29 l0 ?_
    refine r_bipush f_Mo_bytes_30 (v := 36) (by decide) ?_
    refine r_icmp_ne f_Mo_bytes_32 (fun c2 => ?_) (fun c2 => ?_)
    · rw [if_neg c2] at hF
      refine r_iconst f_Mo_bytes_39 (v := 1) (by decide) ?_
      exact w_Mo_bytes_40 hB   hQ _ (σ) ((1 : Int32)) hF
    · rw [if_pos (Decidable.not_not.mp c2)] at hF
      exact w_Mo_bytes_35 hB   hQ _ (σ) hF
def F_Mo_bytes_11  (x0 : Int32) (σ : SG) : Option (Int32 × SG) :=
  if x0 < (13 : Int32) then
  F_Mo_bytes_23 (x0) σ
  else if x0 ≤ (20 : Int32) then
  F_Mo_bytes_35 σ
  else F_Mo_bytes_23 (x0) σ
set_option maxHeartbeats 4000000 in
theorem w_Mo_bytes_11 {b d : Nat} {sc : SC} {pre tl : List PE} {B : Nat} {Q : Option Value → List PE → Prop} {res : Int32 × SG} (hB : B = b + pre.length)   (hQ : Q (some (.int res.1)) (HH pre tl SHm B res.2)) (lv : LV) (σ : SG) (x0 : Int32) (l0 : lv.lookup 0 = some (.int (x0))) (hF : F_Mo_bytes_11  x0 σ = some res) : Rn b sc d 39 11 lv [] (HH pre tl SHm B σ) Q := by
  unfold F_Mo_bytes_11 at hF
  refine r_iload_n f_Mo_bytes_11 l0 ?_
  refine r_bipush f_Mo_bytes_12 (v := 13) (by decide) ?_
  refine r_icmp_lt f_Mo_bytes_14 (fun c3 => ?_) (fun c3 => ?_)
  · rw [if_pos c3] at hF
    exact w_Mo_bytes_23 hB   hQ _ (σ) (x0) l0 hF
  · rw [if_neg c3] at hF
    refine r_iload_n f_Mo_bytes_17 l0 ?_
    refine r_bipush f_Mo_bytes_18 (v := 20) (by decide) ?_
    refine r_icmp_le f_Mo_bytes_20 (fun c4 => ?_) (fun c4 => ?_)
    · rw [if_pos c4] at hF
      exact w_Mo_bytes_35 hB   hQ _ (σ) hF
    · rw [if_neg c4] at hF
      exact w_Mo_bytes_23 hB   hQ _ (σ) (x0) l0 hF
def F_Mo_bytes (a0 : Int32) (σ : SG) : Option (Int32 × SG) :=
  if a0 < (1 : Int32) then
  F_Mo_bytes_11 (a0) σ
  else if a0 ≤ (6 : Int32) then
  F_Mo_bytes_35 σ
  else F_Mo_bytes_11 (a0) σ
set_option maxHeartbeats 4000000 in
theorem w_Mo_bytes {b d : Nat} {pre tl : List PE} {B : Nat} {Q : Option Value → List PE → Prop} {res : Int32 × SG} (hB : B = b + pre.length)  {σ : SG} (a0 : Int32)  (hF : F_Mo_bytes a0 σ = some res) (hQ : Q (some (.int res.1)) (HH pre tl SHm B res.2)) : Cl b d 39 [.int (a0)] (HH pre tl SHm B σ) Q := by
  unfold Cl
  unfold F_Mo_bytes at hF
  refine r_iload_n f_Mo_bytes_0 rfl ?_
  refine r_iconst f_Mo_bytes_1 (v := 1) (by decide) ?_
  refine r_icmp_lt f_Mo_bytes_2 (fun c5 => ?_) (fun c5 => ?_)
  · rw [if_pos c5] at hF
    exact w_Mo_bytes_11 hB   hQ _ (σ) (a0) rfl hF
  · rw [if_neg c5] at hF
    refine r_iload_n f_Mo_bytes_5 rfl ?_
    refine r_bipush f_Mo_bytes_6 (v := 6) (by decide) ?_
    refine r_icmp_le f_Mo_bytes_8 (fun c6 => ?_) (fun c6 => ?_)
    · rw [if_pos c6] at hF
      exact w_Mo_bytes_35 hB   hQ _ (σ) hF
    · rw [if_neg c6] at hF
      exact w_Mo_bytes_11 hB   hQ _ (σ) (a0) rfl hF
theorem f_Mo_split_0 : fetch 37 0 = some (.iconst 0, 1, 0, 0, 0) := rfl
theorem f_Mo_split_1 : fetch 37 1 = some (.istore_n 1, 1, 0, 0, 0) := rfl
theorem f_Mo_split_2 : fetch 37 2 = some (.iload_n 1, 1, 0, 0, 0) := rfl
theorem f_Mo_split_3 : fetch 37 3 = some (.bipush 100, 2, 0, 0, 0) := rfl
theorem f_Mo_split_5 : fetch 37 5 = some (.if_icmp .ge 54, 3, 59, 0, 0) := rfl
theorem f_Mo_split_8 : fetch 37 8 = some (.aload_n 0, 1, 0, 0, 0) := rfl
theorem f_Mo_split_9 : fetch 37 9 = some (.getfield 56, 3, 8, 20, 42) := rfl
theorem f_Mo_split_12 : fetch 37 12 = some (.bipush 100, 2, 0, 0, 0) := rfl
theorem f_Mo_split_14 : fetch 37 14 = some (.aload_n 0, 1, 0, 0, 0) := rfl
theorem f_Mo_split_15 : fetch 37 15 = some (.getfield 154, 3, 8, 24, 65) := rfl
theorem f_Mo_split_18 : fetch 37 18 = some (.imul, 1, 0, 0, 0) := rfl
theorem f_Mo_split_19 : fetch 37 19 = some (.iload_n 1, 1, 0, 0, 0) := rfl
theorem f_Mo_split_20 : fetch 37 20 = some (.iadd, 1, 0, 0, 0) := rfl
theorem f_Mo_split_21 : fetch 37 21 = some (.iconst 0, 1, 0, 0, 0) := rfl
theorem f_Mo_split_22 : fetch 37 22 = some (.bastore, 1, 0, 0, 0) := rfl
theorem f_Mo_split_23 : fetch 37 23 = some (.aload_n 0, 1, 0, 0, 0) := rfl
theorem f_Mo_split_24 : fetch 37 24 = some (.getfield 59, 3, 8, 21, 43) := rfl
theorem f_Mo_split_27 : fetch 37 27 = some (.bipush 100, 2, 0, 0, 0) := rfl
theorem f_Mo_split_29 : fetch 37 29 = some (.aload_n 0, 1, 0, 0, 0) := rfl
theorem f_Mo_split_30 : fetch 37 30 = some (.getfield 154, 3, 8, 24, 65) := rfl
theorem f_Mo_split_33 : fetch 37 33 = some (.imul, 1, 0, 0, 0) := rfl
theorem f_Mo_split_34 : fetch 37 34 = some (.iload_n 1, 1, 0, 0, 0) := rfl
theorem f_Mo_split_35 : fetch 37 35 = some (.iadd, 1, 0, 0, 0) := rfl
theorem f_Mo_split_36 : fetch 37 36 = some (.iconst (-1), 1, 0, 0, 0) := rfl
theorem f_Mo_split_37 : fetch 37 37 = some (.iastore, 1, 0, 0, 0) := rfl
theorem f_Mo_split_38 : fetch 37 38 = some (.aload_n 0, 1, 0, 0, 0) := rfl
theorem f_Mo_split_39 : fetch 37 39 = some (.getfield 62, 3, 8, 22, 44) := rfl
theorem f_Mo_split_42 : fetch 37 42 = some (.bipush 100, 2, 0, 0, 0) := rfl
theorem f_Mo_split_44 : fetch 37 44 = some (.aload_n 0, 1, 0, 0, 0) := rfl
theorem f_Mo_split_45 : fetch 37 45 = some (.getfield 154, 3, 8, 24, 65) := rfl
theorem f_Mo_split_48 : fetch 37 48 = some (.imul, 1, 0, 0, 0) := rfl
theorem f_Mo_split_49 : fetch 37 49 = some (.iload_n 1, 1, 0, 0, 0) := rfl
theorem f_Mo_split_50 : fetch 37 50 = some (.iadd, 1, 0, 0, 0) := rfl
theorem f_Mo_split_51 : fetch 37 51 = some (.lconst 0, 1, 0, 0, 0) := rfl
theorem f_Mo_split_52 : fetch 37 52 = some (.lastore, 1, 0, 0, 0) := rfl
theorem f_Mo_split_53 : fetch 37 53 = some (.iinc 1 1, 3, 0, 0, 0) := rfl
theorem f_Mo_split_56 : fetch 37 56 = some (.goto (-54), 3, 2, 0, 0) := rfl
theorem f_Mo_split_59 : fetch 37 59 = some (.iconst 0, 1, 0, 0, 0) := rfl
theorem f_Mo_split_60 : fetch 37 60 = some (.istore_n 1, 1, 0, 0, 0) := rfl
theorem f_Mo_split_61 : fetch 37 61 = some (.iload_n 1, 1, 0, 0, 0) := rfl
theorem f_Mo_split_62 : fetch 37 62 = some (.aload_n 0, 1, 0, 0, 0) := rfl
theorem f_Mo_split_63 : fetch 37 63 = some (.getfield 50, 3, 8, 18, 40) := rfl
theorem f_Mo_split_66 : fetch 37 66 = some (.aload_n 0, 1, 0, 0, 0) := rfl
theorem f_Mo_split_67 : fetch 37 67 = some (.getfield 154, 3, 8, 24, 65) := rfl
theorem f_Mo_split_70 : fetch 37 70 = some (.iaload, 1, 0, 0, 0) := rfl
theorem f_Mo_split_71 : fetch 37 71 = some (.if_icmp .ge 42, 3, 113, 0, 0) := rfl
theorem f_Mo_split_74 : fetch 37 74 = some (.aload_n 0, 1, 0, 0, 0) := rfl
theorem f_Mo_split_75 : fetch 37 75 = some (.iload_n 1, 1, 0, 0, 0) := rfl
theorem f_Mo_split_76 : fetch 37 76 = some (.invokevirtual 164, 3, 38, 1, 50) := rfl
theorem f_Mo_split_79 : fetch 37 79 = some (.bipush 37, 2, 0, 0, 0) := rfl
theorem f_Mo_split_81 : fetch 37 81 = some (.if_icmp .gt 32, 3, 113, 0, 0) := rfl
theorem f_Mo_split_84 : fetch 37 84 = some (.aload_n 0, 1, 0, 0, 0) := rfl
theorem f_Mo_split_85 : fetch 37 85 = some (.getfield 56, 3, 8, 20, 42) := rfl
theorem f_Mo_split_88 : fetch 37 88 = some (.bipush 100, 2, 0, 0, 0) := rfl
theorem f_Mo_split_90 : fetch 37 90 = some (.aload_n 0, 1, 0, 0, 0) := rfl
theorem f_Mo_split_91 : fetch 37 91 = some (.getfield 154, 3, 8, 24, 65) := rfl
theorem f_Mo_split_94 : fetch 37 94 = some (.imul, 1, 0, 0, 0) := rfl
theorem f_Mo_split_95 : fetch 37 95 = some (.iload_n 1, 1, 0, 0, 0) := rfl
theorem f_Mo_split_96 : fetch 37 96 = some (.iadd, 1, 0, 0, 0) := rfl
theorem f_Mo_split_97 : fetch 37 97 = some (.iconst 1, 1, 0, 0, 0) := rfl
theorem f_Mo_split_98 : fetch 37 98 = some (.bastore, 1, 0, 0, 0) := rfl
theorem f_Mo_split_99 : fetch 37 99 = some (.iload_n 1, 1, 0, 0, 0) := rfl
theorem f_Mo_split_100 : fetch 37 100 = some (.aload_n 0, 1, 0, 0, 0) := rfl
theorem f_Mo_split_101 : fetch 37 101 = some (.iload_n 1, 1, 0, 0, 0) := rfl
theorem f_Mo_split_102 : fetch 37 102 = some (.invokevirtual 164, 3, 38, 1, 50) := rfl
theorem f_Mo_split_105 : fetch 37 105 = some (.invokestatic 167, 3, 39, 1, 51) := rfl
theorem f_Mo_split_108 : fetch 37 108 = some (.iadd, 1, 0, 0, 0) := rfl
theorem f_Mo_split_109 : fetch 37 109 = some (.istore_n 1, 1, 0, 0, 0) := rfl
theorem f_Mo_split_110 : fetch 37 110 = some (.goto (-49), 3, 61, 0, 0) := rfl
theorem f_Mo_split_113 : fetch 37 113 = some (.iload_n 1, 1, 0, 0, 0) := rfl
theorem f_Mo_split_114 : fetch 37 114 = some (.aload_n 0, 1, 0, 0, 0) := rfl
theorem f_Mo_split_115 : fetch 37 115 = some (.getfield 50, 3, 8, 18, 40) := rfl
theorem f_Mo_split_118 : fetch 37 118 = some (.aload_n 0, 1, 0, 0, 0) := rfl
theorem f_Mo_split_119 : fetch 37 119 = some (.getfield 154, 3, 8, 24, 65) := rfl
theorem f_Mo_split_122 : fetch 37 122 = some (.iaload, 1, 0, 0, 0) := rfl
theorem f_Mo_split_123 : fetch 37 123 = some (.if_icmp .ne 7, 3, 130, 0, 0) := rfl
theorem f_Mo_split_126 : fetch 37 126 = some (.iconst 1, 1, 0, 0, 0) := rfl
theorem f_Mo_split_127 : fetch 37 127 = some (.goto 4, 3, 131, 0, 0) := rfl
theorem f_Mo_split_130 : fetch 37 130 = some (.iconst 0, 1, 0, 0, 0) := rfl
theorem f_Mo_split_131 : fetch 37 131 = some (.ireturn, 1, 2, 0, 0) := rfl
def F_Mo_split_131  (y0 : Bool) (σ : SG) : Option (Bool × SG) :=
  some (y0, σ)
set_option maxHeartbeats 4000000 in
theorem w_Mo_split_131 {b d : Nat} {sc : SC} {pre tl : List PE} {B : Nat} {Q : Option Value → List PE → Prop} {res : Bool × SG} (hB : B = b + pre.length) (hd : 1 ≤ d)   (hQ : Q (some (.int (bz res.1))) (HH pre tl SHm B res.2)) (lv : LV) (σ : SG) (y0 : Bool)  (hF : F_Mo_split_131  y0 σ = some res) : Rn b sc d 37 131 lv [.int (bz (y0))] (HH pre tl SHm B σ) Q := by
  obtain ⟨e0, rfl⟩ : ∃ e, d = e + 1 := ⟨d - 1, by omega⟩
  unfold F_Mo_split_131 at hF
  cases hF
  exact r_zreturn f_Mo_split_131 (bz_or (y0)) hQ
def F_Mo_split_113  (x0 : Nat) (x1 : Int32) (σ : SG) : Option (Bool × SG) :=
  if (σ.1 (x0) 24) < 0 ∨ 6 ≤ ((σ.1 (x0) 24)).toNatClampNeg then none else
  if x1 = (σ.2.2.2.1 ((cref SHm (x0) 18)) (((σ.1 (x0) 24)).toNatClampNeg)) then
  F_Mo_split_131 (true) σ
  else F_Mo_split_131 (false) σ
set_option maxHeartbeats 4000000 in
theorem w_Mo_split_113 {b d : Nat} {sc : SC} {pre tl : List PE} {B : Nat} {Q : Option Value → List PE → Prop} {res : Bool × SG} (hB : B = b + pre.length) (hd : 1 ≤ d)   (hQ : Q (some (.int (bz res.1))) (HH pre tl SHm B res.2)) (lv : LV) (σ : SG) (x0 : Nat) (x1 : Int32) (hx0 : isC SHm (x0) 8 = true) (l0 : lv.lookup 0 = some (.ref (B + (x0)))) (l1 : lv.lookup 1 = some (.int (x1))) (hF : F_Mo_split_113  x0 x1 σ = some res) : Rn b sc d 37 113 lv [] (HH pre tl SHm B σ) Q := by
  obtain ⟨e0, rfl⟩ : ∃ e, d = e + 1 := ⟨d - 1, by omega⟩
  unfold F_Mo_split_113 at hF
  refine r_iload_n f_Mo_split_113 l1 ?_
  refine r_aload_n f_Mo_split_114 l0 ?_
  refine t_getc hB hx0 f_Mo_split_115 rfl ?_
  refine r_aload_n f_Mo_split_118 l0 ?_
  refine t_geti hB hx0 f_Mo_split_119 rfl ?_
  by_cases c1 : (σ.1 (x0) 24) < 0 ∨ 6 ≤ ((σ.1 (x0) 24)).toNatClampNeg
  · rw [if_pos c1] at hF; cases hF
  rw [if_neg c1] at hF
  refine t_iald hB (cc_8_18 hx0) f_Mo_split_122 c1 ?_
  refine r_icmp_ne f_Mo_split_123 (fun c2 => ?_) (fun c2 => ?_)
  · rw [if_neg c2] at hF
    refine r_iconst f_Mo_split_130 (v := 0) (by decide) ?_
    exact w_Mo_split_131 hB hd  hQ _ (σ) (false) hF
  · rw [if_pos (Decidable.not_not.mp c2)] at hF
    refine r_iconst f_Mo_split_126 (v := 1) (by decide) ?_
    refine r_goto f_Mo_split_127 ?_
    exact w_Mo_split_131 hB hd  hQ _ (σ) (true) hF
def F_Mo_split_61  : Nat → Nat → Int32 → SG → Option (Bool × SG)
  | 0, _, _, _ => none
  | n + 1, x0, x1, σ =>
  if (σ.1 (x0) 24) < 0 ∨ 6 ≤ ((σ.1 (x0) 24)).toNatClampNeg then none else
  if (σ.2.2.2.1 ((cref SHm (x0) 18)) (((σ.1 (x0) 24)).toNatClampNeg)) ≤ x1 then
  F_Mo_split_113 (x0) (x1) σ
  else match F_Mo_op (x0) (x1) σ with
  | none => none
  | some q5 =>
  if (37 : Int32) < q5.1 then
  F_Mo_split_113 (x0) (x1) q5.2
  else if (((100 : Int32) * (q5.2.1 (x0) 24)) + x1) < 0 ∨ 600 ≤ ((((100 : Int32) * (q5.2.1 (x0) 24)) + x1)).toNatClampNeg then none else
  stl (setA q5.2 ((cref SHm (x0) 20)) (((((100 : Int32) * (q5.2.1 (x0) 24)) + x1)).toNatClampNeg) (bz (true))) fun s8 =>
  match F_Mo_op (x0) (x1) s8 with
  | none => none
  | some q9 =>
  match F_Mo_bytes (q9.1) q9.2 with
  | none => none
  | some q10 =>
  F_Mo_split_61  n (x0) ((x1 + q10.1)) q10.2
set_option maxHeartbeats 4000000 in
theorem w_Mo_split_61 {b d : Nat} {sc : SC} {pre tl : List PE} {B : Nat} {Q : Option Value → List PE → Prop} {res : Bool × SG} (hB : B = b + pre.length) (hd : 1 ≤ d)   (hQ : Q (some (.int (bz res.1))) (HH pre tl SHm B res.2)) : ∀ (n : Nat) (lv : LV) (σ : SG) (x0 : Nat) (x1 : Int32), isC SHm (x0) 8 = true → lv.lookup 0 = some (.ref (B + (x0))) → lv.lookup 1 = some (.int (x1)) → F_Mo_split_61  n x0 x1 σ = some res → Rn b sc d 37 61 lv [] (HH pre tl SHm B σ) Q := by
  obtain ⟨e0, rfl⟩ : ∃ e, d = e + 1 := ⟨d - 1, by omega⟩
  intro n
  induction n with
  | zero => intro lv σ x0 x1 hx0 l0 l1 hF; cases hF
  | succ n ih =>
    intro lv σ x0 x1 hx0 l0 l1 hF
    unfold F_Mo_split_61 at hF
    refine r_iload_n f_Mo_split_61 l1 ?_
    refine r_aload_n f_Mo_split_62 l0 ?_
    refine t_getc hB hx0 f_Mo_split_63 rfl ?_
    refine r_aload_n f_Mo_split_66 l0 ?_
    refine t_geti hB hx0 f_Mo_split_67 rfl ?_
    by_cases c3 : (σ.1 (x0) 24) < 0 ∨ 6 ≤ ((σ.1 (x0) 24)).toNatClampNeg
    · rw [if_pos c3] at hF; cases hF
    rw [if_neg c3] at hF
    refine t_iald hB (cc_8_18 hx0) f_Mo_split_70 c3 ?_
    refine r_icmp_ge f_Mo_split_71 (fun c4 => ?_) (fun c4 => ?_)
    · rw [if_pos c4] at hF
      exact w_Mo_split_113 hB hd  hQ _ (σ) (x0) (x1) hx0 l0 l1 hF
    · rw [if_neg c4] at hF
      refine r_aload_n f_Mo_split_74 l0 ?_
      refine r_iload_n f_Mo_split_75 l1 ?_
      cases hq5 : F_Mo_op (x0) (x1) σ with
      | none => simp only [hq5] at hF; cases hF
      | some q5 =>
        simp only [hq5] at hF
        refine t_V1i hB hx0 rfl rfl f_Mo_split_76 (by decide) (Nat.le_of_ble_eq_true rfl) (Nat.le_of_ble_eq_true rfl) (w_Mo_op hB  (x0) (x1) hx0 hq5 ⟨_, rfl, ?_⟩)
        refine r_bipush f_Mo_split_79 (v := 37) (by decide) ?_
        refine r_icmp_gt f_Mo_split_81 (fun c6 => ?_) (fun c6 => ?_)
        · rw [if_pos c6] at hF
          exact w_Mo_split_113 hB hd  hQ _ (q5.2) (x0) (x1) hx0 l0 l1 hF
        · rw [if_neg c6] at hF
          refine r_aload_n f_Mo_split_84 l0 ?_
          refine t_getc hB hx0 f_Mo_split_85 rfl ?_
          refine r_bipush f_Mo_split_88 (v := 100) (by decide) ?_
          refine r_aload_n f_Mo_split_90 l0 ?_
          refine t_geti hB hx0 f_Mo_split_91 rfl ?_
          refine r_imul f_Mo_split_94 ?_
          refine r_iload_n f_Mo_split_95 l1 ?_
          refine r_iadd f_Mo_split_96 ?_
          refine r_iconst f_Mo_split_97 (v := 1) (by decide) ?_
          by_cases c7 : (((100 : Int32) * (q5.2.1 (x0) 24)) + x1) < 0 ∨ 600 ≤ ((((100 : Int32) * (q5.2.1 (x0) 24)) + x1)).toNatClampNeg
          · rw [if_pos c7] at hF; cases hF
          rw [if_neg c7] at hF
          refine t_bast (v := true) hB (cc_8_20 hx0) f_Mo_split_98 c7 ?_
          generalize hs8 : setA q5.2 ((cref SHm (x0) 20)) (((((100 : Int32) * (q5.2.1 (x0) 24)) + x1)).toNatClampNeg) (bz (true)) = s8 at hF ⊢
          rw [stl_eq] at hF
          refine r_iload_n f_Mo_split_99 l1 ?_
          refine r_aload_n f_Mo_split_100 l0 ?_
          refine r_iload_n f_Mo_split_101 l1 ?_
          cases hq9 : F_Mo_op (x0) (x1) s8 with
          | none => simp only [hq9] at hF; cases hF
          | some q9 =>
            simp only [hq9] at hF
            refine t_V1i hB hx0 rfl rfl f_Mo_split_102 (by decide) (Nat.le_of_ble_eq_true rfl) (Nat.le_of_ble_eq_true rfl) (w_Mo_op hB  (x0) (x1) hx0 hq9 ⟨_, rfl, ?_⟩)
            cases hq10 : F_Mo_bytes (q9.1) q9.2 with
            | none => simp only [hq10] at hF; cases hF
            | some q10 =>
              simp only [hq10] at hF
              refine t_S1i f_Mo_split_105 (by decide) (Nat.le_of_ble_eq_true rfl) (Nat.le_of_ble_eq_true rfl) (w_Mo_bytes hB  (q9.1)  hq10 ⟨_, rfl, ?_⟩)
              refine r_iadd f_Mo_split_108 ?_
              refine r_istore_n f_Mo_split_109 ?_
              refine r_goto f_Mo_split_110 ?_
              exact ih _ (q10.2) (x0) ((x1 + q10.1)) hx0 (lk_put_ne l0 (by decide) (Or.inl rfl)) lk_put hF
def F_Mo_split_2  : Nat → Nat → Int32 → SG → Option (Bool × SG)
  | 0, _, _, _ => none
  | n + 1, x0, x1, σ =>
  if (100 : Int32) ≤ x1 then
  F_Mo_split_61  5000 (x0) ((0 : Int32)) σ
  else if (((100 : Int32) * (σ.1 (x0) 24)) + x1) < 0 ∨ 600 ≤ ((((100 : Int32) * (σ.1 (x0) 24)) + x1)).toNatClampNeg then none else
  stl (setA σ ((cref SHm (x0) 20)) (((((100 : Int32) * (σ.1 (x0) 24)) + x1)).toNatClampNeg) (bz (false))) fun s13 =>
  if (((100 : Int32) * (s13.1 (x0) 24)) + x1) < 0 ∨ 600 ≤ ((((100 : Int32) * (s13.1 (x0) 24)) + x1)).toNatClampNeg then none else
  stl (setA s13 ((cref SHm (x0) 21)) (((((100 : Int32) * (s13.1 (x0) 24)) + x1)).toNatClampNeg) (((-1) : Int32))) fun s15 =>
  if (((100 : Int32) * (s15.1 (x0) 24)) + x1) < 0 ∨ 600 ≤ ((((100 : Int32) * (s15.1 (x0) 24)) + x1)).toNatClampNeg then none else
  stl (setL s15 ((cref SHm (x0) 22)) (((((100 : Int32) * (s15.1 (x0) 24)) + x1)).toNatClampNeg) ((0 : Int64))) fun s17 =>
  F_Mo_split_2  n (x0) ((x1 + 1)) s17
set_option maxHeartbeats 4000000 in
theorem w_Mo_split_2 {b d : Nat} {sc : SC} {pre tl : List PE} {B : Nat} {Q : Option Value → List PE → Prop} {res : Bool × SG} (hB : B = b + pre.length) (hd : 1 ≤ d)   (hQ : Q (some (.int (bz res.1))) (HH pre tl SHm B res.2)) : ∀ (n : Nat) (lv : LV) (σ : SG) (x0 : Nat) (x1 : Int32), isC SHm (x0) 8 = true → lv.lookup 0 = some (.ref (B + (x0))) → lv.lookup 1 = some (.int (x1)) → F_Mo_split_2  n x0 x1 σ = some res → Rn b sc d 37 2 lv [] (HH pre tl SHm B σ) Q := by
  obtain ⟨e0, rfl⟩ : ∃ e, d = e + 1 := ⟨d - 1, by omega⟩
  intro n
  induction n with
  | zero => intro lv σ x0 x1 hx0 l0 l1 hF; cases hF
  | succ n ih =>
    intro lv σ x0 x1 hx0 l0 l1 hF
    unfold F_Mo_split_2 at hF
    refine r_iload_n f_Mo_split_2 l1 ?_
    refine r_bipush f_Mo_split_3 (v := 100) (by decide) ?_
    refine r_icmp_ge f_Mo_split_5 (fun c11 => ?_) (fun c11 => ?_)
    · rw [if_pos c11] at hF
      refine r_iconst f_Mo_split_59 (v := 0) (by decide) ?_
      refine r_istore_n f_Mo_split_60 ?_
      exact w_Mo_split_61 hB hd  hQ 5000 _ (σ) (x0) ((0 : Int32)) hx0 (lk_put_ne l0 (by decide) (Or.inl rfl)) lk_put hF
    · rw [if_neg c11] at hF
      refine r_aload_n f_Mo_split_8 l0 ?_
      refine t_getc hB hx0 f_Mo_split_9 rfl ?_
      refine r_bipush f_Mo_split_12 (v := 100) (by decide) ?_
      refine r_aload_n f_Mo_split_14 l0 ?_
      refine t_geti hB hx0 f_Mo_split_15 rfl ?_
      refine r_imul f_Mo_split_18 ?_
      refine r_iload_n f_Mo_split_19 l1 ?_
      refine r_iadd f_Mo_split_20 ?_
      refine r_iconst f_Mo_split_21 (v := 0) (by decide) ?_
      by_cases c12 : (((100 : Int32) * (σ.1 (x0) 24)) + x1) < 0 ∨ 600 ≤ ((((100 : Int32) * (σ.1 (x0) 24)) + x1)).toNatClampNeg
      · rw [if_pos c12] at hF; cases hF
      rw [if_neg c12] at hF
      refine t_bast (v := false) hB (cc_8_20 hx0) f_Mo_split_22 c12 ?_
      generalize hs13 : setA σ ((cref SHm (x0) 20)) (((((100 : Int32) * (σ.1 (x0) 24)) + x1)).toNatClampNeg) (bz (false)) = s13 at hF ⊢
      rw [stl_eq] at hF
      refine r_aload_n f_Mo_split_23 l0 ?_
      refine t_getc hB hx0 f_Mo_split_24 rfl ?_
      refine r_bipush f_Mo_split_27 (v := 100) (by decide) ?_
      refine r_aload_n f_Mo_split_29 l0 ?_
      refine t_geti hB hx0 f_Mo_split_30 rfl ?_
      refine r_imul f_Mo_split_33 ?_
      refine r_iload_n f_Mo_split_34 l1 ?_
      refine r_iadd f_Mo_split_35 ?_
      refine r_iconst f_Mo_split_36 (v := (-1)) (by decide) ?_
      by_cases c14 : (((100 : Int32) * (s13.1 (x0) 24)) + x1) < 0 ∨ 600 ≤ ((((100 : Int32) * (s13.1 (x0) 24)) + x1)).toNatClampNeg
      · rw [if_pos c14] at hF; cases hF
      rw [if_neg c14] at hF
      refine t_iast hB (cc_8_21 hx0) f_Mo_split_37 c14 ?_
      generalize hs15 : setA s13 ((cref SHm (x0) 21)) (((((100 : Int32) * (s13.1 (x0) 24)) + x1)).toNatClampNeg) (((-1) : Int32)) = s15 at hF ⊢
      rw [stl_eq] at hF
      refine r_aload_n f_Mo_split_38 l0 ?_
      refine t_getc hB hx0 f_Mo_split_39 rfl ?_
      refine r_bipush f_Mo_split_42 (v := 100) (by decide) ?_
      refine r_aload_n f_Mo_split_44 l0 ?_
      refine t_geti hB hx0 f_Mo_split_45 rfl ?_
      refine r_imul f_Mo_split_48 ?_
      refine r_iload_n f_Mo_split_49 l1 ?_
      refine r_iadd f_Mo_split_50 ?_
      refine r_lconst f_Mo_split_51 (v := 0) (by decide) ?_
      by_cases c16 : (((100 : Int32) * (s15.1 (x0) 24)) + x1) < 0 ∨ 600 ≤ ((((100 : Int32) * (s15.1 (x0) 24)) + x1)).toNatClampNeg
      · rw [if_pos c16] at hF; cases hF
      rw [if_neg c16] at hF
      refine t_last hB (cc_8_22 hx0) f_Mo_split_52 c16 ?_
      generalize hs17 : setL s15 ((cref SHm (x0) 22)) (((((100 : Int32) * (s15.1 (x0) 24)) + x1)).toNatClampNeg) ((0 : Int64)) = s17 at hF ⊢
      rw [stl_eq] at hF
      refine r_iinc f_Mo_split_53 l1 (w := x1 + 1) rfl ?_
      refine r_goto f_Mo_split_56 ?_
      exact ih _ (s17) (x0) ((x1 + 1)) hx0 (lk_put_ne l0 (by decide) (Or.inl rfl)) lk_put hF
def F_Mo_split (a0 : Nat) (σ : SG) : Option (Bool × SG) :=
  F_Mo_split_2  5000 (a0) ((0 : Int32)) σ
set_option maxHeartbeats 4000000 in
theorem w_Mo_split {b d : Nat} {pre tl : List PE} {B : Nat} {Q : Option Value → List PE → Prop} {res : Bool × SG} (hB : B = b + pre.length) (hd : 1 ≤ d)  {σ : SG} (a0 : Nat) (ha0 : isC SHm (a0) 8 = true) (hF : F_Mo_split a0 σ = some res) (hQ : Q (some (.int (bz res.1))) (HH pre tl SHm B res.2)) : Cl b d 37 [.ref (B + (a0))] (HH pre tl SHm B σ) Q := by
  obtain ⟨e0, rfl⟩ : ∃ e, d = e + 1 := ⟨d - 1, by omega⟩
  unfold Cl
  unfold F_Mo_split at hF
  refine r_iconst f_Mo_split_0 (v := 0) (by decide) ?_
  refine r_istore_n f_Mo_split_1 ?_
  exact w_Mo_split_2 hB hd  hQ 5000 _ (σ) (a0) ((0 : Int32)) ha0 (lk_put_ne rfl (by decide) (Or.inl rfl)) lk_put hF
theorem f_Mo_isBeginning_0 : fetch 41 0 = some (.iload_n 1, 1, 0, 0, 0) := rfl
theorem f_Mo_isBeginning_1 : fetch 41 1 = some (.ifCond .lt 37, 3, 38, 0, 0) := rfl
theorem f_Mo_isBeginning_4 : fetch 41 4 = some (.iload_n 1, 1, 0, 0, 0) := rfl
theorem f_Mo_isBeginning_5 : fetch 41 5 = some (.aload_n 0, 1, 0, 0, 0) := rfl
theorem f_Mo_isBeginning_6 : fetch 41 6 = some (.getfield 50, 3, 8, 18, 40) := rfl
theorem f_Mo_isBeginning_9 : fetch 41 9 = some (.aload_n 0, 1, 0, 0, 0) := rfl
theorem f_Mo_isBeginning_10 : fetch 41 10 = some (.getfield 154, 3, 8, 24, 65) := rfl
theorem f_Mo_isBeginning_13 : fetch 41 13 = some (.iaload, 1, 0, 0, 0) := rfl
theorem f_Mo_isBeginning_14 : fetch 41 14 = some (.if_icmp .ge 24, 3, 38, 0, 0) := rfl
theorem f_Mo_isBeginning_17 : fetch 41 17 = some (.aload_n 0, 1, 0, 0, 0) := rfl
theorem f_Mo_isBeginning_18 : fetch 41 18 = some (.getfield 56, 3, 8, 20, 42) := rfl
theorem f_Mo_isBeginning_21 : fetch 41 21 = some (.bipush 100, 2, 0, 0, 0) := rfl
theorem f_Mo_isBeginning_23 : fetch 41 23 = some (.aload_n 0, 1, 0, 0, 0) := rfl
theorem f_Mo_isBeginning_24 : fetch 41 24 = some (.getfield 154, 3, 8, 24, 65) := rfl
theorem f_Mo_isBeginning_27 : fetch 41 27 = some (.imul, 1, 0, 0, 0) := rfl
theorem f_Mo_isBeginning_28 : fetch 41 28 = some (.iload_n 1, 1, 0, 0, 0) := rfl
theorem f_Mo_isBeginning_29 : fetch 41 29 = some (.iadd, 1, 0, 0, 0) := rfl
theorem f_Mo_isBeginning_30 : fetch 41 30 = some (.baload, 1, 0, 0, 0) := rfl
theorem f_Mo_isBeginning_31 : fetch 41 31 = some (.ifCond .eq 7, 3, 38, 0, 0) := rfl
theorem f_Mo_isBeginning_34 : fetch 41 34 = some (.iconst 1, 1, 0, 0, 0) := rfl
theorem f_Mo_isBeginning_35 : fetch 41 35 = some (.goto 4, 3, 39, 0, 0) := rfl
theorem f_Mo_isBeginning_38 : fetch 41 38 = some (.iconst 0, 1, 0, 0, 0) := rfl
theorem f_Mo_isBeginning_39 : fetch 41 39 = some (.ireturn, 1, 2, 0, 0) := rfl
def F_Mo_isBeginning_39  (y0 : Bool) (σ : SG) : Option (Bool × SG) :=
  some (y0, σ)
set_option maxHeartbeats 4000000 in
theorem w_Mo_isBeginning_39 {b d : Nat} {sc : SC} {pre tl : List PE} {B : Nat} {Q : Option Value → List PE → Prop} {res : Bool × SG} (hB : B = b + pre.length)   (hQ : Q (some (.int (bz res.1))) (HH pre tl SHm B res.2)) (lv : LV) (σ : SG) (y0 : Bool)  (hF : F_Mo_isBeginning_39  y0 σ = some res) : Rn b sc d 41 39 lv [.int (bz (y0))] (HH pre tl SHm B σ) Q := by
  unfold F_Mo_isBeginning_39 at hF
  cases hF
  exact r_zreturn f_Mo_isBeginning_39 (bz_or (y0)) hQ
def F_Mo_isBeginning_38   (σ : SG) : Option (Bool × SG) :=
  F_Mo_isBeginning_39 (false) σ
set_option maxHeartbeats 4000000 in
theorem w_Mo_isBeginning_38 {b d : Nat} {sc : SC} {pre tl : List PE} {B : Nat} {Q : Option Value → List PE → Prop} {res : Bool × SG} (hB : B = b + pre.length)   (hQ : Q (some (.int (bz res.1))) (HH pre tl SHm B res.2)) (lv : LV) (σ : SG)   (hF : F_Mo_isBeginning_38   σ = some res) : Rn b sc d 41 38 lv [] (HH pre tl SHm B σ) Q := by
  unfold F_Mo_isBeginning_38 at hF
  refine r_iconst f_Mo_isBeginning_38 (v := 0) (by decide) ?_
  exact w_Mo_isBeginning_39 hB   hQ _ (σ) (false) hF
def F_Mo_isBeginning (a0 : Nat) (a1 : Int32) (σ : SG) : Option (Bool × SG) :=
  if a1 < 0 then
  F_Mo_isBeginning_38 σ
  else if (σ.1 (a0) 24) < 0 ∨ 6 ≤ ((σ.1 (a0) 24)).toNatClampNeg then none else
  if (σ.2.2.2.1 ((cref SHm (a0) 18)) (((σ.1 (a0) 24)).toNatClampNeg)) ≤ a1 then
  F_Mo_isBeginning_38 σ
  else if (((100 : Int32) * (σ.1 (a0) 24)) + a1) < 0 ∨ 600 ≤ ((((100 : Int32) * (σ.1 (a0) 24)) + a1)).toNatClampNeg then none else
  if (zb (σ.2.2.2.1 ((cref SHm (a0) 20)) (((((100 : Int32) * (σ.1 (a0) 24)) + a1)).toNatClampNeg))) = true then
  F_Mo_isBeginning_39 (true) σ
  else F_Mo_isBeginning_38 σ
set_option maxHeartbeats 4000000 in
theorem w_Mo_isBeginning {b d : Nat} {pre tl : List PE} {B : Nat} {Q : Option Value → List PE → Prop} {res : Bool × SG} (hB : B = b + pre.length)  {σ : SG} (a0 : Nat) (a1 : Int32) (ha0 : isC SHm (a0) 8 = true) (hF : F_Mo_isBeginning a0 a1 σ = some res) (hQ : Q (some (.int (bz res.1))) (HH pre tl SHm B res.2)) : Cl b d 41 [.ref (B + (a0)), .int (a1)] (HH pre tl SHm B σ) Q := by
  unfold Cl
  unfold F_Mo_isBeginning at hF
  refine r_iload_n f_Mo_isBeginning_0 rfl ?_
  refine r_if_lt f_Mo_isBeginning_1 (fun c1 => ?_) (fun c1 => ?_)
  · rw [if_pos c1] at hF
    exact w_Mo_isBeginning_38 hB   hQ _ (σ) hF
  · rw [if_neg c1] at hF
    refine r_iload_n f_Mo_isBeginning_4 rfl ?_
    refine r_aload_n f_Mo_isBeginning_5 rfl ?_
    refine t_getc hB ha0 f_Mo_isBeginning_6 rfl ?_
    refine r_aload_n f_Mo_isBeginning_9 rfl ?_
    refine t_geti hB ha0 f_Mo_isBeginning_10 rfl ?_
    by_cases c2 : (σ.1 (a0) 24) < 0 ∨ 6 ≤ ((σ.1 (a0) 24)).toNatClampNeg
    · rw [if_pos c2] at hF; cases hF
    rw [if_neg c2] at hF
    refine t_iald hB (cc_8_18 ha0) f_Mo_isBeginning_13 c2 ?_
    refine r_icmp_ge f_Mo_isBeginning_14 (fun c3 => ?_) (fun c3 => ?_)
    · rw [if_pos c3] at hF
      exact w_Mo_isBeginning_38 hB   hQ _ (σ) hF
    · rw [if_neg c3] at hF
      refine r_aload_n f_Mo_isBeginning_17 rfl ?_
      refine t_getc hB ha0 f_Mo_isBeginning_18 rfl ?_
      refine r_bipush f_Mo_isBeginning_21 (v := 100) (by decide) ?_
      refine r_aload_n f_Mo_isBeginning_23 rfl ?_
      refine t_geti hB ha0 f_Mo_isBeginning_24 rfl ?_
      refine r_imul f_Mo_isBeginning_27 ?_
      refine r_iload_n f_Mo_isBeginning_28 rfl ?_
      refine r_iadd f_Mo_isBeginning_29 ?_
      by_cases c4 : (((100 : Int32) * (σ.1 (a0) 24)) + a1) < 0 ∨ 600 ≤ ((((100 : Int32) * (σ.1 (a0) 24)) + a1)).toNatClampNeg
      · rw [if_pos c4] at hF; cases hF
      rw [if_neg c4] at hF
      refine t_bald hB (cc_8_20 ha0) f_Mo_isBeginning_30 c4 ?_
      refine r_if_eq f_Mo_isBeginning_31 (fun c5 => ?_) (fun c5 => ?_)
      · rw [if_neg (bz_nt c5)] at hF
        exact w_Mo_isBeginning_38 hB   hQ _ (σ) hF
      · rw [if_pos (bz_t c5)] at hF
        refine r_iconst f_Mo_isBeginning_34 (v := 1) (by decide) ?_
        refine r_goto f_Mo_isBeginning_35 ?_
        exact w_Mo_isBeginning_39 hB   hQ _ (σ) (true) hF
theorem f_Mo_wellMade_0 : fetch 40 0 = some (.iconst 1, 1, 0, 0, 0) := rfl
theorem f_Mo_wellMade_1 : fetch 40 1 = some (.istore_n 1, 1, 0, 0, 0) := rfl
theorem f_Mo_wellMade_2 : fetch 40 2 = some (.iconst 3, 1, 0, 0, 0) := rfl
theorem f_Mo_wellMade_3 : fetch 40 3 = some (.aload_n 0, 1, 0, 0, 0) := rfl
theorem f_Mo_wellMade_4 : fetch 40 4 = some (.getfield 154, 3, 8, 24, 65) := rfl
theorem f_Mo_wellMade_7 : fetch 40 7 = some (.imul, 1, 0, 0, 0) := rfl
theorem f_Mo_wellMade_8 : fetch 40 8 = some (.istore_n 2, 1, 0, 0, 0) := rfl
theorem f_Mo_wellMade_9 : fetch 40 9 = some (.iload_n 2, 1, 0, 0, 0) := rfl
theorem f_Mo_wellMade_10 : fetch 40 10 = some (.iconst 3, 1, 0, 0, 0) := rfl
theorem f_Mo_wellMade_11 : fetch 40 11 = some (.aload_n 0, 1, 0, 0, 0) := rfl
theorem f_Mo_wellMade_12 : fetch 40 12 = some (.getfield 154, 3, 8, 24, 65) := rfl
theorem f_Mo_wellMade_15 : fetch 40 15 = some (.imul, 1, 0, 0, 0) := rfl
theorem f_Mo_wellMade_16 : fetch 40 16 = some (.aload_n 0, 1, 0, 0, 0) := rfl
theorem f_Mo_wellMade_17 : fetch 40 17 = some (.getfield 34, 3, 8, 13, 35) := rfl
theorem f_Mo_wellMade_20 : fetch 40 20 = some (.aload_n 0, 1, 0, 0, 0) := rfl
theorem f_Mo_wellMade_21 : fetch 40 21 = some (.getfield 154, 3, 8, 24, 65) := rfl
theorem f_Mo_wellMade_24 : fetch 40 24 = some (.iaload, 1, 0, 0, 0) := rfl
theorem f_Mo_wellMade_25 : fetch 40 25 = some (.iadd, 1, 0, 0, 0) := rfl
theorem f_Mo_wellMade_26 : fetch 40 26 = some (.if_icmp .ge 288, 3, 314, 0, 0) := rfl
theorem f_Mo_wellMade_29 : fetch 40 29 = some (.iload_n 1, 1, 0, 0, 0) := rfl
theorem f_Mo_wellMade_30 : fetch 40 30 = some (.ifCond .eq 55, 3, 85, 0, 0) := rfl
theorem f_Mo_wellMade_33 : fetch 40 33 = some (.aload_n 0, 1, 0, 0, 0) := rfl
theorem f_Mo_wellMade_34 : fetch 40 34 = some (.getfield 37, 3, 8, 14, 36) := rfl
theorem f_Mo_wellMade_37 : fetch 40 37 = some (.iload_n 2, 1, 0, 0, 0) := rfl
theorem f_Mo_wellMade_38 : fetch 40 38 = some (.iaload, 1, 0, 0, 0) := rfl
theorem f_Mo_wellMade_39 : fetch 40 39 = some (.aload_n 0, 1, 0, 0, 0) := rfl
theorem f_Mo_wellMade_40 : fetch 40 40 = some (.getfield 40, 3, 8, 15, 37) := rfl
theorem f_Mo_wellMade_43 : fetch 40 43 = some (.iload_n 2, 1, 0, 0, 0) := rfl
theorem f_Mo_wellMade_44 : fetch 40 44 = some (.iaload, 1, 0, 0, 0) := rfl
theorem f_Mo_wellMade_45 : fetch 40 45 = some (.if_icmp .ge 40, 3, 85, 0, 0) := rfl
theorem f_Mo_wellMade_48 : fetch 40 48 = some (.aload_n 0, 1, 0, 0, 0) := rfl
theorem f_Mo_wellMade_49 : fetch 40 49 = some (.getfield 40, 3, 8, 15, 37) := rfl
theorem f_Mo_wellMade_52 : fetch 40 52 = some (.iload_n 2, 1, 0, 0, 0) := rfl
theorem f_Mo_wellMade_53 : fetch 40 53 = some (.iaload, 1, 0, 0, 0) := rfl
theorem f_Mo_wellMade_54 : fetch 40 54 = some (.aload_n 0, 1, 0, 0, 0) := rfl
theorem f_Mo_wellMade_55 : fetch 40 55 = some (.getfield 43, 3, 8, 16, 38) := rfl
theorem f_Mo_wellMade_58 : fetch 40 58 = some (.iload_n 2, 1, 0, 0, 0) := rfl
theorem f_Mo_wellMade_59 : fetch 40 59 = some (.iaload, 1, 0, 0, 0) := rfl
theorem f_Mo_wellMade_60 : fetch 40 60 = some (.if_icmp .ge 25, 3, 85, 0, 0) := rfl
theorem f_Mo_wellMade_63 : fetch 40 63 = some (.aload_n 0, 1, 0, 0, 0) := rfl
theorem f_Mo_wellMade_64 : fetch 40 64 = some (.getfield 43, 3, 8, 16, 38) := rfl
theorem f_Mo_wellMade_67 : fetch 40 67 = some (.iload_n 2, 1, 0, 0, 0) := rfl
theorem f_Mo_wellMade_68 : fetch 40 68 = some (.iaload, 1, 0, 0, 0) := rfl
theorem f_Mo_wellMade_69 : fetch 40 69 = some (.aload_n 0, 1, 0, 0, 0) := rfl
theorem f_Mo_wellMade_70 : fetch 40 70 = some (.getfield 50, 3, 8, 18, 40) := rfl
theorem f_Mo_wellMade_73 : fetch 40 73 = some (.aload_n 0, 1, 0, 0, 0) := rfl
theorem f_Mo_wellMade_74 : fetch 40 74 = some (.getfield 154, 3, 8, 24, 65) := rfl
theorem f_Mo_wellMade_77 : fetch 40 77 = some (.iaload, 1, 0, 0, 0) := rfl
theorem f_Mo_wellMade_78 : fetch 40 78 = some (.if_icmp .gt 7, 3, 85, 0, 0) := rfl
theorem f_Mo_wellMade_81 : fetch 40 81 = some (.iconst 1, 1, 0, 0, 0) := rfl
theorem f_Mo_wellMade_82 : fetch 40 82 = some (.goto 4, 3, 86, 0, 0) := rfl
theorem f_Mo_wellMade_85 : fetch 40 85 = some (.iconst 0, 1, 0, 0, 0) := rfl
theorem f_Mo_wellMade_86 : fetch 40 86 = some (.istore_n 1, 1, 0, 0, 0) := rfl
theorem f_Mo_wellMade_87 : fetch 40 87 = some (.iload_n 1, 1, 0, 0, 0) := rfl
theorem f_Mo_wellMade_88 : fetch 40 88 = some (.ifCond .eq 64, 3, 152, 0, 0) := rfl
theorem f_Mo_wellMade_91 : fetch 40 91 = some (.aload_n 0, 1, 0, 0, 0) := rfl
theorem f_Mo_wellMade_92 : fetch 40 92 = some (.aload_n 0, 1, 0, 0, 0) := rfl
theorem f_Mo_wellMade_93 : fetch 40 93 = some (.getfield 37, 3, 8, 14, 36) := rfl
theorem f_Mo_wellMade_96 : fetch 40 96 = some (.iload_n 2, 1, 0, 0, 0) := rfl
theorem f_Mo_wellMade_97 : fetch 40 97 = some (.iaload, 1, 0, 0, 0) := rfl
theorem f_Mo_wellMade_98 : fetch 40 98 = some (.invokevirtual 170, 3, 41, 1, 52) := rfl
theorem f_Mo_wellMade_101 : fetch 40 101 = some (.ifCond .eq 51, 3, 152, 0, 0) := rfl
theorem f_Mo_wellMade_104 : fetch 40 104 = some (.aload_n 0, 1, 0, 0, 0) := rfl
theorem f_Mo_wellMade_105 : fetch 40 105 = some (.aload_n 0, 1, 0, 0, 0) := rfl
theorem f_Mo_wellMade_106 : fetch 40 106 = some (.getfield 40, 3, 8, 15, 37) := rfl
theorem f_Mo_wellMade_109 : fetch 40 109 = some (.iload_n 2, 1, 0, 0, 0) := rfl
theorem f_Mo_wellMade_110 : fetch 40 110 = some (.iaload, 1, 0, 0, 0) := rfl
theorem f_Mo_wellMade_111 : fetch 40 111 = some (.invokevirtual 170, 3, 41, 1, 52) := rfl
theorem f_Mo_wellMade_114 : fetch 40 114 = some (.ifCond .eq 38, 3, 152, 0, 0) := rfl
theorem f_Mo_wellMade_117 : fetch 40 117 = some (.aload_n 0, 1, 0, 0, 0) := rfl
theorem f_Mo_wellMade_118 : fetch 40 118 = some (.getfield 43, 3, 8, 16, 38) := rfl
theorem f_Mo_wellMade_121 : fetch 40 121 = some (.iload_n 2, 1, 0, 0, 0) := rfl
theorem f_Mo_wellMade_122 : fetch 40 122 = some (.iaload, 1, 0, 0, 0) := rfl
theorem f_Mo_wellMade_123 : fetch 40 123 = some (.aload_n 0, 1, 0, 0, 0) := rfl
theorem f_Mo_wellMade_124 : fetch 40 124 = some (.getfield 50, 3, 8, 18, 40) := rfl
theorem f_Mo_wellMade_127 : fetch 40 127 = some (.aload_n 0, 1, 0, 0, 0) := rfl
theorem f_Mo_wellMade_128 : fetch 40 128 = some (.getfield 154, 3, 8, 24, 65) := rfl
theorem f_Mo_wellMade_131 : fetch 40 131 = some (.iaload, 1, 0, 0, 0) := rfl
theorem f_Mo_wellMade_132 : fetch 40 132 = some (.if_icmp .eq 16, 3, 148, 0, 0) := rfl
theorem f_Mo_wellMade_135 : fetch 40 135 = some (.aload_n 0, 1, 0, 0, 0) := rfl
theorem f_Mo_wellMade_136 : fetch 40 136 = some (.aload_n 0, 1, 0, 0, 0) := rfl
theorem f_Mo_wellMade_137 : fetch 40 137 = some (.getfield 43, 3, 8, 16, 38) := rfl
theorem f_Mo_wellMade_140 : fetch 40 140 = some (.iload_n 2, 1, 0, 0, 0) := rfl
theorem f_Mo_wellMade_141 : fetch 40 141 = some (.iaload, 1, 0, 0, 0) := rfl
theorem f_Mo_wellMade_142 : fetch 40 142 = some (.invokevirtual 170, 3, 41, 1, 52) := rfl
theorem f_Mo_wellMade_145 : fetch 40 145 = some (.ifCond .eq 7, 3, 152, 0, 0) := rfl
theorem f_Mo_wellMade_148 : fetch 40 148 = some (.iconst 1, 1, 0, 0, 0) := rfl
theorem f_Mo_wellMade_149 : fetch 40 149 = some (.goto 4, 3, 153, 0, 0) := rfl
theorem f_Mo_wellMade_152 : fetch 40 152 = some (.iconst 0, 1, 0, 0, 0) := rfl
theorem f_Mo_wellMade_153 : fetch 40 153 = some (.istore_n 1, 1, 0, 0, 0) := rfl
theorem f_Mo_wellMade_154 : fetch 40 154 = some (.iload_n 2, 1, 0, 0, 0) := rfl
theorem f_Mo_wellMade_155 : fetch 40 155 = some (.iconst 1, 1, 0, 0, 0) := rfl
theorem f_Mo_wellMade_156 : fetch 40 156 = some (.iadd, 1, 0, 0, 0) := rfl
theorem f_Mo_wellMade_157 : fetch 40 157 = some (.istore_n 3, 1, 0, 0, 0) := rfl
theorem f_Mo_wellMade_158 : fetch 40 158 = some (.iload_n 3, 1, 0, 0, 0) := rfl
theorem f_Mo_wellMade_159 : fetch 40 159 = some (.iconst 3, 1, 0, 0, 0) := rfl
theorem f_Mo_wellMade_160 : fetch 40 160 = some (.aload_n 0, 1, 0, 0, 0) := rfl
theorem f_Mo_wellMade_161 : fetch 40 161 = some (.getfield 154, 3, 8, 24, 65) := rfl
theorem f_Mo_wellMade_164 : fetch 40 164 = some (.imul, 1, 0, 0, 0) := rfl
theorem f_Mo_wellMade_165 : fetch 40 165 = some (.aload_n 0, 1, 0, 0, 0) := rfl
theorem f_Mo_wellMade_166 : fetch 40 166 = some (.getfield 34, 3, 8, 13, 35) := rfl
theorem f_Mo_wellMade_169 : fetch 40 169 = some (.aload_n 0, 1, 0, 0, 0) := rfl
theorem f_Mo_wellMade_170 : fetch 40 170 = some (.getfield 154, 3, 8, 24, 65) := rfl
theorem f_Mo_wellMade_173 : fetch 40 173 = some (.iaload, 1, 0, 0, 0) := rfl
theorem f_Mo_wellMade_174 : fetch 40 174 = some (.iadd, 1, 0, 0, 0) := rfl
theorem f_Mo_wellMade_175 : fetch 40 175 = some (.if_icmp .ge 133, 3, 308, 0, 0) := rfl
theorem f_Mo_wellMade_178 : fetch 40 178 = some (.aload_n 0, 1, 0, 0, 0) := rfl
theorem f_Mo_wellMade_179 : fetch 40 179 = some (.getfield 43, 3, 8, 16, 38) := rfl
theorem f_Mo_wellMade_182 : fetch 40 182 = some (.iload_n 2, 1, 0, 0, 0) := rfl
theorem f_Mo_wellMade_183 : fetch 40 183 = some (.iaload, 1, 0, 0, 0) := rfl
theorem f_Mo_wellMade_184 : fetch 40 184 = some (.aload_n 0, 1, 0, 0, 0) := rfl
theorem f_Mo_wellMade_185 : fetch 40 185 = some (.getfield 37, 3, 8, 14, 36) := rfl
theorem f_Mo_wellMade_188 : fetch 40 188 = some (.iload_n 3, 1, 0, 0, 0) := rfl
theorem f_Mo_wellMade_189 : fetch 40 189 = some (.iaload, 1, 0, 0, 0) := rfl
theorem f_Mo_wellMade_190 : fetch 40 190 = some (.if_icmp .le 18, 3, 208, 0, 0) := rfl
theorem f_Mo_wellMade_193 : fetch 40 193 = some (.aload_n 0, 1, 0, 0, 0) := rfl
theorem f_Mo_wellMade_194 : fetch 40 194 = some (.getfield 43, 3, 8, 16, 38) := rfl
theorem f_Mo_wellMade_197 : fetch 40 197 = some (.iload_n 3, 1, 0, 0, 0) := rfl
theorem f_Mo_wellMade_198 : fetch 40 198 = some (.iaload, 1, 0, 0, 0) := rfl
theorem f_Mo_wellMade_199 : fetch 40 199 = some (.aload_n 0, 1, 0, 0, 0) := rfl
theorem f_Mo_wellMade_200 : fetch 40 200 = some (.getfield 37, 3, 8, 14, 36) := rfl
theorem f_Mo_wellMade_203 : fetch 40 203 = some (.iload_n 2, 1, 0, 0, 0) := rfl
theorem f_Mo_wellMade_204 : fetch 40 204 = some (.iaload, 1, 0, 0, 0) := rfl
theorem f_Mo_wellMade_205 : fetch 40 205 = some (.if_icmp .gt 7, 3, 212, 0, 0) := rfl
theorem f_Mo_wellMade_208 : fetch 40 208 = some (.iconst 1, 1, 0, 0, 0) := rfl
theorem f_Mo_wellMade_209 : fetch 40 209 = some (.goto 4, 3, 213, 0, 0) := rfl
theorem f_Mo_wellMade_212 : fetch 40 212 = some (.iconst 0, 1, 0, 0, 0) := rfl
theorem f_Mo_wellMade_213 : fetch 40 213 = some (.istore 4, 2, 0, 0, 0) := rfl
theorem f_Mo_wellMade_215 : fetch 40 215 = some (.aload_n 0, 1, 0, 0, 0) := rfl
theorem f_Mo_wellMade_216 : fetch 40 216 = some (.getfield 37, 3, 8, 14, 36) := rfl
theorem f_Mo_wellMade_219 : fetch 40 219 = some (.iload_n 2, 1, 0, 0, 0) := rfl
theorem f_Mo_wellMade_220 : fetch 40 220 = some (.iaload, 1, 0, 0, 0) := rfl
theorem f_Mo_wellMade_221 : fetch 40 221 = some (.aload_n 0, 1, 0, 0, 0) := rfl
theorem f_Mo_wellMade_222 : fetch 40 222 = some (.getfield 37, 3, 8, 14, 36) := rfl
theorem f_Mo_wellMade_225 : fetch 40 225 = some (.iload_n 3, 1, 0, 0, 0) := rfl
theorem f_Mo_wellMade_226 : fetch 40 226 = some (.iaload, 1, 0, 0, 0) := rfl
theorem f_Mo_wellMade_227 : fetch 40 227 = some (.if_icmp .lt 18, 3, 245, 0, 0) := rfl
theorem f_Mo_wellMade_230 : fetch 40 230 = some (.aload_n 0, 1, 0, 0, 0) := rfl
theorem f_Mo_wellMade_231 : fetch 40 231 = some (.getfield 43, 3, 8, 16, 38) := rfl
theorem f_Mo_wellMade_234 : fetch 40 234 = some (.iload_n 2, 1, 0, 0, 0) := rfl
theorem f_Mo_wellMade_235 : fetch 40 235 = some (.iaload, 1, 0, 0, 0) := rfl
theorem f_Mo_wellMade_236 : fetch 40 236 = some (.aload_n 0, 1, 0, 0, 0) := rfl
theorem f_Mo_wellMade_237 : fetch 40 237 = some (.getfield 40, 3, 8, 15, 37) := rfl
theorem f_Mo_wellMade_240 : fetch 40 240 = some (.iload_n 3, 1, 0, 0, 0) := rfl
theorem f_Mo_wellMade_241 : fetch 40 241 = some (.iaload, 1, 0, 0, 0) := rfl
theorem f_Mo_wellMade_242 : fetch 40 242 = some (.if_icmp .le 33, 3, 275, 0, 0) := rfl
theorem f_Mo_wellMade_245 : fetch 40 245 = some (.aload_n 0, 1, 0, 0, 0) := rfl
theorem f_Mo_wellMade_246 : fetch 40 246 = some (.getfield 37, 3, 8, 14, 36) := rfl
theorem f_Mo_wellMade_249 : fetch 40 249 = some (.iload_n 2, 1, 0, 0, 0) := rfl
theorem f_Mo_wellMade_250 : fetch 40 250 = some (.iaload, 1, 0, 0, 0) := rfl
theorem f_Mo_wellMade_251 : fetch 40 251 = some (.aload_n 0, 1, 0, 0, 0) := rfl
theorem f_Mo_wellMade_252 : fetch 40 252 = some (.getfield 40, 3, 8, 15, 37) := rfl
theorem f_Mo_wellMade_255 : fetch 40 255 = some (.iload_n 3, 1, 0, 0, 0) := rfl
theorem f_Mo_wellMade_256 : fetch 40 256 = some (.iaload, 1, 0, 0, 0) := rfl
theorem f_Mo_wellMade_257 : fetch 40 257 = some (.if_icmp .lt 22, 3, 279, 0, 0) := rfl
theorem f_Mo_wellMade_260 : fetch 40 260 = some (.aload_n 0, 1, 0, 0, 0) := rfl
theorem f_Mo_wellMade_261 : fetch 40 261 = some (.getfield 43, 3, 8, 16, 38) := rfl
theorem f_Mo_wellMade_264 : fetch 40 264 = some (.iload_n 2, 1, 0, 0, 0) := rfl
theorem f_Mo_wellMade_265 : fetch 40 265 = some (.iaload, 1, 0, 0, 0) := rfl
theorem f_Mo_wellMade_266 : fetch 40 266 = some (.aload_n 0, 1, 0, 0, 0) := rfl
theorem f_Mo_wellMade_267 : fetch 40 267 = some (.getfield 43, 3, 8, 16, 38) := rfl
theorem f_Mo_wellMade_270 : fetch 40 270 = some (.iload_n 3, 1, 0, 0, 0) := rfl
theorem f_Mo_wellMade_271 : fetch 40 271 = some (.iaload, 1, 0, 0, 0) := rfl
theorem f_Mo_wellMade_272 : fetch 40 272 = some (.if_icmp .gt 7, 3, 279, 0, 0) := rfl
theorem f_Mo_wellMade_275 : fetch 40 275 = some (.iconst 1, 1, 0, 0, 0) := rfl
theorem f_Mo_wellMade_276 : fetch 40 276 = some (.goto 4, 3, 280, 0, 0) := rfl
theorem f_Mo_wellMade_279 : fetch 40 279 = some (.iconst 0, 1, 0, 0, 0) := rfl
theorem f_Mo_wellMade_280 : fetch 40 280 = some (.istore 5, 2, 0, 0, 0) := rfl
theorem f_Mo_wellMade_282 : fetch 40 282 = some (.iload_n 1, 1, 0, 0, 0) := rfl
theorem f_Mo_wellMade_283 : fetch 40 283 = some (.ifCond .eq 17, 3, 300, 0, 0) := rfl
theorem f_Mo_wellMade_286 : fetch 40 286 = some (.iload 4, 2, 0, 0, 0) := rfl
theorem f_Mo_wellMade_288 : fetch 40 288 = some (.ifCond .ne 8, 3, 296, 0, 0) := rfl
theorem f_Mo_wellMade_291 : fetch 40 291 = some (.iload 5, 2, 0, 0, 0) := rfl
theorem f_Mo_wellMade_293 : fetch 40 293 = some (.ifCond .eq 7, 3, 300, 0, 0) := rfl
theorem f_Mo_wellMade_296 : fetch 40 296 = some (.iconst 1, 1, 0, 0, 0) := rfl
theorem f_Mo_wellMade_297 : fetch 40 297 = some (.goto 4, 3, 301, 0, 0) := rfl
theorem f_Mo_wellMade_300 : fetch 40 300 = some (.iconst 0, 1, 0, 0, 0) := rfl
theorem f_Mo_wellMade_301 : fetch 40 301 = some (.istore_n 1, 1, 0, 0, 0) := rfl
theorem f_Mo_wellMade_302 : fetch 40 302 = some (.iinc 3 1, 3, 0, 0, 0) := rfl
theorem f_Mo_wellMade_305 : fetch 40 305 = some (.goto (-147), 3, 158, 0, 0) := rfl
theorem f_Mo_wellMade_308 : fetch 40 308 = some (.iinc 2 1, 3, 0, 0, 0) := rfl
theorem f_Mo_wellMade_311 : fetch 40 311 = some (.goto (-302), 3, 9, 0, 0) := rfl
theorem f_Mo_wellMade_314 : fetch 40 314 = some (.iload_n 1, 1, 0, 0, 0) := rfl
theorem f_Mo_wellMade_315 : fetch 40 315 = some (.ireturn, 1, 2, 0, 0) := rfl
def F_Mo_wellMade_301 (rec9 : Nat → Bool → Int32 → SG → Option (Bool × SG)) (rec158 : Nat → Bool → Int32 → Int32 → SG → Option (Bool × SG)) (x0 : Nat) (x2 : Int32) (x3 : Int32) (y0 : Bool) (σ : SG) : Option (Bool × SG) :=
  rec158 (x0) (y0) (x2) ((x3 + 1)) σ
set_option maxHeartbeats 4000000 in
theorem w_Mo_wellMade_301 {b d : Nat} {sc : SC} {pre tl : List PE} {B : Nat} {Q : Option Value → List PE → Prop} {res : Bool × SG} (hB : B = b + pre.length) (hd : 1 ≤ d) {rec9 : Nat → Bool → Int32 → SG → Option (Bool × SG)} {rec158 : Nat → Bool → Int32 → Int32 → SG → Option (Bool × SG)} (hr9 : ∀ (lv : LV) (σ : SG) (x0 : Nat) (x1 : Bool) (x2 : Int32), isC SHm (x0) 8 = true → lv.lookup 0 = some (.ref (B + (x0))) → lv.lookup 1 = some (.int (bz (x1))) → lv.lookup 2 = some (.int (x2)) →  rec9 x0 x1 x2 σ = some res → Rn b sc d 40 9 lv [] (HH pre tl SHm B σ) Q) (hr158 : ∀ (lv : LV) (σ : SG) (x0 : Nat) (x1 : Bool) (x2 : Int32) (x3 : Int32), isC SHm (x0) 8 = true → lv.lookup 0 = some (.ref (B + (x0))) → lv.lookup 1 = some (.int (bz (x1))) → lv.lookup 2 = some (.int (x2)) → lv.lookup 3 = some (.int (x3)) →  rec158 x0 x1 x2 x3 σ = some res → Rn b sc d 40 158 lv [] (HH pre tl SHm B σ) Q) (hQ : Q (some (.int (bz res.1))) (HH pre tl SHm B res.2)) (lv : LV) (σ : SG) (x0 : Nat) (x2 : Int32) (x3 : Int32) (y0 : Bool) (hx0 : isC SHm (x0) 8 = true) (l0 : lv.lookup 0 = some (.ref (B + (x0)))) (l2 : lv.lookup 2 = some (.int (x2))) (l3 : lv.lookup 3 = some (.int (x3))) (hF : F_Mo_wellMade_301 rec9 rec158 x0 x2 x3 y0 σ = some res) : Rn b sc d 40 301 lv [.int (bz (y0))] (HH pre tl SHm B σ) Q := by
  obtain ⟨e0, rfl⟩ : ∃ e, d = e + 1 := ⟨d - 1, by omega⟩
  unfold F_Mo_wellMade_301 at hF
  refine r_istore_n f_Mo_wellMade_301 ?_
  refine r_iinc f_Mo_wellMade_302 (lk_put_ne l3 (by decide) (Or.inl rfl)) (w := x3 + 1) rfl ?_
  refine r_goto f_Mo_wellMade_305 ?_
  exact hr158 _ (σ) (x0) (y0) (x2) ((x3 + 1)) hx0 (lk_put_ne (lk_put_ne l0 (by decide) (Or.inl rfl)) (by decide) (Or.inl rfl)) (lk_put_ne lk_put (by decide) (Or.inl rfl)) (lk_put_ne (lk_put_ne l2 (by decide) (Or.inl rfl)) (by decide) (Or.inl rfl)) lk_put hF
def F_Mo_wellMade_300 (rec9 : Nat → Bool → Int32 → SG → Option (Bool × SG)) (rec158 : Nat → Bool → Int32 → Int32 → SG → Option (Bool × SG)) (x0 : Nat) (x2 : Int32) (x3 : Int32) (σ : SG) : Option (Bool × SG) :=
  F_Mo_wellMade_301 (rec9) (rec158) (x0) (x2) (x3) (false) σ
set_option maxHeartbeats 4000000 in
theorem w_Mo_wellMade_300 {b d : Nat} {sc : SC} {pre tl : List PE} {B : Nat} {Q : Option Value → List PE → Prop} {res : Bool × SG} (hB : B = b + pre.length) (hd : 1 ≤ d) {rec9 : Nat → Bool → Int32 → SG → Option (Bool × SG)} {rec158 : Nat → Bool → Int32 → Int32 → SG → Option (Bool × SG)} (hr9 : ∀ (lv : LV) (σ : SG) (x0 : Nat) (x1 : Bool) (x2 : Int32), isC SHm (x0) 8 = true → lv.lookup 0 = some (.ref (B + (x0))) → lv.lookup 1 = some (.int (bz (x1))) → lv.lookup 2 = some (.int (x2)) →  rec9 x0 x1 x2 σ = some res → Rn b sc d 40 9 lv [] (HH pre tl SHm B σ) Q) (hr158 : ∀ (lv : LV) (σ : SG) (x0 : Nat) (x1 : Bool) (x2 : Int32) (x3 : Int32), isC SHm (x0) 8 = true → lv.lookup 0 = some (.ref (B + (x0))) → lv.lookup 1 = some (.int (bz (x1))) → lv.lookup 2 = some (.int (x2)) → lv.lookup 3 = some (.int (x3)) →  rec158 x0 x1 x2 x3 σ = some res → Rn b sc d 40 158 lv [] (HH pre tl SHm B σ) Q) (hQ : Q (some (.int (bz res.1))) (HH pre tl SHm B res.2)) (lv : LV) (σ : SG) (x0 : Nat) (x2 : Int32) (x3 : Int32) (hx0 : isC SHm (x0) 8 = true) (l0 : lv.lookup 0 = some (.ref (B + (x0)))) (l2 : lv.lookup 2 = some (.int (x2))) (l3 : lv.lookup 3 = some (.int (x3))) (hF : F_Mo_wellMade_300 rec9 rec158 x0 x2 x3 σ = some res) : Rn b sc d 40 300 lv [] (HH pre tl SHm B σ) Q := by
  obtain ⟨e0, rfl⟩ : ∃ e, d = e + 1 := ⟨d - 1, by omega⟩
  unfold F_Mo_wellMade_300 at hF
  refine r_iconst f_Mo_wellMade_300 (v := 0) (by decide) ?_
  exact w_Mo_wellMade_301 hB hd (hr9) (hr158) hQ _ (σ) (x0) (x2) (x3) (false) hx0 l0 l2 l3 hF
def F_Mo_wellMade_296 (rec9 : Nat → Bool → Int32 → SG → Option (Bool × SG)) (rec158 : Nat → Bool → Int32 → Int32 → SG → Option (Bool × SG)) (x0 : Nat) (x2 : Int32) (x3 : Int32) (σ : SG) : Option (Bool × SG) :=
  F_Mo_wellMade_301 (rec9) (rec158) (x0) (x2) (x3) (true) σ
set_option maxHeartbeats 4000000 in
theorem w_Mo_wellMade_296 {b d : Nat} {sc : SC} {pre tl : List PE} {B : Nat} {Q : Option Value → List PE → Prop} {res : Bool × SG} (hB : B = b + pre.length) (hd : 1 ≤ d) {rec9 : Nat → Bool → Int32 → SG → Option (Bool × SG)} {rec158 : Nat → Bool → Int32 → Int32 → SG → Option (Bool × SG)} (hr9 : ∀ (lv : LV) (σ : SG) (x0 : Nat) (x1 : Bool) (x2 : Int32), isC SHm (x0) 8 = true → lv.lookup 0 = some (.ref (B + (x0))) → lv.lookup 1 = some (.int (bz (x1))) → lv.lookup 2 = some (.int (x2)) →  rec9 x0 x1 x2 σ = some res → Rn b sc d 40 9 lv [] (HH pre tl SHm B σ) Q) (hr158 : ∀ (lv : LV) (σ : SG) (x0 : Nat) (x1 : Bool) (x2 : Int32) (x3 : Int32), isC SHm (x0) 8 = true → lv.lookup 0 = some (.ref (B + (x0))) → lv.lookup 1 = some (.int (bz (x1))) → lv.lookup 2 = some (.int (x2)) → lv.lookup 3 = some (.int (x3)) →  rec158 x0 x1 x2 x3 σ = some res → Rn b sc d 40 158 lv [] (HH pre tl SHm B σ) Q) (hQ : Q (some (.int (bz res.1))) (HH pre tl SHm B res.2)) (lv : LV) (σ : SG) (x0 : Nat) (x2 : Int32) (x3 : Int32) (hx0 : isC SHm (x0) 8 = true) (l0 : lv.lookup 0 = some (.ref (B + (x0)))) (l2 : lv.lookup 2 = some (.int (x2))) (l3 : lv.lookup 3 = some (.int (x3))) (hF : F_Mo_wellMade_296 rec9 rec158 x0 x2 x3 σ = some res) : Rn b sc d 40 296 lv [] (HH pre tl SHm B σ) Q := by
  obtain ⟨e0, rfl⟩ : ∃ e, d = e + 1 := ⟨d - 1, by omega⟩
  unfold F_Mo_wellMade_296 at hF
  refine r_iconst f_Mo_wellMade_296 (v := 1) (by decide) ?_
  refine r_goto f_Mo_wellMade_297 ?_
  exact w_Mo_wellMade_301 hB hd (hr9) (hr158) hQ _ (σ) (x0) (x2) (x3) (true) hx0 l0 l2 l3 hF
def F_Mo_wellMade_280 (rec9 : Nat → Bool → Int32 → SG → Option (Bool × SG)) (rec158 : Nat → Bool → Int32 → Int32 → SG → Option (Bool × SG)) (x0 : Nat) (x1 : Bool) (x2 : Int32) (x3 : Int32) (x4 : Bool) (y0 : Bool) (σ : SG) : Option (Bool × SG) :=
  if x1 = true then
  if x4 = true then
  F_Mo_wellMade_296 (rec9) (rec158) (x0) (x2) (x3) σ
  else if y0 = true then
  F_Mo_wellMade_296 (rec9) (rec158) (x0) (x2) (x3) σ
  else F_Mo_wellMade_300 (rec9) (rec158) (x0) (x2) (x3) σ
  else F_Mo_wellMade_300 (rec9) (rec158) (x0) (x2) (x3) σ
set_option maxHeartbeats 4000000 in
theorem w_Mo_wellMade_280 {b d : Nat} {sc : SC} {pre tl : List PE} {B : Nat} {Q : Option Value → List PE → Prop} {res : Bool × SG} (hB : B = b + pre.length) (hd : 1 ≤ d) {rec9 : Nat → Bool → Int32 → SG → Option (Bool × SG)} {rec158 : Nat → Bool → Int32 → Int32 → SG → Option (Bool × SG)} (hr9 : ∀ (lv : LV) (σ : SG) (x0 : Nat) (x1 : Bool) (x2 : Int32), isC SHm (x0) 8 = true → lv.lookup 0 = some (.ref (B + (x0))) → lv.lookup 1 = some (.int (bz (x1))) → lv.lookup 2 = some (.int (x2)) →  rec9 x0 x1 x2 σ = some res → Rn b sc d 40 9 lv [] (HH pre tl SHm B σ) Q) (hr158 : ∀ (lv : LV) (σ : SG) (x0 : Nat) (x1 : Bool) (x2 : Int32) (x3 : Int32), isC SHm (x0) 8 = true → lv.lookup 0 = some (.ref (B + (x0))) → lv.lookup 1 = some (.int (bz (x1))) → lv.lookup 2 = some (.int (x2)) → lv.lookup 3 = some (.int (x3)) →  rec158 x0 x1 x2 x3 σ = some res → Rn b sc d 40 158 lv [] (HH pre tl SHm B σ) Q) (hQ : Q (some (.int (bz res.1))) (HH pre tl SHm B res.2)) (lv : LV) (σ : SG) (x0 : Nat) (x1 : Bool) (x2 : Int32) (x3 : Int32) (x4 : Bool) (y0 : Bool) (hx0 : isC SHm (x0) 8 = true) (l0 : lv.lookup 0 = some (.ref (B + (x0)))) (l1 : lv.lookup 1 = some (.int (bz (x1)))) (l2 : lv.lookup 2 = some (.int (x2))) (l3 : lv.lookup 3 = some (.int (x3))) (l4 : lv.lookup 4 = some (.int (bz (x4)))) (hF : F_Mo_wellMade_280 rec9 rec158 x0 x1 x2 x3 x4 y0 σ = some res) : Rn b sc d 40 280 lv [.int (bz (y0))] (HH pre tl SHm B σ) Q := by
  obtain ⟨e0, rfl⟩ : ∃ e, d = e + 1 := ⟨d - 1, by omega⟩
  unfold F_Mo_wellMade_280 at hF
  refine r_istore f_Mo_wellMade_280 ?_
  refine r_iload_n f_Mo_wellMade_282 (lk_put_ne l1 (by decide) (Or.inl rfl)) ?_
  refine r_if_eq f_Mo_wellMade_283 (fun c1 => ?_) (fun c1 => ?_)
  · rw [if_neg (bz_nt c1)] at hF
    exact w_Mo_wellMade_300 hB hd (hr9) (hr158) hQ _ (σ) (x0) (x2) (x3) hx0 (lk_put_ne l0 (by decide) (Or.inl rfl)) (lk_put_ne l2 (by decide) (Or.inl rfl)) (lk_put_ne l3 (by decide) (Or.inl rfl)) hF
  · rw [if_pos (bz_t c1)] at hF
    refine r_iload f_Mo_wellMade_286 (lk_put_ne l4 (by decide) (Or.inl rfl)) ?_
    refine r_if_ne f_Mo_wellMade_288 (fun c2 => ?_) (fun c2 => ?_)
    · rw [if_pos (bz_t c2)] at hF
      exact w_Mo_wellMade_296 hB hd (hr9) (hr158) hQ _ (σ) (x0) (x2) (x3) hx0 (lk_put_ne l0 (by decide) (Or.inl rfl)) (lk_put_ne l2 (by decide) (Or.inl rfl)) (lk_put_ne l3 (by decide) (Or.inl rfl)) hF
    · rw [if_neg (bz_nt (Decidable.not_not.mp c2))] at hF
      refine r_iload f_Mo_wellMade_291 lk_put ?_
      refine r_if_eq f_Mo_wellMade_293 (fun c3 => ?_) (fun c3 => ?_)
      · rw [if_neg (bz_nt c3)] at hF
        exact w_Mo_wellMade_300 hB hd (hr9) (hr158) hQ _ (σ) (x0) (x2) (x3) hx0 (lk_put_ne l0 (by decide) (Or.inl rfl)) (lk_put_ne l2 (by decide) (Or.inl rfl)) (lk_put_ne l3 (by decide) (Or.inl rfl)) hF
      · rw [if_pos (bz_t c3)] at hF
        exact w_Mo_wellMade_296 hB hd (hr9) (hr158) hQ _ (σ) (x0) (x2) (x3) hx0 (lk_put_ne l0 (by decide) (Or.inl rfl)) (lk_put_ne l2 (by decide) (Or.inl rfl)) (lk_put_ne l3 (by decide) (Or.inl rfl)) hF
def F_Mo_wellMade_279 (rec9 : Nat → Bool → Int32 → SG → Option (Bool × SG)) (rec158 : Nat → Bool → Int32 → Int32 → SG → Option (Bool × SG)) (x0 : Nat) (x1 : Bool) (x2 : Int32) (x3 : Int32) (x4 : Bool) (σ : SG) : Option (Bool × SG) :=
  F_Mo_wellMade_280 (rec9) (rec158) (x0) (x1) (x2) (x3) (x4) (false) σ
set_option maxHeartbeats 4000000 in
theorem w_Mo_wellMade_279 {b d : Nat} {sc : SC} {pre tl : List PE} {B : Nat} {Q : Option Value → List PE → Prop} {res : Bool × SG} (hB : B = b + pre.length) (hd : 1 ≤ d) {rec9 : Nat → Bool → Int32 → SG → Option (Bool × SG)} {rec158 : Nat → Bool → Int32 → Int32 → SG → Option (Bool × SG)} (hr9 : ∀ (lv : LV) (σ : SG) (x0 : Nat) (x1 : Bool) (x2 : Int32), isC SHm (x0) 8 = true → lv.lookup 0 = some (.ref (B + (x0))) → lv.lookup 1 = some (.int (bz (x1))) → lv.lookup 2 = some (.int (x2)) →  rec9 x0 x1 x2 σ = some res → Rn b sc d 40 9 lv [] (HH pre tl SHm B σ) Q) (hr158 : ∀ (lv : LV) (σ : SG) (x0 : Nat) (x1 : Bool) (x2 : Int32) (x3 : Int32), isC SHm (x0) 8 = true → lv.lookup 0 = some (.ref (B + (x0))) → lv.lookup 1 = some (.int (bz (x1))) → lv.lookup 2 = some (.int (x2)) → lv.lookup 3 = some (.int (x3)) →  rec158 x0 x1 x2 x3 σ = some res → Rn b sc d 40 158 lv [] (HH pre tl SHm B σ) Q) (hQ : Q (some (.int (bz res.1))) (HH pre tl SHm B res.2)) (lv : LV) (σ : SG) (x0 : Nat) (x1 : Bool) (x2 : Int32) (x3 : Int32) (x4 : Bool) (hx0 : isC SHm (x0) 8 = true) (l0 : lv.lookup 0 = some (.ref (B + (x0)))) (l1 : lv.lookup 1 = some (.int (bz (x1)))) (l2 : lv.lookup 2 = some (.int (x2))) (l3 : lv.lookup 3 = some (.int (x3))) (l4 : lv.lookup 4 = some (.int (bz (x4)))) (hF : F_Mo_wellMade_279 rec9 rec158 x0 x1 x2 x3 x4 σ = some res) : Rn b sc d 40 279 lv [] (HH pre tl SHm B σ) Q := by
  obtain ⟨e0, rfl⟩ : ∃ e, d = e + 1 := ⟨d - 1, by omega⟩
  unfold F_Mo_wellMade_279 at hF
  refine r_iconst f_Mo_wellMade_279 (v := 0) (by decide) ?_
  exact w_Mo_wellMade_280 hB hd (hr9) (hr158) hQ _ (σ) (x0) (x1) (x2) (x3) (x4) (false) hx0 l0 l1 l2 l3 l4 hF
def F_Mo_wellMade_275 (rec9 : Nat → Bool → Int32 → SG → Option (Bool × SG)) (rec158 : Nat → Bool → Int32 → Int32 → SG → Option (Bool × SG)) (x0 : Nat) (x1 : Bool) (x2 : Int32) (x3 : Int32) (x4 : Bool) (σ : SG) : Option (Bool × SG) :=
  F_Mo_wellMade_280 (rec9) (rec158) (x0) (x1) (x2) (x3) (x4) (true) σ
set_option maxHeartbeats 4000000 in
theorem w_Mo_wellMade_275 {b d : Nat} {sc : SC} {pre tl : List PE} {B : Nat} {Q : Option Value → List PE → Prop} {res : Bool × SG} (hB : B = b + pre.length) (hd : 1 ≤ d) {rec9 : Nat → Bool → Int32 → SG → Option (Bool × SG)} {rec158 : Nat → Bool → Int32 → Int32 → SG → Option (Bool × SG)} (hr9 : ∀ (lv : LV) (σ : SG) (x0 : Nat) (x1 : Bool) (x2 : Int32), isC SHm (x0) 8 = true → lv.lookup 0 = some (.ref (B + (x0))) → lv.lookup 1 = some (.int (bz (x1))) → lv.lookup 2 = some (.int (x2)) →  rec9 x0 x1 x2 σ = some res → Rn b sc d 40 9 lv [] (HH pre tl SHm B σ) Q) (hr158 : ∀ (lv : LV) (σ : SG) (x0 : Nat) (x1 : Bool) (x2 : Int32) (x3 : Int32), isC SHm (x0) 8 = true → lv.lookup 0 = some (.ref (B + (x0))) → lv.lookup 1 = some (.int (bz (x1))) → lv.lookup 2 = some (.int (x2)) → lv.lookup 3 = some (.int (x3)) →  rec158 x0 x1 x2 x3 σ = some res → Rn b sc d 40 158 lv [] (HH pre tl SHm B σ) Q) (hQ : Q (some (.int (bz res.1))) (HH pre tl SHm B res.2)) (lv : LV) (σ : SG) (x0 : Nat) (x1 : Bool) (x2 : Int32) (x3 : Int32) (x4 : Bool) (hx0 : isC SHm (x0) 8 = true) (l0 : lv.lookup 0 = some (.ref (B + (x0)))) (l1 : lv.lookup 1 = some (.int (bz (x1)))) (l2 : lv.lookup 2 = some (.int (x2))) (l3 : lv.lookup 3 = some (.int (x3))) (l4 : lv.lookup 4 = some (.int (bz (x4)))) (hF : F_Mo_wellMade_275 rec9 rec158 x0 x1 x2 x3 x4 σ = some res) : Rn b sc d 40 275 lv [] (HH pre tl SHm B σ) Q := by
  obtain ⟨e0, rfl⟩ : ∃ e, d = e + 1 := ⟨d - 1, by omega⟩
  unfold F_Mo_wellMade_275 at hF
  refine r_iconst f_Mo_wellMade_275 (v := 1) (by decide) ?_
  refine r_goto f_Mo_wellMade_276 ?_
  exact w_Mo_wellMade_280 hB hd (hr9) (hr158) hQ _ (σ) (x0) (x1) (x2) (x3) (x4) (true) hx0 l0 l1 l2 l3 l4 hF
def F_Mo_wellMade_245 (rec9 : Nat → Bool → Int32 → SG → Option (Bool × SG)) (rec158 : Nat → Bool → Int32 → Int32 → SG → Option (Bool × SG)) (x0 : Nat) (x1 : Bool) (x2 : Int32) (x3 : Int32) (x4 : Bool) (σ : SG) : Option (Bool × SG) :=
  if x2 < 0 ∨ 18 ≤ (x2).toNatClampNeg then none else
  if x3 < 0 ∨ 18 ≤ (x3).toNatClampNeg then none else
  if (σ.2.2.2.1 ((cref SHm (x0) 14)) ((x2).toNatClampNeg)) < (σ.2.2.2.1 ((cref SHm (x0) 15)) ((x3).toNatClampNeg)) then
  F_Mo_wellMade_279 (rec9) (rec158) (x0) (x1) (x2) (x3) (x4) σ
  else if x2 < 0 ∨ 18 ≤ (x2).toNatClampNeg then none else
  if x3 < 0 ∨ 18 ≤ (x3).toNatClampNeg then none else
  if (σ.2.2.2.1 ((cref SHm (x0) 16)) ((x3).toNatClampNeg)) < (σ.2.2.2.1 ((cref SHm (x0) 16)) ((x2).toNatClampNeg)) then
  F_Mo_wellMade_279 (rec9) (rec158) (x0) (x1) (x2) (x3) (x4) σ
  else F_Mo_wellMade_275 (rec9) (rec158) (x0) (x1) (x2) (x3) (x4) σ
set_option maxHeartbeats 4000000 in
theorem w_Mo_wellMade_245 {b d : Nat} {sc : SC} {pre tl : List PE} {B : Nat} {Q : Option Value → List PE → Prop} {res : Bool × SG} (hB : B = b + pre.length) (hd : 1 ≤ d) {rec9 : Nat → Bool → Int32 → SG → Option (Bool × SG)} {rec158 : Nat → Bool → Int32 → Int32 → SG → Option (Bool × SG)} (hr9 : ∀ (lv : LV) (σ : SG) (x0 : Nat) (x1 : Bool) (x2 : Int32), isC SHm (x0) 8 = true → lv.lookup 0 = some (.ref (B + (x0))) → lv.lookup 1 = some (.int (bz (x1))) → lv.lookup 2 = some (.int (x2)) →  rec9 x0 x1 x2 σ = some res → Rn b sc d 40 9 lv [] (HH pre tl SHm B σ) Q) (hr158 : ∀ (lv : LV) (σ : SG) (x0 : Nat) (x1 : Bool) (x2 : Int32) (x3 : Int32), isC SHm (x0) 8 = true → lv.lookup 0 = some (.ref (B + (x0))) → lv.lookup 1 = some (.int (bz (x1))) → lv.lookup 2 = some (.int (x2)) → lv.lookup 3 = some (.int (x3)) →  rec158 x0 x1 x2 x3 σ = some res → Rn b sc d 40 158 lv [] (HH pre tl SHm B σ) Q) (hQ : Q (some (.int (bz res.1))) (HH pre tl SHm B res.2)) (lv : LV) (σ : SG) (x0 : Nat) (x1 : Bool) (x2 : Int32) (x3 : Int32) (x4 : Bool) (hx0 : isC SHm (x0) 8 = true) (l0 : lv.lookup 0 = some (.ref (B + (x0)))) (l1 : lv.lookup 1 = some (.int (bz (x1)))) (l2 : lv.lookup 2 = some (.int (x2))) (l3 : lv.lookup 3 = some (.int (x3))) (l4 : lv.lookup 4 = some (.int (bz (x4)))) (hF : F_Mo_wellMade_245 rec9 rec158 x0 x1 x2 x3 x4 σ = some res) : Rn b sc d 40 245 lv [] (HH pre tl SHm B σ) Q := by
  obtain ⟨e0, rfl⟩ : ∃ e, d = e + 1 := ⟨d - 1, by omega⟩
  unfold F_Mo_wellMade_245 at hF
  refine r_aload_n f_Mo_wellMade_245 l0 ?_
  refine t_getc hB hx0 f_Mo_wellMade_246 rfl ?_
  refine r_iload_n f_Mo_wellMade_249 l2 ?_
  by_cases c4 : x2 < 0 ∨ 18 ≤ (x2).toNatClampNeg
  · rw [if_pos c4] at hF; cases hF
  rw [if_neg c4] at hF
  refine t_iald hB (cc_8_14 hx0) f_Mo_wellMade_250 c4 ?_
  refine r_aload_n f_Mo_wellMade_251 l0 ?_
  refine t_getc hB hx0 f_Mo_wellMade_252 rfl ?_
  refine r_iload_n f_Mo_wellMade_255 l3 ?_
  by_cases c5 : x3 < 0 ∨ 18 ≤ (x3).toNatClampNeg
  · rw [if_pos c5] at hF; cases hF
  rw [if_neg c5] at hF
  refine t_iald hB (cc_8_15 hx0) f_Mo_wellMade_256 c5 ?_
  refine r_icmp_lt f_Mo_wellMade_257 (fun c6 => ?_) (fun c6 => ?_)
  · rw [if_pos c6] at hF
    exact w_Mo_wellMade_279 hB hd (hr9) (hr158) hQ _ (σ) (x0) (x1) (x2) (x3) (x4) hx0 l0 l1 l2 l3 l4 hF
  · rw [if_neg c6] at hF
    refine r_aload_n f_Mo_wellMade_260 l0 ?_
    refine t_getc hB hx0 f_Mo_wellMade_261 rfl ?_
    refine r_iload_n f_Mo_wellMade_264 l2 ?_
    by_cases c7 : x2 < 0 ∨ 18 ≤ (x2).toNatClampNeg
    · rw [if_pos c7] at hF; cases hF
    rw [if_neg c7] at hF
    refine t_iald hB (cc_8_16 hx0) f_Mo_wellMade_265 c7 ?_
    refine r_aload_n f_Mo_wellMade_266 l0 ?_
    refine t_getc hB hx0 f_Mo_wellMade_267 rfl ?_
    refine r_iload_n f_Mo_wellMade_270 l3 ?_
    by_cases c8 : x3 < 0 ∨ 18 ≤ (x3).toNatClampNeg
    · rw [if_pos c8] at hF; cases hF
    rw [if_neg c8] at hF
    refine t_iald hB (cc_8_16 hx0) f_Mo_wellMade_271 c8 ?_
    refine r_icmp_gt f_Mo_wellMade_272 (fun c9 => ?_) (fun c9 => ?_)
    · rw [if_pos c9] at hF
      exact w_Mo_wellMade_279 hB hd (hr9) (hr158) hQ _ (σ) (x0) (x1) (x2) (x3) (x4) hx0 l0 l1 l2 l3 l4 hF
    · rw [if_neg c9] at hF
      exact w_Mo_wellMade_275 hB hd (hr9) (hr158) hQ _ (σ) (x0) (x1) (x2) (x3) (x4) hx0 l0 l1 l2 l3 l4 hF
def F_Mo_wellMade_213 (rec9 : Nat → Bool → Int32 → SG → Option (Bool × SG)) (rec158 : Nat → Bool → Int32 → Int32 → SG → Option (Bool × SG)) (x0 : Nat) (x1 : Bool) (x2 : Int32) (x3 : Int32) (y0 : Bool) (σ : SG) : Option (Bool × SG) :=
  if x2 < 0 ∨ 18 ≤ (x2).toNatClampNeg then none else
  if x3 < 0 ∨ 18 ≤ (x3).toNatClampNeg then none else
  if (σ.2.2.2.1 ((cref SHm (x0) 14)) ((x2).toNatClampNeg)) < (σ.2.2.2.1 ((cref SHm (x0) 14)) ((x3).toNatClampNeg)) then
  F_Mo_wellMade_245 (rec9) (rec158) (x0) (x1) (x2) (x3) (y0) σ
  else if x2 < 0 ∨ 18 ≤ (x2).toNatClampNeg then none else
  if x3 < 0 ∨ 18 ≤ (x3).toNatClampNeg then none else
  if (σ.2.2.2.1 ((cref SHm (x0) 16)) ((x2).toNatClampNeg)) ≤ (σ.2.2.2.1 ((cref SHm (x0) 15)) ((x3).toNatClampNeg)) then
  F_Mo_wellMade_275 (rec9) (rec158) (x0) (x1) (x2) (x3) (y0) σ
  else F_Mo_wellMade_245 (rec9) (rec158) (x0) (x1) (x2) (x3) (y0) σ
set_option maxHeartbeats 4000000 in
theorem w_Mo_wellMade_213 {b d : Nat} {sc : SC} {pre tl : List PE} {B : Nat} {Q : Option Value → List PE → Prop} {res : Bool × SG} (hB : B = b + pre.length) (hd : 1 ≤ d) {rec9 : Nat → Bool → Int32 → SG → Option (Bool × SG)} {rec158 : Nat → Bool → Int32 → Int32 → SG → Option (Bool × SG)} (hr9 : ∀ (lv : LV) (σ : SG) (x0 : Nat) (x1 : Bool) (x2 : Int32), isC SHm (x0) 8 = true → lv.lookup 0 = some (.ref (B + (x0))) → lv.lookup 1 = some (.int (bz (x1))) → lv.lookup 2 = some (.int (x2)) →  rec9 x0 x1 x2 σ = some res → Rn b sc d 40 9 lv [] (HH pre tl SHm B σ) Q) (hr158 : ∀ (lv : LV) (σ : SG) (x0 : Nat) (x1 : Bool) (x2 : Int32) (x3 : Int32), isC SHm (x0) 8 = true → lv.lookup 0 = some (.ref (B + (x0))) → lv.lookup 1 = some (.int (bz (x1))) → lv.lookup 2 = some (.int (x2)) → lv.lookup 3 = some (.int (x3)) →  rec158 x0 x1 x2 x3 σ = some res → Rn b sc d 40 158 lv [] (HH pre tl SHm B σ) Q) (hQ : Q (some (.int (bz res.1))) (HH pre tl SHm B res.2)) (lv : LV) (σ : SG) (x0 : Nat) (x1 : Bool) (x2 : Int32) (x3 : Int32) (y0 : Bool) (hx0 : isC SHm (x0) 8 = true) (l0 : lv.lookup 0 = some (.ref (B + (x0)))) (l1 : lv.lookup 1 = some (.int (bz (x1)))) (l2 : lv.lookup 2 = some (.int (x2))) (l3 : lv.lookup 3 = some (.int (x3))) (hF : F_Mo_wellMade_213 rec9 rec158 x0 x1 x2 x3 y0 σ = some res) : Rn b sc d 40 213 lv [.int (bz (y0))] (HH pre tl SHm B σ) Q := by
  obtain ⟨e0, rfl⟩ : ∃ e, d = e + 1 := ⟨d - 1, by omega⟩
  unfold F_Mo_wellMade_213 at hF
  refine r_istore f_Mo_wellMade_213 ?_
  refine r_aload_n f_Mo_wellMade_215 (lk_put_ne l0 (by decide) (Or.inl rfl)) ?_
  refine t_getc hB hx0 f_Mo_wellMade_216 rfl ?_
  refine r_iload_n f_Mo_wellMade_219 (lk_put_ne l2 (by decide) (Or.inl rfl)) ?_
  by_cases c10 : x2 < 0 ∨ 18 ≤ (x2).toNatClampNeg
  · rw [if_pos c10] at hF; cases hF
  rw [if_neg c10] at hF
  refine t_iald hB (cc_8_14 hx0) f_Mo_wellMade_220 c10 ?_
  refine r_aload_n f_Mo_wellMade_221 (lk_put_ne l0 (by decide) (Or.inl rfl)) ?_
  refine t_getc hB hx0 f_Mo_wellMade_222 rfl ?_
  refine r_iload_n f_Mo_wellMade_225 (lk_put_ne l3 (by decide) (Or.inl rfl)) ?_
  by_cases c11 : x3 < 0 ∨ 18 ≤ (x3).toNatClampNeg
  · rw [if_pos c11] at hF; cases hF
  rw [if_neg c11] at hF
  refine t_iald hB (cc_8_14 hx0) f_Mo_wellMade_226 c11 ?_
  refine r_icmp_lt f_Mo_wellMade_227 (fun c12 => ?_) (fun c12 => ?_)
  · rw [if_pos c12] at hF
    exact w_Mo_wellMade_245 hB hd (hr9) (hr158) hQ _ (σ) (x0) (x1) (x2) (x3) (y0) hx0 (lk_put_ne l0 (by decide) (Or.inl rfl)) (lk_put_ne l1 (by decide) (Or.inl rfl)) (lk_put_ne l2 (by decide) (Or.inl rfl)) (lk_put_ne l3 (by decide) (Or.inl rfl)) lk_put hF
  · rw [if_neg c12] at hF
    refine r_aload_n f_Mo_wellMade_230 (lk_put_ne l0 (by decide) (Or.inl rfl)) ?_
    refine t_getc hB hx0 f_Mo_wellMade_231 rfl ?_
    refine r_iload_n f_Mo_wellMade_234 (lk_put_ne l2 (by decide) (Or.inl rfl)) ?_
    by_cases c13 : x2 < 0 ∨ 18 ≤ (x2).toNatClampNeg
    · rw [if_pos c13] at hF; cases hF
    rw [if_neg c13] at hF
    refine t_iald hB (cc_8_16 hx0) f_Mo_wellMade_235 c13 ?_
    refine r_aload_n f_Mo_wellMade_236 (lk_put_ne l0 (by decide) (Or.inl rfl)) ?_
    refine t_getc hB hx0 f_Mo_wellMade_237 rfl ?_
    refine r_iload_n f_Mo_wellMade_240 (lk_put_ne l3 (by decide) (Or.inl rfl)) ?_
    by_cases c14 : x3 < 0 ∨ 18 ≤ (x3).toNatClampNeg
    · rw [if_pos c14] at hF; cases hF
    rw [if_neg c14] at hF
    refine t_iald hB (cc_8_15 hx0) f_Mo_wellMade_241 c14 ?_
    refine r_icmp_le f_Mo_wellMade_242 (fun c15 => ?_) (fun c15 => ?_)
    · rw [if_pos c15] at hF
      exact w_Mo_wellMade_275 hB hd (hr9) (hr158) hQ _ (σ) (x0) (x1) (x2) (x3) (y0) hx0 (lk_put_ne l0 (by decide) (Or.inl rfl)) (lk_put_ne l1 (by decide) (Or.inl rfl)) (lk_put_ne l2 (by decide) (Or.inl rfl)) (lk_put_ne l3 (by decide) (Or.inl rfl)) lk_put hF
    · rw [if_neg c15] at hF
      exact w_Mo_wellMade_245 hB hd (hr9) (hr158) hQ _ (σ) (x0) (x1) (x2) (x3) (y0) hx0 (lk_put_ne l0 (by decide) (Or.inl rfl)) (lk_put_ne l1 (by decide) (Or.inl rfl)) (lk_put_ne l2 (by decide) (Or.inl rfl)) (lk_put_ne l3 (by decide) (Or.inl rfl)) lk_put hF
def F_Mo_wellMade_208 (rec9 : Nat → Bool → Int32 → SG → Option (Bool × SG)) (rec158 : Nat → Bool → Int32 → Int32 → SG → Option (Bool × SG)) (x0 : Nat) (x1 : Bool) (x2 : Int32) (x3 : Int32) (σ : SG) : Option (Bool × SG) :=
  F_Mo_wellMade_213 (rec9) (rec158) (x0) (x1) (x2) (x3) (true) σ
set_option maxHeartbeats 4000000 in
theorem w_Mo_wellMade_208 {b d : Nat} {sc : SC} {pre tl : List PE} {B : Nat} {Q : Option Value → List PE → Prop} {res : Bool × SG} (hB : B = b + pre.length) (hd : 1 ≤ d) {rec9 : Nat → Bool → Int32 → SG → Option (Bool × SG)} {rec158 : Nat → Bool → Int32 → Int32 → SG → Option (Bool × SG)} (hr9 : ∀ (lv : LV) (σ : SG) (x0 : Nat) (x1 : Bool) (x2 : Int32), isC SHm (x0) 8 = true → lv.lookup 0 = some (.ref (B + (x0))) → lv.lookup 1 = some (.int (bz (x1))) → lv.lookup 2 = some (.int (x2)) →  rec9 x0 x1 x2 σ = some res → Rn b sc d 40 9 lv [] (HH pre tl SHm B σ) Q) (hr158 : ∀ (lv : LV) (σ : SG) (x0 : Nat) (x1 : Bool) (x2 : Int32) (x3 : Int32), isC SHm (x0) 8 = true → lv.lookup 0 = some (.ref (B + (x0))) → lv.lookup 1 = some (.int (bz (x1))) → lv.lookup 2 = some (.int (x2)) → lv.lookup 3 = some (.int (x3)) →  rec158 x0 x1 x2 x3 σ = some res → Rn b sc d 40 158 lv [] (HH pre tl SHm B σ) Q) (hQ : Q (some (.int (bz res.1))) (HH pre tl SHm B res.2)) (lv : LV) (σ : SG) (x0 : Nat) (x1 : Bool) (x2 : Int32) (x3 : Int32) (hx0 : isC SHm (x0) 8 = true) (l0 : lv.lookup 0 = some (.ref (B + (x0)))) (l1 : lv.lookup 1 = some (.int (bz (x1)))) (l2 : lv.lookup 2 = some (.int (x2))) (l3 : lv.lookup 3 = some (.int (x3))) (hF : F_Mo_wellMade_208 rec9 rec158 x0 x1 x2 x3 σ = some res) : Rn b sc d 40 208 lv [] (HH pre tl SHm B σ) Q := by
  obtain ⟨e0, rfl⟩ : ∃ e, d = e + 1 := ⟨d - 1, by omega⟩
  unfold F_Mo_wellMade_208 at hF
  refine r_iconst f_Mo_wellMade_208 (v := 1) (by decide) ?_
  refine r_goto f_Mo_wellMade_209 ?_
  exact w_Mo_wellMade_213 hB hd (hr9) (hr158) hQ _ (σ) (x0) (x1) (x2) (x3) (true) hx0 l0 l1 l2 l3 hF
def F_Mo_wellMade_158 (rec9 : Nat → Bool → Int32 → SG → Option (Bool × SG)) : Nat → Nat → Bool → Int32 → Int32 → SG → Option (Bool × SG)
  | 0, _, _, _, _, _ => none
  | n + 1, x0, x1, x2, x3, σ =>
  if (σ.1 (x0) 24) < 0 ∨ 6 ≤ ((σ.1 (x0) 24)).toNatClampNeg then none else
  if (((3 : Int32) * (σ.1 (x0) 24)) + (σ.2.2.2.1 ((cref SHm (x0) 13)) (((σ.1 (x0) 24)).toNatClampNeg))) ≤ x3 then
  rec9 (x0) (x1) ((x2 + 1)) σ
  else if x2 < 0 ∨ 18 ≤ (x2).toNatClampNeg then none else
  if x3 < 0 ∨ 18 ≤ (x3).toNatClampNeg then none else
  if (σ.2.2.2.1 ((cref SHm (x0) 16)) ((x2).toNatClampNeg)) ≤ (σ.2.2.2.1 ((cref SHm (x0) 14)) ((x3).toNatClampNeg)) then
  F_Mo_wellMade_208 (rec9) (F_Mo_wellMade_158 rec9 n) (x0) (x1) (x2) (x3) σ
  else if x3 < 0 ∨ 18 ≤ (x3).toNatClampNeg then none else
  if x2 < 0 ∨ 18 ≤ (x2).toNatClampNeg then none else
  if (σ.2.2.2.1 ((cref SHm (x0) 14)) ((x2).toNatClampNeg)) < (σ.2.2.2.1 ((cref SHm (x0) 16)) ((x3).toNatClampNeg)) then
  F_Mo_wellMade_213 (rec9) (F_Mo_wellMade_158 rec9 n) (x0) (x1) (x2) (x3) (false) σ
  else F_Mo_wellMade_208 (rec9) (F_Mo_wellMade_158 rec9 n) (x0) (x1) (x2) (x3) σ
set_option maxHeartbeats 4000000 in
theorem w_Mo_wellMade_158 {b d : Nat} {sc : SC} {pre tl : List PE} {B : Nat} {Q : Option Value → List PE → Prop} {res : Bool × SG} (hB : B = b + pre.length) (hd : 1 ≤ d) {rec9 : Nat → Bool → Int32 → SG → Option (Bool × SG)} (hr9 : ∀ (lv : LV) (σ : SG) (x0 : Nat) (x1 : Bool) (x2 : Int32), isC SHm (x0) 8 = true → lv.lookup 0 = some (.ref (B + (x0))) → lv.lookup 1 = some (.int (bz (x1))) → lv.lookup 2 = some (.int (x2)) →  rec9 x0 x1 x2 σ = some res → Rn b sc d 40 9 lv [] (HH pre tl SHm B σ) Q) (hQ : Q (some (.int (bz res.1))) (HH pre tl SHm B res.2)) : ∀ (n : Nat) (lv : LV) (σ : SG) (x0 : Nat) (x1 : Bool) (x2 : Int32) (x3 : Int32), isC SHm (x0) 8 = true → lv.lookup 0 = some (.ref (B + (x0))) → lv.lookup 1 = some (.int (bz (x1))) → lv.lookup 2 = some (.int (x2)) → lv.lookup 3 = some (.int (x3)) → F_Mo_wellMade_158 rec9 n x0 x1 x2 x3 σ = some res → Rn b sc d 40 158 lv [] (HH pre tl SHm B σ) Q := by
  obtain ⟨e0, rfl⟩ : ∃ e, d = e + 1 := ⟨d - 1, by omega⟩
  intro n
  induction n with
  | zero => intro lv σ x0 x1 x2 x3 hx0 l0 l1 l2 l3 hF; cases hF
  | succ n ih =>
    intro lv σ x0 x1 x2 x3 hx0 l0 l1 l2 l3 hF
    unfold F_Mo_wellMade_158 at hF
    refine r_iload_n f_Mo_wellMade_158 l3 ?_
    refine r_iconst f_Mo_wellMade_159 (v := 3) (by decide) ?_
    refine r_aload_n f_Mo_wellMade_160 l0 ?_
    refine t_geti hB hx0 f_Mo_wellMade_161 rfl ?_
    refine r_imul f_Mo_wellMade_164 ?_
    refine r_aload_n f_Mo_wellMade_165 l0 ?_
    refine t_getc hB hx0 f_Mo_wellMade_166 rfl ?_
    refine r_aload_n f_Mo_wellMade_169 l0 ?_
    refine t_geti hB hx0 f_Mo_wellMade_170 rfl ?_
    by_cases c16 : (σ.1 (x0) 24) < 0 ∨ 6 ≤ ((σ.1 (x0) 24)).toNatClampNeg
    · rw [if_pos c16] at hF; cases hF
    rw [if_neg c16] at hF
    refine t_iald hB (cc_8_13 hx0) f_Mo_wellMade_173 c16 ?_
    refine r_iadd f_Mo_wellMade_174 ?_
    refine r_icmp_ge f_Mo_wellMade_175 (fun c17 => ?_) (fun c17 => ?_)
    · rw [if_pos c17] at hF
      refine r_iinc f_Mo_wellMade_308 l2 (w := x2 + 1) rfl ?_
      refine r_goto f_Mo_wellMade_311 ?_
      exact hr9 _ (σ) (x0) (x1) ((x2 + 1)) hx0 (lk_put_ne l0 (by decide) (Or.inl rfl)) (lk_put_ne l1 (by decide) (Or.inl rfl)) lk_put hF
    · rw [if_neg c17] at hF
      refine r_aload_n f_Mo_wellMade_178 l0 ?_
      refine t_getc hB hx0 f_Mo_wellMade_179 rfl ?_
      refine r_iload_n f_Mo_wellMade_182 l2 ?_
      by_cases c18 : x2 < 0 ∨ 18 ≤ (x2).toNatClampNeg
      · rw [if_pos c18] at hF; cases hF
      rw [if_neg c18] at hF
      refine t_iald hB (cc_8_16 hx0) f_Mo_wellMade_183 c18 ?_
      refine r_aload_n f_Mo_wellMade_184 l0 ?_
      refine t_getc hB hx0 f_Mo_wellMade_185 rfl ?_
      refine r_iload_n f_Mo_wellMade_188 l3 ?_
      by_cases c19 : x3 < 0 ∨ 18 ≤ (x3).toNatClampNeg
      · rw [if_pos c19] at hF; cases hF
      rw [if_neg c19] at hF
      refine t_iald hB (cc_8_14 hx0) f_Mo_wellMade_189 c19 ?_
      refine r_icmp_le f_Mo_wellMade_190 (fun c20 => ?_) (fun c20 => ?_)
      · rw [if_pos c20] at hF
        exact w_Mo_wellMade_208 hB hd (hr9) (ih) hQ _ (σ) (x0) (x1) (x2) (x3) hx0 l0 l1 l2 l3 hF
      · rw [if_neg c20] at hF
        refine r_aload_n f_Mo_wellMade_193 l0 ?_
        refine t_getc hB hx0 f_Mo_wellMade_194 rfl ?_
        refine r_iload_n f_Mo_wellMade_197 l3 ?_
        by_cases c21 : x3 < 0 ∨ 18 ≤ (x3).toNatClampNeg
        · rw [if_pos c21] at hF; cases hF
        rw [if_neg c21] at hF
        refine t_iald hB (cc_8_16 hx0) f_Mo_wellMade_198 c21 ?_
        refine r_aload_n f_Mo_wellMade_199 l0 ?_
        refine t_getc hB hx0 f_Mo_wellMade_200 rfl ?_
        refine r_iload_n f_Mo_wellMade_203 l2 ?_
        by_cases c22 : x2 < 0 ∨ 18 ≤ (x2).toNatClampNeg
        · rw [if_pos c22] at hF; cases hF
        rw [if_neg c22] at hF
        refine t_iald hB (cc_8_14 hx0) f_Mo_wellMade_204 c22 ?_
        refine r_icmp_gt f_Mo_wellMade_205 (fun c23 => ?_) (fun c23 => ?_)
        · rw [if_pos c23] at hF
          refine r_iconst f_Mo_wellMade_212 (v := 0) (by decide) ?_
          exact w_Mo_wellMade_213 hB hd (hr9) (ih) hQ _ (σ) (x0) (x1) (x2) (x3) (false) hx0 l0 l1 l2 l3 hF
        · rw [if_neg c23] at hF
          exact w_Mo_wellMade_208 hB hd (hr9) (ih) hQ _ (σ) (x0) (x1) (x2) (x3) hx0 l0 l1 l2 l3 hF
def F_Mo_wellMade_153 (rec9 : Nat → Bool → Int32 → SG → Option (Bool × SG)) (x0 : Nat) (x2 : Int32) (y0 : Bool) (σ : SG) : Option (Bool × SG) :=
  F_Mo_wellMade_158 (rec9) 5000 (x0) (y0) (x2) ((x2 + (1 : Int32))) σ
set_option maxHeartbeats 4000000 in
theorem w_Mo_wellMade_153 {b d : Nat} {sc : SC} {pre tl : List PE} {B : Nat} {Q : Option Value → List PE → Prop} {res : Bool × SG} (hB : B = b + pre.length) (hd : 1 ≤ d) {rec9 : Nat → Bool → Int32 → SG → Option (Bool × SG)} (hr9 : ∀ (lv : LV) (σ : SG) (x0 : Nat) (x1 : Bool) (x2 : Int32), isC SHm (x0) 8 = true → lv.lookup 0 = some (.ref (B + (x0))) → lv.lookup 1 = some (.int (bz (x1))) → lv.lookup 2 = some (.int (x2)) →  rec9 x0 x1 x2 σ = some res → Rn b sc d 40 9 lv [] (HH pre tl SHm B σ) Q) (hQ : Q (some (.int (bz res.1))) (HH pre tl SHm B res.2)) (lv : LV) (σ : SG) (x0 : Nat) (x2 : Int32) (y0 : Bool) (hx0 : isC SHm (x0) 8 = true) (l0 : lv.lookup 0 = some (.ref (B + (x0)))) (l2 : lv.lookup 2 = some (.int (x2))) (hF : F_Mo_wellMade_153 rec9 x0 x2 y0 σ = some res) : Rn b sc d 40 153 lv [.int (bz (y0))] (HH pre tl SHm B σ) Q := by
  obtain ⟨e0, rfl⟩ : ∃ e, d = e + 1 := ⟨d - 1, by omega⟩
  unfold F_Mo_wellMade_153 at hF
  refine r_istore_n f_Mo_wellMade_153 ?_
  refine r_iload_n f_Mo_wellMade_154 (lk_put_ne l2 (by decide) (Or.inl rfl)) ?_
  refine r_iconst f_Mo_wellMade_155 (v := 1) (by decide) ?_
  refine r_iadd f_Mo_wellMade_156 ?_
  refine r_istore_n f_Mo_wellMade_157 ?_
  exact w_Mo_wellMade_158 hB hd (hr9) hQ 5000 _ (σ) (x0) (y0) (x2) ((x2 + (1 : Int32))) hx0 (lk_put_ne (lk_put_ne l0 (by decide) (Or.inl rfl)) (by decide) (Or.inl rfl)) (lk_put_ne lk_put (by decide) (Or.inl rfl)) (lk_put_ne (lk_put_ne l2 (by decide) (Or.inl rfl)) (by decide) (Or.inl rfl)) lk_put hF
def F_Mo_wellMade_152 (rec9 : Nat → Bool → Int32 → SG → Option (Bool × SG)) (x0 : Nat) (x2 : Int32) (σ : SG) : Option (Bool × SG) :=
  F_Mo_wellMade_153 (rec9) (x0) (x2) (false) σ
set_option maxHeartbeats 4000000 in
theorem w_Mo_wellMade_152 {b d : Nat} {sc : SC} {pre tl : List PE} {B : Nat} {Q : Option Value → List PE → Prop} {res : Bool × SG} (hB : B = b + pre.length) (hd : 1 ≤ d) {rec9 : Nat → Bool → Int32 → SG → Option (Bool × SG)} (hr9 : ∀ (lv : LV) (σ : SG) (x0 : Nat) (x1 : Bool) (x2 : Int32), isC SHm (x0) 8 = true → lv.lookup 0 = some (.ref (B + (x0))) → lv.lookup 1 = some (.int (bz (x1))) → lv.lookup 2 = some (.int (x2)) →  rec9 x0 x1 x2 σ = some res → Rn b sc d 40 9 lv [] (HH pre tl SHm B σ) Q) (hQ : Q (some (.int (bz res.1))) (HH pre tl SHm B res.2)) (lv : LV) (σ : SG) (x0 : Nat) (x2 : Int32) (hx0 : isC SHm (x0) 8 = true) (l0 : lv.lookup 0 = some (.ref (B + (x0)))) (l2 : lv.lookup 2 = some (.int (x2))) (hF : F_Mo_wellMade_152 rec9 x0 x2 σ = some res) : Rn b sc d 40 152 lv [] (HH pre tl SHm B σ) Q := by
  obtain ⟨e0, rfl⟩ : ∃ e, d = e + 1 := ⟨d - 1, by omega⟩
  unfold F_Mo_wellMade_152 at hF
  refine r_iconst f_Mo_wellMade_152 (v := 0) (by decide) ?_
  exact w_Mo_wellMade_153 hB hd (hr9) hQ _ (σ) (x0) (x2) (false) hx0 l0 l2 hF
def F_Mo_wellMade_148 (rec9 : Nat → Bool → Int32 → SG → Option (Bool × SG)) (x0 : Nat) (x2 : Int32) (σ : SG) : Option (Bool × SG) :=
  F_Mo_wellMade_153 (rec9) (x0) (x2) (true) σ
set_option maxHeartbeats 4000000 in
theorem w_Mo_wellMade_148 {b d : Nat} {sc : SC} {pre tl : List PE} {B : Nat} {Q : Option Value → List PE → Prop} {res : Bool × SG} (hB : B = b + pre.length) (hd : 1 ≤ d) {rec9 : Nat → Bool → Int32 → SG → Option (Bool × SG)} (hr9 : ∀ (lv : LV) (σ : SG) (x0 : Nat) (x1 : Bool) (x2 : Int32), isC SHm (x0) 8 = true → lv.lookup 0 = some (.ref (B + (x0))) → lv.lookup 1 = some (.int (bz (x1))) → lv.lookup 2 = some (.int (x2)) →  rec9 x0 x1 x2 σ = some res → Rn b sc d 40 9 lv [] (HH pre tl SHm B σ) Q) (hQ : Q (some (.int (bz res.1))) (HH pre tl SHm B res.2)) (lv : LV) (σ : SG) (x0 : Nat) (x2 : Int32) (hx0 : isC SHm (x0) 8 = true) (l0 : lv.lookup 0 = some (.ref (B + (x0)))) (l2 : lv.lookup 2 = some (.int (x2))) (hF : F_Mo_wellMade_148 rec9 x0 x2 σ = some res) : Rn b sc d 40 148 lv [] (HH pre tl SHm B σ) Q := by
  obtain ⟨e0, rfl⟩ : ∃ e, d = e + 1 := ⟨d - 1, by omega⟩
  unfold F_Mo_wellMade_148 at hF
  refine r_iconst f_Mo_wellMade_148 (v := 1) (by decide) ?_
  refine r_goto f_Mo_wellMade_149 ?_
  exact w_Mo_wellMade_153 hB hd (hr9) hQ _ (σ) (x0) (x2) (true) hx0 l0 l2 hF
def F_Mo_wellMade_86 (rec9 : Nat → Bool → Int32 → SG → Option (Bool × SG)) (x0 : Nat) (x2 : Int32) (y0 : Bool) (σ : SG) : Option (Bool × SG) :=
  if y0 = true then
  if x2 < 0 ∨ 18 ≤ (x2).toNatClampNeg then none else
  match F_Mo_isBeginning (x0) ((σ.2.2.2.1 ((cref SHm (x0) 14)) ((x2).toNatClampNeg))) σ with
  | none => none
  | some q26 =>
  if q26.1 = true then
  if x2 < 0 ∨ 18 ≤ (x2).toNatClampNeg then none else
  match F_Mo_isBeginning (x0) ((q26.2.2.2.2.1 ((cref SHm (x0) 15)) ((x2).toNatClampNeg))) q26.2 with
  | none => none
  | some q29 =>
  if q29.1 = true then
  if x2 < 0 ∨ 18 ≤ (x2).toNatClampNeg then none else
  if (q29.2.1 (x0) 24) < 0 ∨ 6 ≤ ((q29.2.1 (x0) 24)).toNatClampNeg then none else
  if (q29.2.2.2.2.1 ((cref SHm (x0) 16)) ((x2).toNatClampNeg)) = (q29.2.2.2.2.1 ((cref SHm (x0) 18)) (((q29.2.1 (x0) 24)).toNatClampNeg)) then
  F_Mo_wellMade_148 (rec9) (x0) (x2) q29.2
  else if x2 < 0 ∨ 18 ≤ (x2).toNatClampNeg then none else
  match F_Mo_isBeginning (x0) ((q29.2.2.2.2.1 ((cref SHm (x0) 16)) ((x2).toNatClampNeg))) q29.2 with
  | none => none
  | some q35 =>
  if q35.1 = true then
  F_Mo_wellMade_148 (rec9) (x0) (x2) q35.2
  else F_Mo_wellMade_152 (rec9) (x0) (x2) q35.2
  else F_Mo_wellMade_152 (rec9) (x0) (x2) q29.2
  else F_Mo_wellMade_152 (rec9) (x0) (x2) q26.2
  else F_Mo_wellMade_152 (rec9) (x0) (x2) σ
set_option maxHeartbeats 4000000 in
theorem w_Mo_wellMade_86 {b d : Nat} {sc : SC} {pre tl : List PE} {B : Nat} {Q : Option Value → List PE → Prop} {res : Bool × SG} (hB : B = b + pre.length) (hd : 1 ≤ d) {rec9 : Nat → Bool → Int32 → SG → Option (Bool × SG)} (hr9 : ∀ (lv : LV) (σ : SG) (x0 : Nat) (x1 : Bool) (x2 : Int32), isC SHm (x0) 8 = true → lv.lookup 0 = some (.ref (B + (x0))) → lv.lookup 1 = some (.int (bz (x1))) → lv.lookup 2 = some (.int (x2)) →  rec9 x0 x1 x2 σ = some res → Rn b sc d 40 9 lv [] (HH pre tl SHm B σ) Q) (hQ : Q (some (.int (bz res.1))) (HH pre tl SHm B res.2)) (lv : LV) (σ : SG) (x0 : Nat) (x2 : Int32) (y0 : Bool) (hx0 : isC SHm (x0) 8 = true) (l0 : lv.lookup 0 = some (.ref (B + (x0)))) (l2 : lv.lookup 2 = some (.int (x2))) (hF : F_Mo_wellMade_86 rec9 x0 x2 y0 σ = some res) : Rn b sc d 40 86 lv [.int (bz (y0))] (HH pre tl SHm B σ) Q := by
  obtain ⟨e0, rfl⟩ : ∃ e, d = e + 1 := ⟨d - 1, by omega⟩
  unfold F_Mo_wellMade_86 at hF
  refine r_istore_n f_Mo_wellMade_86 ?_
  refine r_iload_n f_Mo_wellMade_87 lk_put ?_
  refine r_if_eq f_Mo_wellMade_88 (fun c24 => ?_) (fun c24 => ?_)
  · rw [if_neg (bz_nt c24)] at hF
    exact w_Mo_wellMade_152 hB hd (hr9) hQ _ (σ) (x0) (x2) hx0 (lk_put_ne l0 (by decide) (Or.inl rfl)) (lk_put_ne l2 (by decide) (Or.inl rfl)) hF
  · rw [if_pos (bz_t c24)] at hF
    refine r_aload_n f_Mo_wellMade_91 (lk_put_ne l0 (by decide) (Or.inl rfl)) ?_
    refine r_aload_n f_Mo_wellMade_92 (lk_put_ne l0 (by decide) (Or.inl rfl)) ?_
    refine t_getc hB hx0 f_Mo_wellMade_93 rfl ?_
    refine r_iload_n f_Mo_wellMade_96 (lk_put_ne l2 (by decide) (Or.inl rfl)) ?_
    by_cases c25 : x2 < 0 ∨ 18 ≤ (x2).toNatClampNeg
    · rw [if_pos c25] at hF; cases hF
    rw [if_neg c25] at hF
    refine t_iald hB (cc_8_14 hx0) f_Mo_wellMade_97 c25 ?_
    cases hq26 : F_Mo_isBeginning (x0) ((σ.2.2.2.1 ((cref SHm (x0) 14)) ((x2).toNatClampNeg))) σ with
    | none => simp only [hq26] at hF; cases hF
    | some q26 =>
      simp only [hq26] at hF
      refine t_V1i hB hx0 rfl rfl f_Mo_wellMade_98 (by decide) (Nat.le_of_ble_eq_true rfl) (Nat.le_of_ble_eq_true rfl) (w_Mo_isBeginning hB  (x0) ((σ.2.2.2.1 ((cref SHm (x0) 14)) ((x2).toNatClampNeg))) hx0 hq26 ⟨_, rfl, ?_⟩)
      refine r_if_eq f_Mo_wellMade_101 (fun c27 => ?_) (fun c27 => ?_)
      · rw [if_neg (bz_nt c27)] at hF
        exact w_Mo_wellMade_152 hB hd (hr9) hQ _ (q26.2) (x0) (x2) hx0 (lk_put_ne l0 (by decide) (Or.inl rfl)) (lk_put_ne l2 (by decide) (Or.inl rfl)) hF
      · rw [if_pos (bz_t c27)] at hF
        refine r_aload_n f_Mo_wellMade_104 (lk_put_ne l0 (by decide) (Or.inl rfl)) ?_
        refine r_aload_n f_Mo_wellMade_105 (lk_put_ne l0 (by decide) (Or.inl rfl)) ?_
        refine t_getc hB hx0 f_Mo_wellMade_106 rfl ?_
        refine r_iload_n f_Mo_wellMade_109 (lk_put_ne l2 (by decide) (Or.inl rfl)) ?_
        by_cases c28 : x2 < 0 ∨ 18 ≤ (x2).toNatClampNeg
        · rw [if_pos c28] at hF; cases hF
        rw [if_neg c28] at hF
        refine t_iald hB (cc_8_15 hx0) f_Mo_wellMade_110 c28 ?_
        cases hq29 : F_Mo_isBeginning (x0) ((q26.2.2.2.2.1 ((cref SHm (x0) 15)) ((x2).toNatClampNeg))) q26.2 with
        | none => simp only [hq29] at hF; cases hF
        | some q29 =>
          simp only [hq29] at hF
          refine t_V1i hB hx0 rfl rfl f_Mo_wellMade_111 (by decide) (Nat.le_of_ble_eq_true rfl) (Nat.le_of_ble_eq_true rfl) (w_Mo_isBeginning hB  (x0) ((q26.2.2.2.2.1 ((cref SHm (x0) 15)) ((x2).toNatClampNeg))) hx0 hq29 ⟨_, rfl, ?_⟩)
          refine r_if_eq f_Mo_wellMade_114 (fun c30 => ?_) (fun c30 => ?_)
          · rw [if_neg (bz_nt c30)] at hF
            exact w_Mo_wellMade_152 hB hd (hr9) hQ _ (q29.2) (x0) (x2) hx0 (lk_put_ne l0 (by decide) (Or.inl rfl)) (lk_put_ne l2 (by decide) (Or.inl rfl)) hF
          · rw [if_pos (bz_t c30)] at hF
            refine r_aload_n f_Mo_wellMade_117 (lk_put_ne l0 (by decide) (Or.inl rfl)) ?_
            refine t_getc hB hx0 f_Mo_wellMade_118 rfl ?_
            refine r_iload_n f_Mo_wellMade_121 (lk_put_ne l2 (by decide) (Or.inl rfl)) ?_
            by_cases c31 : x2 < 0 ∨ 18 ≤ (x2).toNatClampNeg
            · rw [if_pos c31] at hF; cases hF
            rw [if_neg c31] at hF
            refine t_iald hB (cc_8_16 hx0) f_Mo_wellMade_122 c31 ?_
            refine r_aload_n f_Mo_wellMade_123 (lk_put_ne l0 (by decide) (Or.inl rfl)) ?_
            refine t_getc hB hx0 f_Mo_wellMade_124 rfl ?_
            refine r_aload_n f_Mo_wellMade_127 (lk_put_ne l0 (by decide) (Or.inl rfl)) ?_
            refine t_geti hB hx0 f_Mo_wellMade_128 rfl ?_
            by_cases c32 : (q29.2.1 (x0) 24) < 0 ∨ 6 ≤ ((q29.2.1 (x0) 24)).toNatClampNeg
            · rw [if_pos c32] at hF; cases hF
            rw [if_neg c32] at hF
            refine t_iald hB (cc_8_18 hx0) f_Mo_wellMade_131 c32 ?_
            refine r_icmp_eq f_Mo_wellMade_132 (fun c33 => ?_) (fun c33 => ?_)
            · rw [if_pos c33] at hF
              exact w_Mo_wellMade_148 hB hd (hr9) hQ _ (q29.2) (x0) (x2) hx0 (lk_put_ne l0 (by decide) (Or.inl rfl)) (lk_put_ne l2 (by decide) (Or.inl rfl)) hF
            · rw [if_neg c33] at hF
              refine r_aload_n f_Mo_wellMade_135 (lk_put_ne l0 (by decide) (Or.inl rfl)) ?_
              refine r_aload_n f_Mo_wellMade_136 (lk_put_ne l0 (by decide) (Or.inl rfl)) ?_
              refine t_getc hB hx0 f_Mo_wellMade_137 rfl ?_
              refine r_iload_n f_Mo_wellMade_140 (lk_put_ne l2 (by decide) (Or.inl rfl)) ?_
              by_cases c34 : x2 < 0 ∨ 18 ≤ (x2).toNatClampNeg
              · rw [if_pos c34] at hF; cases hF
              rw [if_neg c34] at hF
              refine t_iald hB (cc_8_16 hx0) f_Mo_wellMade_141 c34 ?_
              cases hq35 : F_Mo_isBeginning (x0) ((q29.2.2.2.2.1 ((cref SHm (x0) 16)) ((x2).toNatClampNeg))) q29.2 with
              | none => simp only [hq35] at hF; cases hF
              | some q35 =>
                simp only [hq35] at hF
                refine t_V1i hB hx0 rfl rfl f_Mo_wellMade_142 (by decide) (Nat.le_of_ble_eq_true rfl) (Nat.le_of_ble_eq_true rfl) (w_Mo_isBeginning hB  (x0) ((q29.2.2.2.2.1 ((cref SHm (x0) 16)) ((x2).toNatClampNeg))) hx0 hq35 ⟨_, rfl, ?_⟩)
                refine r_if_eq f_Mo_wellMade_145 (fun c36 => ?_) (fun c36 => ?_)
                · rw [if_neg (bz_nt c36)] at hF
                  exact w_Mo_wellMade_152 hB hd (hr9) hQ _ (q35.2) (x0) (x2) hx0 (lk_put_ne l0 (by decide) (Or.inl rfl)) (lk_put_ne l2 (by decide) (Or.inl rfl)) hF
                · rw [if_pos (bz_t c36)] at hF
                  exact w_Mo_wellMade_148 hB hd (hr9) hQ _ (q35.2) (x0) (x2) hx0 (lk_put_ne l0 (by decide) (Or.inl rfl)) (lk_put_ne l2 (by decide) (Or.inl rfl)) hF
def F_Mo_wellMade_85 (rec9 : Nat → Bool → Int32 → SG → Option (Bool × SG)) (x0 : Nat) (x2 : Int32) (σ : SG) : Option (Bool × SG) :=
  F_Mo_wellMade_86 (rec9) (x0) (x2) (false) σ
set_option maxHeartbeats 4000000 in
theorem w_Mo_wellMade_85 {b d : Nat} {sc : SC} {pre tl : List PE} {B : Nat} {Q : Option Value → List PE → Prop} {res : Bool × SG} (hB : B = b + pre.length) (hd : 1 ≤ d) {rec9 : Nat → Bool → Int32 → SG → Option (Bool × SG)} (hr9 : ∀ (lv : LV) (σ : SG) (x0 : Nat) (x1 : Bool) (x2 : Int32), isC SHm (x0) 8 = true → lv.lookup 0 = some (.ref (B + (x0))) → lv.lookup 1 = some (.int (bz (x1))) → lv.lookup 2 = some (.int (x2)) →  rec9 x0 x1 x2 σ = some res → Rn b sc d 40 9 lv [] (HH pre tl SHm B σ) Q) (hQ : Q (some (.int (bz res.1))) (HH pre tl SHm B res.2)) (lv : LV) (σ : SG) (x0 : Nat) (x2 : Int32) (hx0 : isC SHm (x0) 8 = true) (l0 : lv.lookup 0 = some (.ref (B + (x0)))) (l2 : lv.lookup 2 = some (.int (x2))) (hF : F_Mo_wellMade_85 rec9 x0 x2 σ = some res) : Rn b sc d 40 85 lv [] (HH pre tl SHm B σ) Q := by
  obtain ⟨e0, rfl⟩ : ∃ e, d = e + 1 := ⟨d - 1, by omega⟩
  unfold F_Mo_wellMade_85 at hF
  refine r_iconst f_Mo_wellMade_85 (v := 0) (by decide) ?_
  exact w_Mo_wellMade_86 hB hd (hr9) hQ _ (σ) (x0) (x2) (false) hx0 l0 l2 hF
def F_Mo_wellMade_9  : Nat → Nat → Bool → Int32 → SG → Option (Bool × SG)
  | 0, _, _, _, _ => none
  | n + 1, x0, x1, x2, σ =>
  if (σ.1 (x0) 24) < 0 ∨ 6 ≤ ((σ.1 (x0) 24)).toNatClampNeg then none else
  if (((3 : Int32) * (σ.1 (x0) 24)) + (σ.2.2.2.1 ((cref SHm (x0) 13)) (((σ.1 (x0) 24)).toNatClampNeg))) ≤ x2 then
  some (x1, σ)
  else if x1 = true then
  if x2 < 0 ∨ 18 ≤ (x2).toNatClampNeg then none else
  if x2 < 0 ∨ 18 ≤ (x2).toNatClampNeg then none else
  if (σ.2.2.2.1 ((cref SHm (x0) 15)) ((x2).toNatClampNeg)) ≤ (σ.2.2.2.1 ((cref SHm (x0) 14)) ((x2).toNatClampNeg)) then
  F_Mo_wellMade_85 (F_Mo_wellMade_9  n) (x0) (x2) σ
  else if x2 < 0 ∨ 18 ≤ (x2).toNatClampNeg then none else
  if x2 < 0 ∨ 18 ≤ (x2).toNatClampNeg then none else
  if (σ.2.2.2.1 ((cref SHm (x0) 16)) ((x2).toNatClampNeg)) ≤ (σ.2.2.2.1 ((cref SHm (x0) 15)) ((x2).toNatClampNeg)) then
  F_Mo_wellMade_85 (F_Mo_wellMade_9  n) (x0) (x2) σ
  else if x2 < 0 ∨ 18 ≤ (x2).toNatClampNeg then none else
  if (σ.1 (x0) 24) < 0 ∨ 6 ≤ ((σ.1 (x0) 24)).toNatClampNeg then none else
  if (σ.2.2.2.1 ((cref SHm (x0) 18)) (((σ.1 (x0) 24)).toNatClampNeg)) < (σ.2.2.2.1 ((cref SHm (x0) 16)) ((x2).toNatClampNeg)) then
  F_Mo_wellMade_85 (F_Mo_wellMade_9  n) (x0) (x2) σ
  else F_Mo_wellMade_86 (F_Mo_wellMade_9  n) (x0) (x2) (true) σ
  else F_Mo_wellMade_85 (F_Mo_wellMade_9  n) (x0) (x2) σ
set_option maxHeartbeats 4000000 in
theorem w_Mo_wellMade_9 {b d : Nat} {sc : SC} {pre tl : List PE} {B : Nat} {Q : Option Value → List PE → Prop} {res : Bool × SG} (hB : B = b + pre.length) (hd : 1 ≤ d)   (hQ : Q (some (.int (bz res.1))) (HH pre tl SHm B res.2)) : ∀ (n : Nat) (lv : LV) (σ : SG) (x0 : Nat) (x1 : Bool) (x2 : Int32), isC SHm (x0) 8 = true → lv.lookup 0 = some (.ref (B + (x0))) → lv.lookup 1 = some (.int (bz (x1))) → lv.lookup 2 = some (.int (x2)) → F_Mo_wellMade_9  n x0 x1 x2 σ = some res → Rn b sc d 40 9 lv [] (HH pre tl SHm B σ) Q := by
  obtain ⟨e0, rfl⟩ : ∃ e, d = e + 1 := ⟨d - 1, by omega⟩
  intro n
  induction n with
  | zero => intro lv σ x0 x1 x2 hx0 l0 l1 l2 hF; cases hF
  | succ n ih =>
    intro lv σ x0 x1 x2 hx0 l0 l1 l2 hF
    unfold F_Mo_wellMade_9 at hF
    refine r_iload_n f_Mo_wellMade_9 l2 ?_
    refine r_iconst f_Mo_wellMade_10 (v := 3) (by decide) ?_
    refine r_aload_n f_Mo_wellMade_11 l0 ?_
    refine t_geti hB hx0 f_Mo_wellMade_12 rfl ?_
    refine r_imul f_Mo_wellMade_15 ?_
    refine r_aload_n f_Mo_wellMade_16 l0 ?_
    refine t_getc hB hx0 f_Mo_wellMade_17 rfl ?_
    refine r_aload_n f_Mo_wellMade_20 l0 ?_
    refine t_geti hB hx0 f_Mo_wellMade_21 rfl ?_
    by_cases c37 : (σ.1 (x0) 24) < 0 ∨ 6 ≤ ((σ.1 (x0) 24)).toNatClampNeg
    · rw [if_pos c37] at hF; cases hF
    rw [if_neg c37] at hF
    refine t_iald hB (cc_8_13 hx0) f_Mo_wellMade_24 c37 ?_
    refine r_iadd f_Mo_wellMade_25 ?_
    refine r_icmp_ge f_Mo_wellMade_26 (fun c38 => ?_) (fun c38 => ?_)
    · rw [if_pos c38] at hF
      refine r_iload_n f_Mo_wellMade_314 l1 ?_
      cases hF
      exact r_zreturn f_Mo_wellMade_315 (bz_or (x1)) hQ
    · rw [if_neg c38] at hF
      refine r_iload_n f_Mo_wellMade_29 l1 ?_
      refine r_if_eq f_Mo_wellMade_30 (fun c39 => ?_) (fun c39 => ?_)
      · rw [if_neg (bz_nt c39)] at hF
        exact w_Mo_wellMade_85 hB hd (ih) hQ _ (σ) (x0) (x2) hx0 l0 l2 hF
      · rw [if_pos (bz_t c39)] at hF
        refine r_aload_n f_Mo_wellMade_33 l0 ?_
        refine t_getc hB hx0 f_Mo_wellMade_34 rfl ?_
        refine r_iload_n f_Mo_wellMade_37 l2 ?_
        by_cases c40 : x2 < 0 ∨ 18 ≤ (x2).toNatClampNeg
        · rw [if_pos c40] at hF; cases hF
        rw [if_neg c40] at hF
        refine t_iald hB (cc_8_14 hx0) f_Mo_wellMade_38 c40 ?_
        refine r_aload_n f_Mo_wellMade_39 l0 ?_
        refine t_getc hB hx0 f_Mo_wellMade_40 rfl ?_
        refine r_iload_n f_Mo_wellMade_43 l2 ?_
        by_cases c41 : x2 < 0 ∨ 18 ≤ (x2).toNatClampNeg
        · rw [if_pos c41] at hF; cases hF
        rw [if_neg c41] at hF
        refine t_iald hB (cc_8_15 hx0) f_Mo_wellMade_44 c41 ?_
        refine r_icmp_ge f_Mo_wellMade_45 (fun c42 => ?_) (fun c42 => ?_)
        · rw [if_pos c42] at hF
          exact w_Mo_wellMade_85 hB hd (ih) hQ _ (σ) (x0) (x2) hx0 l0 l2 hF
        · rw [if_neg c42] at hF
          refine r_aload_n f_Mo_wellMade_48 l0 ?_
          refine t_getc hB hx0 f_Mo_wellMade_49 rfl ?_
          refine r_iload_n f_Mo_wellMade_52 l2 ?_
          by_cases c43 : x2 < 0 ∨ 18 ≤ (x2).toNatClampNeg
          · rw [if_pos c43] at hF; cases hF
          rw [if_neg c43] at hF
          refine t_iald hB (cc_8_15 hx0) f_Mo_wellMade_53 c43 ?_
          refine r_aload_n f_Mo_wellMade_54 l0 ?_
          refine t_getc hB hx0 f_Mo_wellMade_55 rfl ?_
          refine r_iload_n f_Mo_wellMade_58 l2 ?_
          by_cases c44 : x2 < 0 ∨ 18 ≤ (x2).toNatClampNeg
          · rw [if_pos c44] at hF; cases hF
          rw [if_neg c44] at hF
          refine t_iald hB (cc_8_16 hx0) f_Mo_wellMade_59 c44 ?_
          refine r_icmp_ge f_Mo_wellMade_60 (fun c45 => ?_) (fun c45 => ?_)
          · rw [if_pos c45] at hF
            exact w_Mo_wellMade_85 hB hd (ih) hQ _ (σ) (x0) (x2) hx0 l0 l2 hF
          · rw [if_neg c45] at hF
            refine r_aload_n f_Mo_wellMade_63 l0 ?_
            refine t_getc hB hx0 f_Mo_wellMade_64 rfl ?_
            refine r_iload_n f_Mo_wellMade_67 l2 ?_
            by_cases c46 : x2 < 0 ∨ 18 ≤ (x2).toNatClampNeg
            · rw [if_pos c46] at hF; cases hF
            rw [if_neg c46] at hF
            refine t_iald hB (cc_8_16 hx0) f_Mo_wellMade_68 c46 ?_
            refine r_aload_n f_Mo_wellMade_69 l0 ?_
            refine t_getc hB hx0 f_Mo_wellMade_70 rfl ?_
            refine r_aload_n f_Mo_wellMade_73 l0 ?_
            refine t_geti hB hx0 f_Mo_wellMade_74 rfl ?_
            by_cases c47 : (σ.1 (x0) 24) < 0 ∨ 6 ≤ ((σ.1 (x0) 24)).toNatClampNeg
            · rw [if_pos c47] at hF; cases hF
            rw [if_neg c47] at hF
            refine t_iald hB (cc_8_18 hx0) f_Mo_wellMade_77 c47 ?_
            refine r_icmp_gt f_Mo_wellMade_78 (fun c48 => ?_) (fun c48 => ?_)
            · rw [if_pos c48] at hF
              exact w_Mo_wellMade_85 hB hd (ih) hQ _ (σ) (x0) (x2) hx0 l0 l2 hF
            · rw [if_neg c48] at hF
              refine r_iconst f_Mo_wellMade_81 (v := 1) (by decide) ?_
              refine r_goto f_Mo_wellMade_82 ?_
              exact w_Mo_wellMade_86 hB hd (ih) hQ _ (σ) (x0) (x2) (true) hx0 l0 l2 hF
def F_Mo_wellMade (a0 : Nat) (σ : SG) : Option (Bool × SG) :=
  F_Mo_wellMade_9  5000 (a0) (true) (((3 : Int32) * (σ.1 (a0) 24))) σ
set_option maxHeartbeats 4000000 in
theorem w_Mo_wellMade {b d : Nat} {pre tl : List PE} {B : Nat} {Q : Option Value → List PE → Prop} {res : Bool × SG} (hB : B = b + pre.length) (hd : 1 ≤ d)  {σ : SG} (a0 : Nat) (ha0 : isC SHm (a0) 8 = true) (hF : F_Mo_wellMade a0 σ = some res) (hQ : Q (some (.int (bz res.1))) (HH pre tl SHm B res.2)) : Cl b d 40 [.ref (B + (a0))] (HH pre tl SHm B σ) Q := by
  obtain ⟨e0, rfl⟩ : ∃ e, d = e + 1 := ⟨d - 1, by omega⟩
  unfold Cl
  unfold F_Mo_wellMade at hF
  refine r_iconst f_Mo_wellMade_0 (v := 1) (by decide) ?_
  refine r_istore_n f_Mo_wellMade_1 ?_
  refine r_iconst f_Mo_wellMade_2 (v := 3) (by decide) ?_
  refine r_aload_n f_Mo_wellMade_3 (lk_put_ne rfl (by decide) (Or.inl rfl)) ?_
  refine t_geti hB ha0 f_Mo_wellMade_4 rfl ?_
  refine r_imul f_Mo_wellMade_7 ?_
  refine r_istore_n f_Mo_wellMade_8 ?_
  exact w_Mo_wellMade_9 hB hd  hQ 5000 _ (σ) (a0) (true) (((3 : Int32) * (σ.1 (a0) 24))) ha0 (lk_put_ne (lk_put_ne rfl (by decide) (Or.inl rfl)) (by decide) (Or.inl rfl)) (lk_put_ne lk_put (by decide) (Or.inl rfl)) lk_put hF
theorem f_Mo_meet_0 : fetch 42 0 = some (.aload_n 0, 1, 0, 0, 0) := rfl
theorem f_Mo_meet_1 : fetch 42 1 = some (.aload_n 0, 1, 0, 0, 0) := rfl
theorem f_Mo_meet_2 : fetch 42 2 = some (.getfield 181, 3, 8, 27, 66) := rfl
theorem f_Mo_meet_5 : fetch 42 5 = some (.ifCond .eq 21, 3, 26, 0, 0) := rfl
theorem f_Mo_meet_8 : fetch 42 8 = some (.aload_n 0, 1, 0, 0, 0) := rfl
theorem f_Mo_meet_9 : fetch 42 9 = some (.iload_n 1, 1, 0, 0, 0) := rfl
theorem f_Mo_meet_10 : fetch 42 10 = some (.invokevirtual 170, 3, 41, 1, 52) := rfl
theorem f_Mo_meet_13 : fetch 42 13 = some (.ifCond .eq 13, 3, 26, 0, 0) := rfl
theorem f_Mo_meet_16 : fetch 42 16 = some (.iload_n 2, 1, 0, 0, 0) := rfl
theorem f_Mo_meet_17 : fetch 42 17 = some (.bipush 8, 2, 0, 0, 0) := rfl
theorem f_Mo_meet_19 : fetch 42 19 = some (.if_icmp .gt 7, 3, 26, 0, 0) := rfl
theorem f_Mo_meet_22 : fetch 42 22 = some (.iconst 1, 1, 0, 0, 0) := rfl
theorem f_Mo_meet_23 : fetch 42 23 = some (.goto 4, 3, 27, 0, 0) := rfl
theorem f_Mo_meet_26 : fetch 42 26 = some (.iconst 0, 1, 0, 0, 0) := rfl
theorem f_Mo_meet_27 : fetch 42 27 = some (.putfield 181, 3, 8, 27, 66) := rfl
theorem f_Mo_meet_30 : fetch 42 30 = some (.aload_n 0, 1, 0, 0, 0) := rfl
theorem f_Mo_meet_31 : fetch 42 31 = some (.getfield 181, 3, 8, 27, 66) := rfl
theorem f_Mo_meet_34 : fetch 42 34 = some (.ifCond .ne 4, 3, 38, 0, 0) := rfl
theorem f_Mo_meet_37 : fetch 42 37 = some (.return_, 1, 0, 0, 0) := rfl
theorem f_Mo_meet_38 : fetch 42 38 = some (.bipush 100, 2, 0, 0, 0) := rfl
theorem f_Mo_meet_40 : fetch 42 40 = some (.aload_n 0, 1, 0, 0, 0) := rfl
theorem f_Mo_meet_41 : fetch 42 41 = some (.getfield 154, 3, 8, 24, 65) := rfl
theorem f_Mo_meet_44 : fetch 42 44 = some (.imul, 1, 0, 0, 0) := rfl
theorem f_Mo_meet_45 : fetch 42 45 = some (.iload_n 1, 1, 0, 0, 0) := rfl
theorem f_Mo_meet_46 : fetch 42 46 = some (.iadd, 1, 0, 0, 0) := rfl
theorem f_Mo_meet_47 : fetch 42 47 = some (.istore 5, 2, 0, 0, 0) := rfl
theorem f_Mo_meet_49 : fetch 42 49 = some (.aload_n 0, 1, 0, 0, 0) := rfl
theorem f_Mo_meet_50 : fetch 42 50 = some (.aload_n 0, 1, 0, 0, 0) := rfl
theorem f_Mo_meet_51 : fetch 42 51 = some (.getfield 59, 3, 8, 21, 43) := rfl
theorem f_Mo_meet_54 : fetch 42 54 = some (.iload 5, 2, 0, 0, 0) := rfl
theorem f_Mo_meet_56 : fetch 42 56 = some (.iaload, 1, 0, 0, 0) := rfl
theorem f_Mo_meet_57 : fetch 42 57 = some (.ifCond .lt 26, 3, 83, 0, 0) := rfl
theorem f_Mo_meet_60 : fetch 42 60 = some (.aload_n 0, 1, 0, 0, 0) := rfl
theorem f_Mo_meet_61 : fetch 42 61 = some (.getfield 59, 3, 8, 21, 43) := rfl
theorem f_Mo_meet_64 : fetch 42 64 = some (.iload 5, 2, 0, 0, 0) := rfl
theorem f_Mo_meet_66 : fetch 42 66 = some (.iaload, 1, 0, 0, 0) := rfl
theorem f_Mo_meet_67 : fetch 42 67 = some (.iload_n 2, 1, 0, 0, 0) := rfl
theorem f_Mo_meet_68 : fetch 42 68 = some (.if_icmp .ne 19, 3, 87, 0, 0) := rfl
theorem f_Mo_meet_71 : fetch 42 71 = some (.aload_n 0, 1, 0, 0, 0) := rfl
theorem f_Mo_meet_72 : fetch 42 72 = some (.getfield 62, 3, 8, 22, 44) := rfl
theorem f_Mo_meet_75 : fetch 42 75 = some (.iload 5, 2, 0, 0, 0) := rfl
theorem f_Mo_meet_77 : fetch 42 77 = some (.laload, 1, 0, 0, 0) := rfl
theorem f_Mo_meet_78 : fetch 42 78 = some (.lload_n 3, 1, 0, 0, 0) := rfl
theorem f_Mo_meet_79 : fetch 42 79 = some (.lcmp, 1, 0, 0, 0) := rfl
theorem f_Mo_meet_80 : fetch 42 80 = some (.ifCond .ne 7, 3, 87, 0, 0) := rfl
theorem f_Mo_meet_83 : fetch 42 83 = some (.iconst 1, 1, 0, 0, 0) := rfl
theorem f_Mo_meet_84 : fetch 42 84 = some (.goto 4, 3, 88, 0, 0) := rfl
theorem f_Mo_meet_87 : fetch 42 87 = some (.iconst 0, 1, 0, 0, 0) := rfl
theorem f_Mo_meet_88 : fetch 42 88 = some (.putfield 181, 3, 8, 27, 66) := rfl
theorem f_Mo_meet_91 : fetch 42 91 = some (.aload_n 0, 1, 0, 0, 0) := rfl
theorem f_Mo_meet_92 : fetch 42 92 = some (.getfield 59, 3, 8, 21, 43) := rfl
theorem f_Mo_meet_95 : fetch 42 95 = some (.iload 5, 2, 0, 0, 0) := rfl
theorem f_Mo_meet_97 : fetch 42 97 = some (.iload_n 2, 1, 0, 0, 0) := rfl
theorem f_Mo_meet_98 : fetch 42 98 = some (.iastore, 1, 0, 0, 0) := rfl
theorem f_Mo_meet_99 : fetch 42 99 = some (.aload_n 0, 1, 0, 0, 0) := rfl
theorem f_Mo_meet_100 : fetch 42 100 = some (.getfield 62, 3, 8, 22, 44) := rfl
theorem f_Mo_meet_103 : fetch 42 103 = some (.iload 5, 2, 0, 0, 0) := rfl
theorem f_Mo_meet_105 : fetch 42 105 = some (.lload_n 3, 1, 0, 0, 0) := rfl
theorem f_Mo_meet_106 : fetch 42 106 = some (.lastore, 1, 0, 0, 0) := rfl
theorem f_Mo_meet_107 : fetch 42 107 = some (.return_, 1, 0, 0, 0) := rfl
def F_Mo_meet_88  (x0 : Nat) (x2 : Int32) (x3 : Int64) (x5 : Int32) (y0 : Nat) (y1 : Bool) (σ : SG) : Option (SG) :=
  stl (setI σ (y0) 27 (bz (y1))) fun s1 =>
  if x5 < 0 ∨ 600 ≤ (x5).toNatClampNeg then none else
  stl (setA s1 ((cref SHm (x0) 21)) ((x5).toNatClampNeg) (x2)) fun s3 =>
  if x5 < 0 ∨ 600 ≤ (x5).toNatClampNeg then none else
  stl (setL s3 ((cref SHm (x0) 22)) ((x5).toNatClampNeg) (x3)) fun s5 =>
  some s5
set_option maxHeartbeats 4000000 in
theorem w_Mo_meet_88 {b d : Nat} {sc : SC} {pre tl : List PE} {B : Nat} {Q : Option Value → List PE → Prop} {res : SG} (hB : B = b + pre.length) (hd : 1 ≤ d)   (hQ : Q none (HH pre tl SHm B res)) (lv : LV) (σ : SG) (x0 : Nat) (x2 : Int32) (x3 : Int64) (x5 : Int32) (y0 : Nat) (y1 : Bool) (hx0 : isC SHm (x0) 8 = true) (hy0 : isC SHm (y0) 8 = true) (l0 : lv.lookup 0 = some (.ref (B + (x0)))) (l2 : lv.lookup 2 = some (.int (x2))) (l3 : lv.lookup 3 = some (.long (x3))) (l5 : lv.lookup 5 = some (.int (x5))) (hF : F_Mo_meet_88  x0 x2 x3 x5 y0 y1 σ = some res) : Rn b sc d 42 88 lv [.int (bz (y1)), .ref (B + (y0))] (HH pre tl SHm B σ) Q := by
  obtain ⟨e0, rfl⟩ : ∃ e, d = e + 1 := ⟨d - 1, by omega⟩
  unfold F_Mo_meet_88 at hF
  refine t_putz (v := y1) hB hy0 f_Mo_meet_88 rfl rfl ?_
  generalize hs1 : setI σ (y0) 27 (bz (y1)) = s1 at hF ⊢
  rw [stl_eq] at hF
  refine r_aload_n f_Mo_meet_91 l0 ?_
  refine t_getc hB hx0 f_Mo_meet_92 rfl ?_
  refine r_iload f_Mo_meet_95 l5 ?_
  refine r_iload_n f_Mo_meet_97 l2 ?_
  by_cases c2 : x5 < 0 ∨ 600 ≤ (x5).toNatClampNeg
  · rw [if_pos c2] at hF; cases hF
  rw [if_neg c2] at hF
  refine t_iast hB (cc_8_21 hx0) f_Mo_meet_98 c2 ?_
  generalize hs3 : setA s1 ((cref SHm (x0) 21)) ((x5).toNatClampNeg) (x2) = s3 at hF ⊢
  rw [stl_eq] at hF
  refine r_aload_n f_Mo_meet_99 l0 ?_
  refine t_getc hB hx0 f_Mo_meet_100 rfl ?_
  refine r_iload f_Mo_meet_103 l5 ?_
  refine r_lload_n f_Mo_meet_105 l3 ?_
  by_cases c4 : x5 < 0 ∨ 600 ≤ (x5).toNatClampNeg
  · rw [if_pos c4] at hF; cases hF
  rw [if_neg c4] at hF
  refine t_last hB (cc_8_22 hx0) f_Mo_meet_106 c4 ?_
  generalize hs5 : setL s3 ((cref SHm (x0) 22)) ((x5).toNatClampNeg) (x3) = s5 at hF ⊢
  rw [stl_eq] at hF
  cases hF
  exact r_return f_Mo_meet_107 hQ
def F_Mo_meet_87  (x0 : Nat) (x2 : Int32) (x3 : Int64) (x5 : Int32) (y0 : Nat) (σ : SG) : Option (SG) :=
  F_Mo_meet_88 (x0) (x2) (x3) (x5) (y0) (false) σ
set_option maxHeartbeats 4000000 in
theorem w_Mo_meet_87 {b d : Nat} {sc : SC} {pre tl : List PE} {B : Nat} {Q : Option Value → List PE → Prop} {res : SG} (hB : B = b + pre.length) (hd : 1 ≤ d)   (hQ : Q none (HH pre tl SHm B res)) (lv : LV) (σ : SG) (x0 : Nat) (x2 : Int32) (x3 : Int64) (x5 : Int32) (y0 : Nat) (hx0 : isC SHm (x0) 8 = true) (hy0 : isC SHm (y0) 8 = true) (l0 : lv.lookup 0 = some (.ref (B + (x0)))) (l2 : lv.lookup 2 = some (.int (x2))) (l3 : lv.lookup 3 = some (.long (x3))) (l5 : lv.lookup 5 = some (.int (x5))) (hF : F_Mo_meet_87  x0 x2 x3 x5 y0 σ = some res) : Rn b sc d 42 87 lv [.ref (B + (y0))] (HH pre tl SHm B σ) Q := by
  obtain ⟨e0, rfl⟩ : ∃ e, d = e + 1 := ⟨d - 1, by omega⟩
  unfold F_Mo_meet_87 at hF
  refine r_iconst f_Mo_meet_87 (v := 0) (by decide) ?_
  exact w_Mo_meet_88 hB hd  hQ _ (σ) (x0) (x2) (x3) (x5) (y0) (false) hx0 hy0 l0 l2 l3 l5 hF
def F_Mo_meet_83  (x0 : Nat) (x2 : Int32) (x3 : Int64) (x5 : Int32) (y0 : Nat) (σ : SG) : Option (SG) :=
  F_Mo_meet_88 (x0) (x2) (x3) (x5) (y0) (true) σ
set_option maxHeartbeats 4000000 in
theorem w_Mo_meet_83 {b d : Nat} {sc : SC} {pre tl : List PE} {B : Nat} {Q : Option Value → List PE → Prop} {res : SG} (hB : B = b + pre.length) (hd : 1 ≤ d)   (hQ : Q none (HH pre tl SHm B res)) (lv : LV) (σ : SG) (x0 : Nat) (x2 : Int32) (x3 : Int64) (x5 : Int32) (y0 : Nat) (hx0 : isC SHm (x0) 8 = true) (hy0 : isC SHm (y0) 8 = true) (l0 : lv.lookup 0 = some (.ref (B + (x0)))) (l2 : lv.lookup 2 = some (.int (x2))) (l3 : lv.lookup 3 = some (.long (x3))) (l5 : lv.lookup 5 = some (.int (x5))) (hF : F_Mo_meet_83  x0 x2 x3 x5 y0 σ = some res) : Rn b sc d 42 83 lv [.ref (B + (y0))] (HH pre tl SHm B σ) Q := by
  obtain ⟨e0, rfl⟩ : ∃ e, d = e + 1 := ⟨d - 1, by omega⟩
  unfold F_Mo_meet_83 at hF
  refine r_iconst f_Mo_meet_83 (v := 1) (by decide) ?_
  refine r_goto f_Mo_meet_84 ?_
  exact w_Mo_meet_88 hB hd  hQ _ (σ) (x0) (x2) (x3) (x5) (y0) (true) hx0 hy0 l0 l2 l3 l5 hF
def F_Mo_meet_27  (x0 : Nat) (x1 : Int32) (x2 : Int32) (x3 : Int64) (y0 : Nat) (y1 : Bool) (σ : SG) : Option (SG) :=
  stl (setI σ (y0) 27 (bz (y1))) fun s6 =>
  if (zb (s6.1 (x0) 27)) = true then
  if (((100 : Int32) * (s6.1 (x0) 24)) + x1) < 0 ∨ 600 ≤ ((((100 : Int32) * (s6.1 (x0) 24)) + x1)).toNatClampNeg then none else
  if (s6.2.2.2.1 ((cref SHm (x0) 21)) (((((100 : Int32) * (s6.1 (x0) 24)) + x1)).toNatClampNeg)) < 0 then
  F_Mo_meet_83 (x0) (x2) (x3) ((((100 : Int32) * (s6.1 (x0) 24)) + x1)) (x0) s6
  else if (((100 : Int32) * (s6.1 (x0) 24)) + x1) < 0 ∨ 600 ≤ ((((100 : Int32) * (s6.1 (x0) 24)) + x1)).toNatClampNeg then none else
  if (s6.2.2.2.1 ((cref SHm (x0) 21)) (((((100 : Int32) * (s6.1 (x0) 24)) + x1)).toNatClampNeg)) = x2 then
  if (((100 : Int32) * (s6.1 (x0) 24)) + x1) < 0 ∨ 600 ≤ ((((100 : Int32) * (s6.1 (x0) 24)) + x1)).toNatClampNeg then none else
  if (lg_cmp (s6.2.2.2.2 ((cref SHm (x0) 22)) (((((100 : Int32) * (s6.1 (x0) 24)) + x1)).toNatClampNeg)) x3) = 0 then
  F_Mo_meet_83 (x0) (x2) (x3) ((((100 : Int32) * (s6.1 (x0) 24)) + x1)) (x0) s6
  else F_Mo_meet_87 (x0) (x2) (x3) ((((100 : Int32) * (s6.1 (x0) 24)) + x1)) (x0) s6
  else F_Mo_meet_87 (x0) (x2) (x3) ((((100 : Int32) * (s6.1 (x0) 24)) + x1)) (x0) s6
  else some s6
set_option maxHeartbeats 4000000 in
theorem w_Mo_meet_27 {b d : Nat} {sc : SC} {pre tl : List PE} {B : Nat} {Q : Option Value → List PE → Prop} {res : SG} (hB : B = b + pre.length) (hd : 1 ≤ d)   (hQ : Q none (HH pre tl SHm B res)) (lv : LV) (σ : SG) (x0 : Nat) (x1 : Int32) (x2 : Int32) (x3 : Int64) (y0 : Nat) (y1 : Bool) (hx0 : isC SHm (x0) 8 = true) (hy0 : isC SHm (y0) 8 = true) (l0 : lv.lookup 0 = some (.ref (B + (x0)))) (l1 : lv.lookup 1 = some (.int (x1))) (l2 : lv.lookup 2 = some (.int (x2))) (l3 : lv.lookup 3 = some (.long (x3))) (hF : F_Mo_meet_27  x0 x1 x2 x3 y0 y1 σ = some res) : Rn b sc d 42 27 lv [.int (bz (y1)), .ref (B + (y0))] (HH pre tl SHm B σ) Q := by
  obtain ⟨e0, rfl⟩ : ∃ e, d = e + 1 := ⟨d - 1, by omega⟩
  unfold F_Mo_meet_27 at hF
  refine t_putz (v := y1) hB hy0 f_Mo_meet_27 rfl rfl ?_
  generalize hs6 : setI σ (y0) 27 (bz (y1)) = s6 at hF ⊢
  rw [stl_eq] at hF
  refine r_aload_n f_Mo_meet_30 l0 ?_
  refine t_getz hB hx0 f_Mo_meet_31 rfl ?_
  refine r_if_ne f_Mo_meet_34 (fun c7 => ?_) (fun c7 => ?_)
  · rw [if_pos (bz_t c7)] at hF
    refine r_bipush f_Mo_meet_38 (v := 100) (by decide) ?_
    refine r_aload_n f_Mo_meet_40 l0 ?_
    refine t_geti hB hx0 f_Mo_meet_41 rfl ?_
    refine r_imul f_Mo_meet_44 ?_
    refine r_iload_n f_Mo_meet_45 l1 ?_
    refine r_iadd f_Mo_meet_46 ?_
    refine r_istore f_Mo_meet_47 ?_
    refine r_aload_n f_Mo_meet_49 (lk_put_ne l0 (by decide) (Or.inl rfl)) ?_
    refine r_aload_n f_Mo_meet_50 (lk_put_ne l0 (by decide) (Or.inl rfl)) ?_
    refine t_getc hB hx0 f_Mo_meet_51 rfl ?_
    refine r_iload f_Mo_meet_54 lk_put ?_
    by_cases c8 : (((100 : Int32) * (s6.1 (x0) 24)) + x1) < 0 ∨ 600 ≤ ((((100 : Int32) * (s6.1 (x0) 24)) + x1)).toNatClampNeg
    · rw [if_pos c8] at hF; cases hF
    rw [if_neg c8] at hF
    refine t_iald hB (cc_8_21 hx0) f_Mo_meet_56 c8 ?_
    refine r_if_lt f_Mo_meet_57 (fun c9 => ?_) (fun c9 => ?_)
    · rw [if_pos c9] at hF
      exact w_Mo_meet_83 hB hd  hQ _ (s6) (x0) (x2) (x3) ((((100 : Int32) * (s6.1 (x0) 24)) + x1)) (x0) hx0 hx0 (lk_put_ne l0 (by decide) (Or.inl rfl)) (lk_put_ne l2 (by decide) (Or.inl rfl)) (lk_put_ne l3 (by decide) (Or.inr (by decide))) lk_put hF
    · rw [if_neg c9] at hF
      refine r_aload_n f_Mo_meet_60 (lk_put_ne l0 (by decide) (Or.inl rfl)) ?_
      refine t_getc hB hx0 f_Mo_meet_61 rfl ?_
      refine r_iload f_Mo_meet_64 lk_put ?_
      by_cases c10 : (((100 : Int32) * (s6.1 (x0) 24)) + x1) < 0 ∨ 600 ≤ ((((100 : Int32) * (s6.1 (x0) 24)) + x1)).toNatClampNeg
      · rw [if_pos c10] at hF; cases hF
      rw [if_neg c10] at hF
      refine t_iald hB (cc_8_21 hx0) f_Mo_meet_66 c10 ?_
      refine r_iload_n f_Mo_meet_67 (lk_put_ne l2 (by decide) (Or.inl rfl)) ?_
      refine r_icmp_ne f_Mo_meet_68 (fun c11 => ?_) (fun c11 => ?_)
      · rw [if_neg c11] at hF
        exact w_Mo_meet_87 hB hd  hQ _ (s6) (x0) (x2) (x3) ((((100 : Int32) * (s6.1 (x0) 24)) + x1)) (x0) hx0 hx0 (lk_put_ne l0 (by decide) (Or.inl rfl)) (lk_put_ne l2 (by decide) (Or.inl rfl)) (lk_put_ne l3 (by decide) (Or.inr (by decide))) lk_put hF
      · rw [if_pos (Decidable.not_not.mp c11)] at hF
        refine r_aload_n f_Mo_meet_71 (lk_put_ne l0 (by decide) (Or.inl rfl)) ?_
        refine t_getc hB hx0 f_Mo_meet_72 rfl ?_
        refine r_iload f_Mo_meet_75 lk_put ?_
        by_cases c12 : (((100 : Int32) * (s6.1 (x0) 24)) + x1) < 0 ∨ 600 ≤ ((((100 : Int32) * (s6.1 (x0) 24)) + x1)).toNatClampNeg
        · rw [if_pos c12] at hF; cases hF
        rw [if_neg c12] at hF
        refine t_lald hB (cc_8_22 hx0) f_Mo_meet_77 c12 ?_
        refine r_lload_n f_Mo_meet_78 (lk_put_ne l3 (by decide) (Or.inr (by decide))) ?_
        refine r_lcmp f_Mo_meet_79 ?_
        refine r_if_ne f_Mo_meet_80 (fun c13 => ?_) (fun c13 => ?_)
        · rw [if_neg c13] at hF
          exact w_Mo_meet_87 hB hd  hQ _ (s6) (x0) (x2) (x3) ((((100 : Int32) * (s6.1 (x0) 24)) + x1)) (x0) hx0 hx0 (lk_put_ne l0 (by decide) (Or.inl rfl)) (lk_put_ne l2 (by decide) (Or.inl rfl)) (lk_put_ne l3 (by decide) (Or.inr (by decide))) lk_put hF
        · rw [if_pos (Decidable.not_not.mp c13)] at hF
          exact w_Mo_meet_83 hB hd  hQ _ (s6) (x0) (x2) (x3) ((((100 : Int32) * (s6.1 (x0) 24)) + x1)) (x0) hx0 hx0 (lk_put_ne l0 (by decide) (Or.inl rfl)) (lk_put_ne l2 (by decide) (Or.inl rfl)) (lk_put_ne l3 (by decide) (Or.inr (by decide))) lk_put hF
  · rw [if_neg (bz_nt (Decidable.not_not.mp c7))] at hF
    cases hF
    exact r_return f_Mo_meet_37 hQ
def F_Mo_meet_26  (x0 : Nat) (x1 : Int32) (x2 : Int32) (x3 : Int64) (y0 : Nat) (σ : SG) : Option (SG) :=
  F_Mo_meet_27 (x0) (x1) (x2) (x3) (y0) (false) σ
set_option maxHeartbeats 4000000 in
theorem w_Mo_meet_26 {b d : Nat} {sc : SC} {pre tl : List PE} {B : Nat} {Q : Option Value → List PE → Prop} {res : SG} (hB : B = b + pre.length) (hd : 1 ≤ d)   (hQ : Q none (HH pre tl SHm B res)) (lv : LV) (σ : SG) (x0 : Nat) (x1 : Int32) (x2 : Int32) (x3 : Int64) (y0 : Nat) (hx0 : isC SHm (x0) 8 = true) (hy0 : isC SHm (y0) 8 = true) (l0 : lv.lookup 0 = some (.ref (B + (x0)))) (l1 : lv.lookup 1 = some (.int (x1))) (l2 : lv.lookup 2 = some (.int (x2))) (l3 : lv.lookup 3 = some (.long (x3))) (hF : F_Mo_meet_26  x0 x1 x2 x3 y0 σ = some res) : Rn b sc d 42 26 lv [.ref (B + (y0))] (HH pre tl SHm B σ) Q := by
  obtain ⟨e0, rfl⟩ : ∃ e, d = e + 1 := ⟨d - 1, by omega⟩
  unfold F_Mo_meet_26 at hF
  refine r_iconst f_Mo_meet_26 (v := 0) (by decide) ?_
  exact w_Mo_meet_27 hB hd  hQ _ (σ) (x0) (x1) (x2) (x3) (y0) (false) hx0 hy0 l0 l1 l2 l3 hF
def F_Mo_meet (a0 : Nat) (a1 : Int32) (a2 : Int32) (a3 : Int64) (σ : SG) : Option (SG) :=
  if (zb (σ.1 (a0) 27)) = true then
  match F_Mo_isBeginning (a0) (a1) σ with
  | none => none
  | some q15 =>
  if q15.1 = true then
  if (8 : Int32) < a2 then
  F_Mo_meet_26 (a0) (a1) (a2) (a3) (a0) q15.2
  else F_Mo_meet_27 (a0) (a1) (a2) (a3) (a0) (true) q15.2
  else F_Mo_meet_26 (a0) (a1) (a2) (a3) (a0) q15.2
  else F_Mo_meet_26 (a0) (a1) (a2) (a3) (a0) σ
set_option maxHeartbeats 4000000 in
theorem w_Mo_meet {b d : Nat} {pre tl : List PE} {B : Nat} {Q : Option Value → List PE → Prop} {res : SG} (hB : B = b + pre.length) (hd : 1 ≤ d)  {σ : SG} (a0 : Nat) (a1 : Int32) (a2 : Int32) (a3 : Int64) (ha0 : isC SHm (a0) 8 = true) (hF : F_Mo_meet a0 a1 a2 a3 σ = some res) (hQ : Q none (HH pre tl SHm B res)) : Cl b d 42 [.ref (B + (a0)), .int (a1), .int (a2), .long (a3)] (HH pre tl SHm B σ) Q := by
  obtain ⟨e0, rfl⟩ : ∃ e, d = e + 1 := ⟨d - 1, by omega⟩
  unfold Cl
  unfold F_Mo_meet at hF
  refine r_aload_n f_Mo_meet_0 rfl ?_
  refine r_aload_n f_Mo_meet_1 rfl ?_
  refine t_getz hB ha0 f_Mo_meet_2 rfl ?_
  refine r_if_eq f_Mo_meet_5 (fun c14 => ?_) (fun c14 => ?_)
  · rw [if_neg (bz_nt c14)] at hF
    exact w_Mo_meet_26 hB hd  hQ _ (σ) (a0) (a1) (a2) (a3) (a0) ha0 ha0 rfl rfl rfl rfl hF
  · rw [if_pos (bz_t c14)] at hF
    refine r_aload_n f_Mo_meet_8 rfl ?_
    refine r_iload_n f_Mo_meet_9 rfl ?_
    cases hq15 : F_Mo_isBeginning (a0) (a1) σ with
    | none => simp only [hq15] at hF; cases hF
    | some q15 =>
      simp only [hq15] at hF
      refine t_V1i hB ha0 rfl rfl f_Mo_meet_10 (by decide) (Nat.le_of_ble_eq_true rfl) (Nat.le_of_ble_eq_true rfl) (w_Mo_isBeginning hB  (a0) (a1) ha0 hq15 ⟨_, rfl, ?_⟩)
      refine r_if_eq f_Mo_meet_13 (fun c16 => ?_) (fun c16 => ?_)
      · rw [if_neg (bz_nt c16)] at hF
        exact w_Mo_meet_26 hB hd  hQ _ (q15.2) (a0) (a1) (a2) (a3) (a0) ha0 ha0 rfl rfl rfl rfl hF
      · rw [if_pos (bz_t c16)] at hF
        refine r_iload_n f_Mo_meet_16 rfl ?_
        refine r_bipush f_Mo_meet_17 (v := 8) (by decide) ?_
        refine r_icmp_gt f_Mo_meet_19 (fun c17 => ?_) (fun c17 => ?_)
        · rw [if_pos c17] at hF
          exact w_Mo_meet_26 hB hd  hQ _ (q15.2) (a0) (a1) (a2) (a3) (a0) ha0 ha0 rfl rfl rfl rfl hF
        · rw [if_neg c17] at hF
          refine r_iconst f_Mo_meet_22 (v := 1) (by decide) ?_
          refine r_goto f_Mo_meet_23 ?_
          exact w_Mo_meet_27 hB hd  hQ _ (q15.2) (a0) (a1) (a2) (a3) (a0) (true) ha0 ha0 rfl rfl rfl rfl hF
theorem f_Mo_inPart_0 : fetch 44 0 = some (.iload_n 2, 1, 0, 0, 0) := rfl
theorem f_Mo_inPart_1 : fetch 44 1 = some (.aload_n 0, 1, 0, 0, 0) := rfl
theorem f_Mo_inPart_2 : fetch 44 2 = some (.getfield 37, 3, 8, 14, 36) := rfl
theorem f_Mo_inPart_5 : fetch 44 5 = some (.iload_n 1, 1, 0, 0, 0) := rfl
theorem f_Mo_inPart_6 : fetch 44 6 = some (.iaload, 1, 0, 0, 0) := rfl
theorem f_Mo_inPart_7 : fetch 44 7 = some (.if_icmp .lt 17, 3, 24, 0, 0) := rfl
theorem f_Mo_inPart_10 : fetch 44 10 = some (.iload_n 2, 1, 0, 0, 0) := rfl
theorem f_Mo_inPart_11 : fetch 44 11 = some (.aload_n 0, 1, 0, 0, 0) := rfl
theorem f_Mo_inPart_12 : fetch 44 12 = some (.getfield 40, 3, 8, 15, 37) := rfl
theorem f_Mo_inPart_15 : fetch 44 15 = some (.iload_n 1, 1, 0, 0, 0) := rfl
theorem f_Mo_inPart_16 : fetch 44 16 = some (.iaload, 1, 0, 0, 0) := rfl
theorem f_Mo_inPart_17 : fetch 44 17 = some (.if_icmp .ge 7, 3, 24, 0, 0) := rfl
theorem f_Mo_inPart_20 : fetch 44 20 = some (.iconst 1, 1, 0, 0, 0) := rfl
theorem f_Mo_inPart_21 : fetch 44 21 = some (.goto 4, 3, 25, 0, 0) := rfl
theorem f_Mo_inPart_24 : fetch 44 24 = some (.iconst 0, 1, 0, 0, 0) := rfl
theorem f_Mo_inPart_25 : fetch 44 25 = some (.ireturn, 1, 2, 0, 0) := rfl
def F_Mo_inPart_25  (y0 : Bool) (σ : SG) : Option (Bool × SG) :=
  some (y0, σ)
set_option maxHeartbeats 4000000 in
theorem w_Mo_inPart_25 {b d : Nat} {sc : SC} {pre tl : List PE} {B : Nat} {Q : Option Value → List PE → Prop} {res : Bool × SG} (hB : B = b + pre.length)   (hQ : Q (some (.int (bz res.1))) (HH pre tl SHm B res.2)) (lv : LV) (σ : SG) (y0 : Bool)  (hF : F_Mo_inPart_25  y0 σ = some res) : Rn b sc d 44 25 lv [.int (bz (y0))] (HH pre tl SHm B σ) Q := by
  unfold F_Mo_inPart_25 at hF
  cases hF
  exact r_zreturn f_Mo_inPart_25 (bz_or (y0)) hQ
def F_Mo_inPart_24   (σ : SG) : Option (Bool × SG) :=
  F_Mo_inPart_25 (false) σ
set_option maxHeartbeats 4000000 in
theorem w_Mo_inPart_24 {b d : Nat} {sc : SC} {pre tl : List PE} {B : Nat} {Q : Option Value → List PE → Prop} {res : Bool × SG} (hB : B = b + pre.length)   (hQ : Q (some (.int (bz res.1))) (HH pre tl SHm B res.2)) (lv : LV) (σ : SG)   (hF : F_Mo_inPart_24   σ = some res) : Rn b sc d 44 24 lv [] (HH pre tl SHm B σ) Q := by
  unfold F_Mo_inPart_24 at hF
  refine r_iconst f_Mo_inPart_24 (v := 0) (by decide) ?_
  exact w_Mo_inPart_25 hB   hQ _ (σ) (false) hF
def F_Mo_inPart (a0 : Nat) (a1 : Int32) (a2 : Int32) (σ : SG) : Option (Bool × SG) :=
  if a1 < 0 ∨ 18 ≤ (a1).toNatClampNeg then none else
  if a2 < (σ.2.2.2.1 ((cref SHm (a0) 14)) ((a1).toNatClampNeg)) then
  F_Mo_inPart_24 σ
  else if a1 < 0 ∨ 18 ≤ (a1).toNatClampNeg then none else
  if (σ.2.2.2.1 ((cref SHm (a0) 15)) ((a1).toNatClampNeg)) ≤ a2 then
  F_Mo_inPart_24 σ
  else F_Mo_inPart_25 (true) σ
set_option maxHeartbeats 4000000 in
theorem w_Mo_inPart {b d : Nat} {pre tl : List PE} {B : Nat} {Q : Option Value → List PE → Prop} {res : Bool × SG} (hB : B = b + pre.length)  {σ : SG} (a0 : Nat) (a1 : Int32) (a2 : Int32) (ha0 : isC SHm (a0) 8 = true) (hF : F_Mo_inPart a0 a1 a2 σ = some res) (hQ : Q (some (.int (bz res.1))) (HH pre tl SHm B res.2)) : Cl b d 44 [.ref (B + (a0)), .int (a1), .int (a2)] (HH pre tl SHm B σ) Q := by
  unfold Cl
  unfold F_Mo_inPart at hF
  refine r_iload_n f_Mo_inPart_0 rfl ?_
  refine r_aload_n f_Mo_inPart_1 rfl ?_
  refine t_getc hB ha0 f_Mo_inPart_2 rfl ?_
  refine r_iload_n f_Mo_inPart_5 rfl ?_
  by_cases c1 : a1 < 0 ∨ 18 ≤ (a1).toNatClampNeg
  · rw [if_pos c1] at hF; cases hF
  rw [if_neg c1] at hF
  refine t_iald hB (cc_8_14 ha0) f_Mo_inPart_6 c1 ?_
  refine r_icmp_lt f_Mo_inPart_7 (fun c2 => ?_) (fun c2 => ?_)
  · rw [if_pos c2] at hF
    exact w_Mo_inPart_24 hB   hQ _ (σ) hF
  · rw [if_neg c2] at hF
    refine r_iload_n f_Mo_inPart_10 rfl ?_
    refine r_aload_n f_Mo_inPart_11 rfl ?_
    refine t_getc hB ha0 f_Mo_inPart_12 rfl ?_
    refine r_iload_n f_Mo_inPart_15 rfl ?_
    by_cases c3 : a1 < 0 ∨ 18 ≤ (a1).toNatClampNeg
    · rw [if_pos c3] at hF; cases hF
    rw [if_neg c3] at hF
    refine t_iald hB (cc_8_15 ha0) f_Mo_inPart_16 c3 ?_
    refine r_icmp_ge f_Mo_inPart_17 (fun c4 => ?_) (fun c4 => ?_)
    · rw [if_pos c4] at hF
      exact w_Mo_inPart_24 hB   hQ _ (σ) hF
    · rw [if_neg c4] at hF
      refine r_iconst f_Mo_inPart_20 (v := 1) (by decide) ?_
      refine r_goto f_Mo_inPart_21 ?_
      exact w_Mo_inPart_25 hB   hQ _ (σ) (true) hF
theorem f_Mo_push_0 : fetch 46 0 = some (.aload_n 0, 1, 0, 0, 0) := rfl
theorem f_Mo_push_1 : fetch 46 1 = some (.aload_n 0, 1, 0, 0, 0) := rfl
theorem f_Mo_push_2 : fetch 46 2 = some (.getfield 181, 3, 8, 27, 66) := rfl
theorem f_Mo_push_5 : fetch 46 5 = some (.ifCond .eq 16, 3, 21, 0, 0) := rfl
theorem f_Mo_push_8 : fetch 46 8 = some (.aload_n 0, 1, 0, 0, 0) := rfl
theorem f_Mo_push_9 : fetch 46 9 = some (.getfield 191, 3, 8, 25, 67) := rfl
theorem f_Mo_push_12 : fetch 46 12 = some (.bipush 9, 2, 0, 0, 0) := rfl
theorem f_Mo_push_14 : fetch 46 14 = some (.if_icmp .ge 7, 3, 21, 0, 0) := rfl
theorem f_Mo_push_17 : fetch 46 17 = some (.iconst 1, 1, 0, 0, 0) := rfl
theorem f_Mo_push_18 : fetch 46 18 = some (.goto 4, 3, 22, 0, 0) := rfl
theorem f_Mo_push_21 : fetch 46 21 = some (.iconst 0, 1, 0, 0, 0) := rfl
theorem f_Mo_push_22 : fetch 46 22 = some (.putfield 181, 3, 8, 27, 66) := rfl
theorem f_Mo_push_25 : fetch 46 25 = some (.aload_n 0, 1, 0, 0, 0) := rfl
theorem f_Mo_push_26 : fetch 46 26 = some (.getfield 181, 3, 8, 27, 66) := rfl
theorem f_Mo_push_29 : fetch 46 29 = some (.ifCond .ne 4, 3, 33, 0, 0) := rfl
theorem f_Mo_push_32 : fetch 46 32 = some (.return_, 1, 0, 0, 0) := rfl
theorem f_Mo_push_33 : fetch 46 33 = some (.aload_n 0, 1, 0, 0, 0) := rfl
theorem f_Mo_push_34 : fetch 46 34 = some (.aload_n 0, 1, 0, 0, 0) := rfl
theorem f_Mo_push_35 : fetch 46 35 = some (.getfield 194, 3, 8, 26, 68) := rfl
theorem f_Mo_push_38 : fetch 46 38 = some (.iload_n 1, 1, 0, 0, 0) := rfl
theorem f_Mo_push_39 : fetch 46 39 = some (.i2l, 1, 0, 0, 0) := rfl
theorem f_Mo_push_40 : fetch 46 40 = some (.iconst 4, 1, 0, 0, 0) := rfl
theorem f_Mo_push_41 : fetch 46 41 = some (.aload_n 0, 1, 0, 0, 0) := rfl
theorem f_Mo_push_42 : fetch 46 42 = some (.getfield 191, 3, 8, 25, 67) := rfl
theorem f_Mo_push_45 : fetch 46 45 = some (.imul, 1, 0, 0, 0) := rfl
theorem f_Mo_push_46 : fetch 46 46 = some (.lshl, 1, 0, 0, 0) := rfl
theorem f_Mo_push_47 : fetch 46 47 = some (.lor, 1, 0, 0, 0) := rfl
theorem f_Mo_push_48 : fetch 46 48 = some (.putfield 194, 3, 8, 26, 68) := rfl
theorem f_Mo_push_51 : fetch 46 51 = some (.aload_n 0, 1, 0, 0, 0) := rfl
theorem f_Mo_push_52 : fetch 46 52 = some (.dup, 1, 0, 0, 0) := rfl
theorem f_Mo_push_53 : fetch 46 53 = some (.getfield 191, 3, 8, 25, 67) := rfl
theorem f_Mo_push_56 : fetch 46 56 = some (.iconst 1, 1, 0, 0, 0) := rfl
theorem f_Mo_push_57 : fetch 46 57 = some (.iadd, 1, 0, 0, 0) := rfl
theorem f_Mo_push_58 : fetch 46 58 = some (.putfield 191, 3, 8, 25, 67) := rfl
theorem f_Mo_push_61 : fetch 46 61 = some (.return_, 1, 0, 0, 0) := rfl
def F_Mo_push_22  (x0 : Nat) (x1 : Int32) (y0 : Nat) (y1 : Bool) (σ : SG) : Option (SG) :=
  stl (setI σ (y0) 27 (bz (y1))) fun s1 =>
  if (zb (s1.1 (x0) 27)) = true then
  stl (setJ s1 (x0) 26 (((s1.2.1 (x0) 26) ||| (((x1 : Int32).toInt64) <<< ((((4 : Int32) * (s1.1 (x0) 25))).toInt64 &&& 63))))) fun s3 =>
  stl (setI s3 (x0) 25 (((s3.1 (x0) 25) + (1 : Int32)))) fun s4 =>
  some s4
  else some s1
set_option maxHeartbeats 4000000 in
theorem w_Mo_push_22 {b d : Nat} {sc : SC} {pre tl : List PE} {B : Nat} {Q : Option Value → List PE → Prop} {res : SG} (hB : B = b + pre.length)   (hQ : Q none (HH pre tl SHm B res)) (lv : LV) (σ : SG) (x0 : Nat) (x1 : Int32) (y0 : Nat) (y1 : Bool) (hx0 : isC SHm (x0) 8 = true) (hy0 : isC SHm (y0) 8 = true) (l0 : lv.lookup 0 = some (.ref (B + (x0)))) (l1 : lv.lookup 1 = some (.int (x1))) (hF : F_Mo_push_22  x0 x1 y0 y1 σ = some res) : Rn b sc d 46 22 lv [.int (bz (y1)), .ref (B + (y0))] (HH pre tl SHm B σ) Q := by
  unfold F_Mo_push_22 at hF
  refine t_putz (v := y1) hB hy0 f_Mo_push_22 rfl rfl ?_
  generalize hs1 : setI σ (y0) 27 (bz (y1)) = s1 at hF ⊢
  rw [stl_eq] at hF
  refine r_aload_n f_Mo_push_25 l0 ?_
  refine t_getz hB hx0 f_Mo_push_26 rfl ?_
  refine r_if_ne f_Mo_push_29 (fun c2 => ?_) (fun c2 => ?_)
  · rw [if_pos (bz_t c2)] at hF
    refine r_aload_n f_Mo_push_33 l0 ?_
    refine r_aload_n f_Mo_push_34 l0 ?_
    refine t_getj hB hx0 f_Mo_push_35 rfl ?_
    refine r_iload_n f_Mo_push_38 l1 ?_
    refine r_i2l f_Mo_push_39 ?_
    refine r_iconst f_Mo_push_40 (v := 4) (by decide) ?_
    refine r_aload_n f_Mo_push_41 l0 ?_
    refine t_geti hB hx0 f_Mo_push_42 rfl ?_
    refine r_imul f_Mo_push_45 ?_
    refine r_lshl f_Mo_push_46 ?_
    refine r_lor f_Mo_push_47 ?_
    refine t_putj hB hx0 f_Mo_push_48 rfl rfl ?_
    generalize hs3 : setJ s1 (x0) 26 (((s1.2.1 (x0) 26) ||| (((x1 : Int32).toInt64) <<< ((((4 : Int32) * (s1.1 (x0) 25))).toInt64 &&& 63)))) = s3 at hF ⊢
    rw [stl_eq] at hF
    refine r_aload_n f_Mo_push_51 l0 ?_
    refine r_dup f_Mo_push_52 rfl ?_
    refine t_geti hB hx0 f_Mo_push_53 rfl ?_
    refine r_iconst f_Mo_push_56 (v := 1) (by decide) ?_
    refine r_iadd f_Mo_push_57 ?_
    refine t_puti hB hx0 f_Mo_push_58 rfl rfl ?_
    generalize hs4 : setI s3 (x0) 25 (((s3.1 (x0) 25) + (1 : Int32))) = s4 at hF ⊢
    rw [stl_eq] at hF
    cases hF
    exact r_return f_Mo_push_61 hQ
  · rw [if_neg (bz_nt (Decidable.not_not.mp c2))] at hF
    cases hF
    exact r_return f_Mo_push_32 hQ
def F_Mo_push_21  (x0 : Nat) (x1 : Int32) (y0 : Nat) (σ : SG) : Option (SG) :=
  F_Mo_push_22 (x0) (x1) (y0) (false) σ
set_option maxHeartbeats 4000000 in
theorem w_Mo_push_21 {b d : Nat} {sc : SC} {pre tl : List PE} {B : Nat} {Q : Option Value → List PE → Prop} {res : SG} (hB : B = b + pre.length)   (hQ : Q none (HH pre tl SHm B res)) (lv : LV) (σ : SG) (x0 : Nat) (x1 : Int32) (y0 : Nat) (hx0 : isC SHm (x0) 8 = true) (hy0 : isC SHm (y0) 8 = true) (l0 : lv.lookup 0 = some (.ref (B + (x0)))) (l1 : lv.lookup 1 = some (.int (x1))) (hF : F_Mo_push_21  x0 x1 y0 σ = some res) : Rn b sc d 46 21 lv [.ref (B + (y0))] (HH pre tl SHm B σ) Q := by
  unfold F_Mo_push_21 at hF
  refine r_iconst f_Mo_push_21 (v := 0) (by decide) ?_
  exact w_Mo_push_22 hB   hQ _ (σ) (x0) (x1) (y0) (false) hx0 hy0 l0 l1 hF
def F_Mo_push (a0 : Nat) (a1 : Int32) (σ : SG) : Option (SG) :=
  if (zb (σ.1 (a0) 27)) = true then
  if (9 : Int32) ≤ (σ.1 (a0) 25) then
  F_Mo_push_21 (a0) (a1) (a0) σ
  else F_Mo_push_22 (a0) (a1) (a0) (true) σ
  else F_Mo_push_21 (a0) (a1) (a0) σ
set_option maxHeartbeats 4000000 in
theorem w_Mo_push {b d : Nat} {pre tl : List PE} {B : Nat} {Q : Option Value → List PE → Prop} {res : SG} (hB : B = b + pre.length)  {σ : SG} (a0 : Nat) (a1 : Int32) (ha0 : isC SHm (a0) 8 = true) (hF : F_Mo_push a0 a1 σ = some res) (hQ : Q none (HH pre tl SHm B res)) : Cl b d 46 [.ref (B + (a0)), .int (a1)] (HH pre tl SHm B σ) Q := by
  unfold Cl
  unfold F_Mo_push at hF
  refine r_aload_n f_Mo_push_0 rfl ?_
  refine r_aload_n f_Mo_push_1 rfl ?_
  refine t_getz hB ha0 f_Mo_push_2 rfl ?_
  refine r_if_eq f_Mo_push_5 (fun c5 => ?_) (fun c5 => ?_)
  · rw [if_neg (bz_nt c5)] at hF
    exact w_Mo_push_21 hB   hQ _ (σ) (a0) (a1) (a0) ha0 ha0 rfl rfl hF
  · rw [if_pos (bz_t c5)] at hF
    refine r_aload_n f_Mo_push_8 rfl ?_
    refine t_geti hB ha0 f_Mo_push_9 rfl ?_
    refine r_bipush f_Mo_push_12 (v := 9) (by decide) ?_
    refine r_icmp_ge f_Mo_push_14 (fun c6 => ?_) (fun c6 => ?_)
    · rw [if_pos c6] at hF
      exact w_Mo_push_21 hB   hQ _ (σ) (a0) (a1) (a0) ha0 ha0 rfl rfl hF
    · rw [if_neg c6] at hF
      refine r_iconst f_Mo_push_17 (v := 1) (by decide) ?_
      refine r_goto f_Mo_push_18 ?_
      exact w_Mo_push_22 hB   hQ _ (σ) (a0) (a1) (a0) (true) ha0 ha0 rfl rfl hF
theorem f_Mo_operand_0 : fetch 47 0 = some (.aload_n 0, 1, 0, 0, 0) := rfl
theorem f_Mo_operand_1 : fetch 47 1 = some (.getfield 53, 3, 8, 19, 41) := rfl
theorem f_Mo_operand_4 : fetch 47 4 = some (.bipush 100, 2, 0, 0, 0) := rfl
theorem f_Mo_operand_6 : fetch 47 6 = some (.aload_n 0, 1, 0, 0, 0) := rfl
theorem f_Mo_operand_7 : fetch 47 7 = some (.getfield 154, 3, 8, 24, 65) := rfl
theorem f_Mo_operand_10 : fetch 47 10 = some (.imul, 1, 0, 0, 0) := rfl
theorem f_Mo_operand_11 : fetch 47 11 = some (.iload_n 1, 1, 0, 0, 0) := rfl
theorem f_Mo_operand_12 : fetch 47 12 = some (.iadd, 1, 0, 0, 0) := rfl
theorem f_Mo_operand_13 : fetch 47 13 = some (.iconst 1, 1, 0, 0, 0) := rfl
theorem f_Mo_operand_14 : fetch 47 14 = some (.iadd, 1, 0, 0, 0) := rfl
theorem f_Mo_operand_15 : fetch 47 15 = some (.iaload, 1, 0, 0, 0) := rfl
theorem f_Mo_operand_16 : fetch 47 16 = some (.ireturn, 1, 0, 0, 0) := rfl
def F_Mo_operand (a0 : Nat) (a1 : Int32) (σ : SG) : Option (Int32 × SG) :=
  if ((((100 : Int32) * (σ.1 (a0) 24)) + a1) + (1 : Int32)) < 0 ∨ 600 ≤ (((((100 : Int32) * (σ.1 (a0) 24)) + a1) + (1 : Int32))).toNatClampNeg then none else
  some ((σ.2.2.2.1 ((cref SHm (a0) 19)) ((((((100 : Int32) * (σ.1 (a0) 24)) + a1) + (1 : Int32))).toNatClampNeg)), σ)
set_option maxHeartbeats 4000000 in
theorem w_Mo_operand {b d : Nat} {pre tl : List PE} {B : Nat} {Q : Option Value → List PE → Prop} {res : Int32 × SG} (hB : B = b + pre.length)  {σ : SG} (a0 : Nat) (a1 : Int32) (ha0 : isC SHm (a0) 8 = true) (hF : F_Mo_operand a0 a1 σ = some res) (hQ : Q (some (.int res.1)) (HH pre tl SHm B res.2)) : Cl b d 47 [.ref (B + (a0)), .int (a1)] (HH pre tl SHm B σ) Q := by
  unfold Cl
  unfold F_Mo_operand at hF
  refine r_aload_n f_Mo_operand_0 rfl ?_
  refine t_getc hB ha0 f_Mo_operand_1 rfl ?_
  refine r_bipush f_Mo_operand_4 (v := 100) (by decide) ?_
  refine r_aload_n f_Mo_operand_6 rfl ?_
  refine t_geti hB ha0 f_Mo_operand_7 rfl ?_
  refine r_imul f_Mo_operand_10 ?_
  refine r_iload_n f_Mo_operand_11 rfl ?_
  refine r_iadd f_Mo_operand_12 ?_
  refine r_iconst f_Mo_operand_13 (v := 1) (by decide) ?_
  refine r_iadd f_Mo_operand_14 ?_
  by_cases c1 : ((((100 : Int32) * (σ.1 (a0) 24)) + a1) + (1 : Int32)) < 0 ∨ 600 ≤ (((((100 : Int32) * (σ.1 (a0) 24)) + a1) + (1 : Int32))).toNatClampNeg
  · rw [if_pos c1] at hF; cases hF
  rw [if_neg c1] at hF
  refine t_iald hB (cc_8_19 ha0) f_Mo_operand_15 c1 ?_
  cases hF
  exact r_ireturn f_Mo_operand_16 hQ
theorem f_Mo_need_0 : fetch 49 0 = some (.aload_n 0, 1, 0, 0, 0) := rfl
theorem f_Mo_need_1 : fetch 49 1 = some (.aload_n 0, 1, 0, 0, 0) := rfl
theorem f_Mo_need_2 : fetch 49 2 = some (.getfield 181, 3, 8, 27, 66) := rfl
theorem f_Mo_need_5 : fetch 49 5 = some (.ifCond .eq 11, 3, 16, 0, 0) := rfl
theorem f_Mo_need_8 : fetch 49 8 = some (.iload_n 1, 1, 0, 0, 0) := rfl
theorem f_Mo_need_9 : fetch 49 9 = some (.ifCond .eq 7, 3, 16, 0, 0) := rfl
theorem f_Mo_need_12 : fetch 49 12 = some (.iconst 1, 1, 0, 0, 0) := rfl
theorem f_Mo_need_13 : fetch 49 13 = some (.goto 4, 3, 17, 0, 0) := rfl
theorem f_Mo_need_16 : fetch 49 16 = some (.iconst 0, 1, 0, 0, 0) := rfl
theorem f_Mo_need_17 : fetch 49 17 = some (.putfield 181, 3, 8, 27, 66) := rfl
theorem f_Mo_need_20 : fetch 49 20 = some (.return_, 1, 0, 0, 0) := rfl
def F_Mo_need_17  (y0 : Nat) (y1 : Bool) (σ : SG) : Option (SG) :=
  stl (setI σ (y0) 27 (bz (y1))) fun s1 =>
  some s1
set_option maxHeartbeats 4000000 in
theorem w_Mo_need_17 {b d : Nat} {sc : SC} {pre tl : List PE} {B : Nat} {Q : Option Value → List PE → Prop} {res : SG} (hB : B = b + pre.length)   (hQ : Q none (HH pre tl SHm B res)) (lv : LV) (σ : SG) (y0 : Nat) (y1 : Bool) (hy0 : isC SHm (y0) 8 = true) (hF : F_Mo_need_17  y0 y1 σ = some res) : Rn b sc d 49 17 lv [.int (bz (y1)), .ref (B + (y0))] (HH pre tl SHm B σ) Q := by
  unfold F_Mo_need_17 at hF
  refine t_putz (v := y1) hB hy0 f_Mo_need_17 rfl rfl ?_
  generalize hs1 : setI σ (y0) 27 (bz (y1)) = s1 at hF ⊢
  rw [stl_eq] at hF
  cases hF
  exact r_return f_Mo_need_20 hQ
def F_Mo_need_16  (y0 : Nat) (σ : SG) : Option (SG) :=
  F_Mo_need_17 (y0) (false) σ
set_option maxHeartbeats 4000000 in
theorem w_Mo_need_16 {b d : Nat} {sc : SC} {pre tl : List PE} {B : Nat} {Q : Option Value → List PE → Prop} {res : SG} (hB : B = b + pre.length)   (hQ : Q none (HH pre tl SHm B res)) (lv : LV) (σ : SG) (y0 : Nat) (hy0 : isC SHm (y0) 8 = true) (hF : F_Mo_need_16  y0 σ = some res) : Rn b sc d 49 16 lv [.ref (B + (y0))] (HH pre tl SHm B σ) Q := by
  unfold F_Mo_need_16 at hF
  refine r_iconst f_Mo_need_16 (v := 0) (by decide) ?_
  exact w_Mo_need_17 hB   hQ _ (σ) (y0) (false) hy0 hF
def F_Mo_need (a0 : Nat) (a1 : Bool) (σ : SG) : Option (SG) :=
  if (zb (σ.1 (a0) 27)) = true then
  if a1 = true then
  F_Mo_need_17 (a0) (true) σ
  else F_Mo_need_16 (a0) σ
  else F_Mo_need_16 (a0) σ
set_option maxHeartbeats 4000000 in
theorem w_Mo_need {b d : Nat} {pre tl : List PE} {B : Nat} {Q : Option Value → List PE → Prop} {res : SG} (hB : B = b + pre.length)  {σ : SG} (a0 : Nat) (a1 : Bool) (ha0 : isC SHm (a0) 8 = true) (hF : F_Mo_need a0 a1 σ = some res) (hQ : Q none (HH pre tl SHm B res)) : Cl b d 49 [.ref (B + (a0)), .int (bz (a1))] (HH pre tl SHm B σ) Q := by
  unfold Cl
  unfold F_Mo_need at hF
  refine r_aload_n f_Mo_need_0 rfl ?_
  refine r_aload_n f_Mo_need_1 rfl ?_
  refine t_getz hB ha0 f_Mo_need_2 rfl ?_
  refine r_if_eq f_Mo_need_5 (fun c2 => ?_) (fun c2 => ?_)
  · rw [if_neg (bz_nt c2)] at hF
    exact w_Mo_need_16 hB   hQ _ (σ) (a0) ha0 hF
  · rw [if_pos (bz_t c2)] at hF
    refine r_iload_n f_Mo_need_8 rfl ?_
    refine r_if_eq f_Mo_need_9 (fun c3 => ?_) (fun c3 => ?_)
    · rw [if_neg (bz_nt c3)] at hF
      exact w_Mo_need_16 hB   hQ _ (σ) (a0) ha0 hF
    · rw [if_pos (bz_t c3)] at hF
      refine r_iconst f_Mo_need_12 (v := 1) (by decide) ?_
      refine r_goto f_Mo_need_13 ?_
      exact w_Mo_need_17 hB   hQ _ (σ) (a0) (true) ha0 hF
