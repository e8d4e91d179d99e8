theorem f_Rg_handles_0 : fetch 117 0 = some (.iload_n 1, 1, 0, 0, 0) := rfl
theorem f_Rg_handles_1 : fetch 117 1 = some (.aload_n 0, 1, 0, 0, 0) := rfl
theorem f_Rg_handles_2 : fetch 117 2 = some (.getfield 13, 3, 4, 1, 98) := rfl
theorem f_Rg_handles_5 : fetch 117 5 = some (.if_icmp .lt 15, 3, 20, 0, 0) := rfl
theorem f_Rg_handles_8 : fetch 117 8 = some (.iload_n 1, 1, 0, 0, 0) := rfl
theorem f_Rg_handles_9 : fetch 117 9 = some (.aload_n 0, 1, 0, 0, 0) := rfl
theorem f_Rg_handles_10 : fetch 117 10 = some (.getfield 16, 3, 4, 2, 96) := rfl
theorem f_Rg_handles_13 : fetch 117 13 = some (.if_icmp .ge 7, 3, 20, 0, 0) := rfl
theorem f_Rg_handles_16 : fetch 117 16 = some (.iconst 1, 1, 0, 0, 0) := rfl
theorem f_Rg_handles_17 : fetch 117 17 = some (.goto 4, 3, 21, 0, 0) := rfl
theorem f_Rg_handles_20 : fetch 117 20 = some (.iconst 0, 1, 0, 0, 0) := rfl
theorem f_Rg_handles_21 : fetch 117 21 = some (.ireturn, 1, 2, 0, 0) := rfl
def F_Rg_handles_21  (y0 : Bool) (σ : SG) : Option (Bool × SG) :=
  some (y0, σ)
set_option maxHeartbeats 4000000 in
theorem w_Rg_handles_21 {b d : Nat} {sc : SC} {pre tl : List PE} {B : Nat} {Q : Option Value → List PE → Prop} {res : Bool × SG} (hB : B = b + pre.length)   (hQ : Q (some (.int (bz res.1))) (HH pre tl SHc B res.2)) (lv : LV) (σ : SG) (y0 : Bool)  (hF : F_Rg_handles_21  y0 σ = some res) : Rn b sc d 117 21 lv [.int (bz (y0))] (HH pre tl SHc B σ) Q := by
  unfold F_Rg_handles_21 at hF
  try dsimp only at hF
  cases hF
  exact r_zreturn f_Rg_handles_21 (bz_or _) hQ
def F_Rg_handles_20   (σ : SG) : Option (Bool × SG) :=
  F_Rg_handles_21 (false) σ
set_option maxHeartbeats 4000000 in
theorem w_Rg_handles_20 {b d : Nat} {sc : SC} {pre tl : List PE} {B : Nat} {Q : Option Value → List PE → Prop} {res : Bool × SG} (hB : B = b + pre.length)   (hQ : Q (some (.int (bz res.1))) (HH pre tl SHc B res.2)) (lv : LV) (σ : SG)   (hF : F_Rg_handles_20   σ = some res) : Rn b sc d 117 20 lv [] (HH pre tl SHc B σ) Q := by
  unfold F_Rg_handles_20 at hF
  try dsimp only at hF
  refine r_iconst f_Rg_handles_20 (v := 0) (by decide) ?_
  exact w_Rg_handles_21 hB   hQ _ (σ) (false) hF
def F_Rg_handles (a0 : Nat) (a1 : Int32) (σ : SG) : Option (Bool × SG) :=
  if a1 < (σ.1 (a0) 1) then
  F_Rg_handles_20 σ
  else if (σ.1 (a0) 2) ≤ a1 then
  F_Rg_handles_20 σ
  else F_Rg_handles_21 (true) σ
set_option maxHeartbeats 4000000 in
theorem w_Rg_handles {b d : Nat} {pre tl : List PE} {B : Nat} {Q : Option Value → List PE → Prop} {res : Bool × SG} (hB : B = b + pre.length)  {σ : SG} (a0 : Nat) (a1 : Int32) (ha0 : isC SHc (a0) 4 = true) (hF : F_Rg_handles a0 a1 σ = some res) (hQ : Q (some (.int (bz res.1))) (HH pre tl SHc B res.2)) : Cl b d 117 [.ref (B + (a0)), .int (a1)] (HH pre tl SHc B σ) Q := by
  unfold Cl
  unfold F_Rg_handles at hF
  try dsimp only at hF
  refine r_iload_n f_Rg_handles_0 rfl ?_
  refine r_aload_n f_Rg_handles_1 rfl ?_
  refine t_geti hB ha0 f_Rg_handles_2 rfl ?_
  refine r_icmp_lt f_Rg_handles_5 (fun c1 => ?_) (fun c1 => ?_)
  · rw [if_pos c1] at hF
    exact w_Rg_handles_20 hB   hQ _ (σ) hF
  · rw [if_neg c1] at hF
    refine r_iload_n f_Rg_handles_8 rfl ?_
    refine r_aload_n f_Rg_handles_9 rfl ?_
    refine t_geti hB ha0 f_Rg_handles_10 rfl ?_
    refine r_icmp_ge f_Rg_handles_13 (fun c2 => ?_) (fun c2 => ?_)
    · rw [if_pos c2] at hF
      exact w_Rg_handles_20 hB   hQ _ (σ) hF
    · rw [if_neg c2] at hF
      refine r_iconst f_Rg_handles_16 (v := 1) (by decide) ?_
      refine r_goto f_Rg_handles_17 ?_
      exact w_Rg_handles_21 hB   hQ _ (σ) (true) hF
theorem f_Rg_keeps_0 : fetch 116 0 = some (.iload_n 1, 1, 0, 0, 0) := rfl
theorem f_Rg_keeps_1 : fetch 116 1 = some (.aload_n 0, 1, 0, 0, 0) := rfl
theorem f_Rg_keeps_2 : fetch 116 2 = some (.getfield 7, 3, 4, 0, 97) := rfl
theorem f_Rg_keeps_5 : fetch 116 5 = some (.if_icmp .lt 15, 3, 20, 0, 0) := rfl
theorem f_Rg_keeps_8 : fetch 116 8 = some (.iload_n 1, 1, 0, 0, 0) := rfl
theorem f_Rg_keeps_9 : fetch 116 9 = some (.aload_n 0, 1, 0, 0, 0) := rfl
theorem f_Rg_keeps_10 : fetch 116 10 = some (.getfield 13, 3, 4, 1, 98) := rfl
theorem f_Rg_keeps_13 : fetch 116 13 = some (.if_icmp .ge 7, 3, 20, 0, 0) := rfl
theorem f_Rg_keeps_16 : fetch 116 16 = some (.iconst 1, 1, 0, 0, 0) := rfl
theorem f_Rg_keeps_17 : fetch 116 17 = some (.goto 4, 3, 21, 0, 0) := rfl
theorem f_Rg_keeps_20 : fetch 116 20 = some (.iconst 0, 1, 0, 0, 0) := rfl
theorem f_Rg_keeps_21 : fetch 116 21 = some (.ireturn, 1, 2, 0, 0) := rfl
def F_Rg_keeps_21  (y0 : Bool) (σ : SG) : Option (Bool × SG) :=
  some (y0, σ)
set_option maxHeartbeats 4000000 in
theorem w_Rg_keeps_21 {b d : Nat} {sc : SC} {pre tl : List PE} {B : Nat} {Q : Option Value → List PE → Prop} {res : Bool × SG} (hB : B = b + pre.length)   (hQ : Q (some (.int (bz res.1))) (HH pre tl SHc B res.2)) (lv : LV) (σ : SG) (y0 : Bool)  (hF : F_Rg_keeps_21  y0 σ = some res) : Rn b sc d 116 21 lv [.int (bz (y0))] (HH pre tl SHc B σ) Q := by
  unfold F_Rg_keeps_21 at hF
  try dsimp only at hF
  cases hF
  exact r_zreturn f_Rg_keeps_21 (bz_or _) hQ
def F_Rg_keeps_20   (σ : SG) : Option (Bool × SG) :=
  F_Rg_keeps_21 (false) σ
set_option maxHeartbeats 4000000 in
theorem w_Rg_keeps_20 {b d : Nat} {sc : SC} {pre tl : List PE} {B : Nat} {Q : Option Value → List PE → Prop} {res : Bool × SG} (hB : B = b + pre.length)   (hQ : Q (some (.int (bz res.1))) (HH pre tl SHc B res.2)) (lv : LV) (σ : SG)   (hF : F_Rg_keeps_20   σ = some res) : Rn b sc d 116 20 lv [] (HH pre tl SHc B σ) Q := by
  unfold F_Rg_keeps_20 at hF
  try dsimp only at hF
  refine r_iconst f_Rg_keeps_20 (v := 0) (by decide) ?_
  exact w_Rg_keeps_21 hB   hQ _ (σ) (false) hF
def F_Rg_keeps (a0 : Nat) (a1 : Int32) (σ : SG) : Option (Bool × SG) :=
  if a1 < (σ.1 (a0) 0) then
  F_Rg_keeps_20 σ
  else if (σ.1 (a0) 1) ≤ a1 then
  F_Rg_keeps_20 σ
  else F_Rg_keeps_21 (true) σ
set_option maxHeartbeats 4000000 in
theorem w_Rg_keeps {b d : Nat} {pre tl : List PE} {B : Nat} {Q : Option Value → List PE → Prop} {res : Bool × SG} (hB : B = b + pre.length)  {σ : SG} (a0 : Nat) (a1 : Int32) (ha0 : isC SHc (a0) 4 = true) (hF : F_Rg_keeps a0 a1 σ = some res) (hQ : Q (some (.int (bz res.1))) (HH pre tl SHc B res.2)) : Cl b d 116 [.ref (B + (a0)), .int (a1)] (HH pre tl SHc B σ) Q := by
  unfold Cl
  unfold F_Rg_keeps at hF
  try dsimp only at hF
  refine r_iload_n f_Rg_keeps_0 rfl ?_
  refine r_aload_n f_Rg_keeps_1 rfl ?_
  refine t_geti hB ha0 f_Rg_keeps_2 rfl ?_
  refine r_icmp_lt f_Rg_keeps_5 (fun c1 => ?_) (fun c1 => ?_)
  · rw [if_pos c1] at hF
    exact w_Rg_keeps_20 hB   hQ _ (σ) hF
  · rw [if_neg c1] at hF
    refine r_iload_n f_Rg_keeps_8 rfl ?_
    refine r_aload_n f_Rg_keeps_9 rfl ?_
    refine t_geti hB ha0 f_Rg_keeps_10 rfl ?_
    refine r_icmp_ge f_Rg_keeps_13 (fun c2 => ?_) (fun c2 => ?_)
    · rw [if_pos c2] at hF
      exact w_Rg_keeps_20 hB   hQ _ (σ) hF
    · rw [if_neg c2] at hF
      refine r_iconst f_Rg_keeps_16 (v := 1) (by decide) ?_
      refine r_goto f_Rg_keeps_17 ?_
      exact w_Rg_keeps_21 hB   hQ _ (σ) (true) hF
theorem f_Op_isKnown_0 : fetch 101 0 = some (.iload_n 0, 1, 0, 0, 0) := rfl
theorem f_Op_isKnown_1 : fetch 101 1 = some (.ifCond .lt 13, 3, 14, 0, 0) := rfl
theorem f_Op_isKnown_4 : fetch 101 4 = some (.iload_n 0, 1, 0, 0, 0) := rfl
theorem f_Op_isKnown_5 : fetch 101 5 = some (.bipush 37, 2, 0, 0, 0) := rfl
theorem f_Op_isKnown_7 : fetch 101 7 = some (.if_icmp .gt 7, 3, 14, 0, 0) := rfl
theorem f_Op_isKnown_10 : fetch 101 10 = some (.iconst 1, 1, 0, 0, 0) := rfl
theorem f_Op_isKnown_11 : fetch 101 11 = some (.goto 4, 3, 15, 0, 0) := rfl
theorem f_Op_isKnown_14 : fetch 101 14 = some (.iconst 0, 1, 0, 0, 0) := rfl
theorem f_Op_isKnown_15 : fetch 101 15 = some (.ireturn, 1, 2, 0, 0) := rfl
def F_Op_isKnown_15  (y0 : Bool) (σ : SG) : Option (Bool × SG) :=
  some (y0, σ)
set_option maxHeartbeats 4000000 in
theorem w_Op_isKnown_15 {b d : Nat} {sc : SC} {pre tl : List PE} {B : Nat} {Q : Option Value → List PE → Prop} {res : Bool × SG} (hB : B = b + pre.length)   (hQ : Q (some (.int (bz res.1))) (HH pre tl SHc B res.2)) (lv : LV) (σ : SG) (y0 : Bool)  (hF : F_Op_isKnown_15  y0 σ = some res) : Rn b sc d 101 15 lv [.int (bz (y0))] (HH pre tl SHc B σ) Q := by
  unfold F_Op_isKnown_15 at hF
  try dsimp only at hF
  cases hF
  exact r_zreturn f_Op_isKnown_15 (bz_or _) hQ
def F_Op_isKnown_14   (σ : SG) : Option (Bool × SG) :=
  F_Op_isKnown_15 (false) σ
set_option maxHeartbeats 4000000 in
theorem w_Op_isKnown_14 {b d : Nat} {sc : SC} {pre tl : List PE} {B : Nat} {Q : Option Value → List PE → Prop} {res : Bool × SG} (hB : B = b + pre.length)   (hQ : Q (some (.int (bz res.1))) (HH pre tl SHc B res.2)) (lv : LV) (σ : SG)   (hF : F_Op_isKnown_14   σ = some res) : Rn b sc d 101 14 lv [] (HH pre tl SHc B σ) Q := by
  unfold F_Op_isKnown_14 at hF
  try dsimp only at hF
  refine r_iconst f_Op_isKnown_14 (v := 0) (by decide) ?_
  exact w_Op_isKnown_15 hB   hQ _ (σ) (false) hF
def F_Op_isKnown (a0 : Int32) (σ : SG) : Option (Bool × SG) :=
  if a0 < 0 then
  F_Op_isKnown_14 σ
  else if 37 < a0 then
  F_Op_isKnown_14 σ
  else F_Op_isKnown_15 (true) σ
set_option maxHeartbeats 4000000 in
theorem w_Op_isKnown {b d : Nat} {pre tl : List PE} {B : Nat} {Q : Option Value → List PE → Prop} {res : Bool × SG} (hB : B = b + pre.length)  {σ : SG} (a0 : Int32)  (hF : F_Op_isKnown a0 σ = some res) (hQ : Q (some (.int (bz res.1))) (HH pre tl SHc B res.2)) : Cl b d 101 [.int (a0)] (HH pre tl SHc B σ) Q := by
  unfold Cl
  unfold F_Op_isKnown at hF
  try dsimp only at hF
  refine r_iload_n f_Op_isKnown_0 rfl ?_
  refine r_if_lt f_Op_isKnown_1 (fun c1 => ?_) (fun c1 => ?_)
  · rw [if_pos c1] at hF
    exact w_Op_isKnown_14 hB   hQ _ (σ) hF
  · rw [if_neg c1] at hF
    refine r_iload_n f_Op_isKnown_4 rfl ?_
    refine r_bipush f_Op_isKnown_5 (v := 37) (by decide) ?_
    refine r_icmp_gt f_Op_isKnown_7 (fun c2 => ?_) (fun c2 => ?_)
    · rw [if_pos c2] at hF
      exact w_Op_isKnown_14 hB   hQ _ (σ) hF
    · rw [if_neg c2] at hF
      refine r_iconst f_Op_isKnown_10 (v := 1) (by decide) ?_
      refine r_goto f_Op_isKnown_11 ?_
      exact w_Op_isKnown_15 hB   hQ _ (σ) (true) hF
theorem f_Op_width_0 : fetch 102 0 = some (.iload_n 0, 1, 0, 0, 0) := rfl
theorem f_Op_width_1 : fetch 102 1 = some (.iconst 1, 1, 0, 0, 0) := rfl
theorem f_Op_width_2 : fetch 102 2 = some (.if_icmp .lt 13, 3, 15, 0, 0) := rfl
theorem f_Op_width_5 : fetch 102 5 = some (.iload_n 0, 1, 0, 0, 0) := rfl
theorem f_Op_width_6 : fetch 102 6 = some (.bipush 6, 2, 0, 0, 0) := rfl
theorem f_Op_width_8 : fetch 102 8 = some (.if_icmp .gt 7, 3, 15, 0, 0) := rfl
theorem f_Op_width_11 : fetch 102 11 = some (.iconst 1, 1, 0, 0, 0) := rfl
theorem f_Op_width_12 : fetch 102 12 = some (.goto 4, 3, 16, 0, 0) := rfl
theorem f_Op_width_15 : fetch 102 15 = some (.iconst 0, 1, 0, 0, 0) := rfl
theorem f_Op_width_16 : fetch 102 16 = some (.istore_n 1, 1, 0, 0, 0) := rfl
theorem f_Op_width_17 : fetch 102 17 = some (.iload_n 0, 1, 0, 0, 0) := rfl
theorem f_Op_width_18 : fetch 102 18 = some (.bipush 13, 2, 0, 0, 0) := rfl
theorem f_Op_width_20 : fetch 102 20 = some (.if_icmp .lt 13, 3, 33, 0, 0) := rfl
theorem f_Op_width_23 : fetch 102 23 = some (.iload_n 0, 1, 0, 0, 0) := rfl
theorem f_Op_width_24 : fetch 102 24 = some (.bipush 20, 2, 0, 0, 0) := rfl
theorem f_Op_width_26 : fetch 102 26 = some (.if_icmp .gt 7, 3, 33, 0, 0) := rfl
theorem f_Op_width_29 : fetch 102 29 = some (.iconst 1, 1, 0, 0, 0) := rfl
theorem f_Op_width_30 : fetch 102 30 = some (.goto 4, 3, 34, 0, 0) := rfl
theorem f_Op_width_33 : fetch 102 33 = some (.iconst 0, 1, 0, 0, 0) := rfl
theorem f_Op_width_34 : fetch 102 34 = some (.istore_n 2, 1, 0, 0, 0) := rfl
theorem f_Op_width_35 : fetch 102 35 = some (.iload_n 1, 1, 0, 0, 0) := rfl
theorem f_Op_width_36 : fetch 102 36 = some (.ifCond .ne 19, 3, 55, 0, 0) := rfl
theorem f_Op_width_39 : fetch 102 39 = some (.iload_n 2, 1, 0, 0, 0) := rfl
theorem f_Op_width_40 : fetch 102 40 = some (.ifCond .ne 15, 3, 55, 0, 0) := rfl
theorem f_Op_width_43 : fetch 102 43 = some (.iload_n 0, 1, 0, 0, 0) := rfl
theorem f_Op_width_44 : fetch 102 44 = some (.bipush 33, 2, 0, 0, 0) := rfl
theorem f_Op_width_46 : fetch 102 46 = some (.if_icmp .eq 9, 3, 55, 0, 0) := rfl
theorem f_Op_width_49 : fetch 102 49 = some (.iload_n 0, 1, 0, 0, 0) := rfl
theorem f_Op_width_50 : fetch 102 50 = some (.bipush 36, 2, 0, 0, 0) := rfl
theorem f_Op_width_52 : fetch 102 52 = some (.if_icmp .ne 7, 3, 59, 0, 0) := rfl
theorem f_Op_width_55 : fetch 102 55 = some (.iconst 2, 1, 0, 0, 0) := rfl
theorem f_Op_width_56 : fetch 102 56 = some (.goto 4, 3, 60, 0, 0) := rfl
theorem f_Op_width_59 : fetch 102 59 = some (.iconst 1, 1, 0, 0, 0) := rfl
theorem f_Op_width_60 : fetch 102 60 = some (.ireturn, 1, 0, 0, 0) := rfl
def F_Op_width_60  (y0 : Int32) (σ : SG) : Option (Int32 × SG) :=
  some (y0, σ)
set_option maxHeartbeats 4000000 in
theorem w_Op_width_60 {b d : Nat} {sc : SC} {pre tl : List PE} {B : Nat} {Q : Option Value → List PE → Prop} {res : Int32 × SG} (hB : B = b + pre.length)   (hQ : Q (some (.int res.1)) (HH pre tl SHc B res.2)) (lv : LV) (σ : SG) (y0 : Int32)  (hF : F_Op_width_60  y0 σ = some res) : Rn b sc d 102 60 lv [.int (y0)] (HH pre tl SHc B σ) Q := by
  unfold F_Op_width_60 at hF
  try dsimp only at hF
  cases hF
  exact r_ireturn f_Op_width_60 hQ
def F_Op_width_55   (σ : SG) : Option (Int32 × SG) :=
  F_Op_width_60 (2) σ
set_option maxHeartbeats 4000000 in
theorem w_Op_width_55 {b d : Nat} {sc : SC} {pre tl : List PE} {B : Nat} {Q : Option Value → List PE → Prop} {res : Int32 × SG} (hB : B = b + pre.length)   (hQ : Q (some (.int res.1)) (HH pre tl SHc B res.2)) (lv : LV) (σ : SG)   (hF : F_Op_width_55   σ = some res) : Rn b sc d 102 55 lv [] (HH pre tl SHc B σ) Q := by
  unfold F_Op_width_55 at hF
  try dsimp only at hF
  refine r_iconst f_Op_width_55 (v := 2) (by decide) ?_
  refine r_goto f_Op_width_56 ?_
  exact w_Op_width_60 hB   hQ _ (σ) (2) hF
def F_Op_width_34  (x0 : Int32) (x1 : Bool) (y0 : Bool) (σ : SG) : Option (Int32 × SG) :=
  if x1 = true then
  F_Op_width_55 σ
  else if y0 = true then
  F_Op_width_55 σ
  else if x0 = 33 then
  F_Op_width_55 σ
  else if x0 = 36 then
  F_Op_width_55 σ
  else F_Op_width_60 (1) σ
set_option maxHeartbeats 4000000 in
theorem w_Op_width_34 {b d : Nat} {sc : SC} {pre tl : List PE} {B : Nat} {Q : Option Value → List PE → Prop} {res : Int32 × SG} (hB : B = b + pre.length)   (hQ : Q (some (.int res.1)) (HH pre tl SHc B res.2)) (lv : LV) (σ : SG) (x0 : Int32) (x1 : Bool) (y0 : Bool) (l0 : lv.lookup 0 = some (.int (x0))) (l1 : lv.lookup 1 = some (.int (bz (x1)))) (hF : F_Op_width_34  x0 x1 y0 σ = some res) : Rn b sc d 102 34 lv [.int (bz (y0))] (HH pre tl SHc B σ) Q := by
  unfold F_Op_width_34 at hF
  try dsimp only at hF
  refine r_istore_n f_Op_width_34 ?_
  refine r_iload_n f_Op_width_35 (lk_put_ne l1 (by decide) (Or.inl rfl)) ?_
  refine r_if_ne f_Op_width_36 (fun c1 => ?_) (fun c1 => ?_)
  · rw [if_pos (bz_t c1)] at hF
    exact w_Op_width_55 hB   hQ _ (σ) hF
  · rw [if_neg (bz_nt (Decidable.not_not.mp c1))] at hF
    refine r_iload_n f_Op_width_39 lk_put ?_
    refine r_if_ne f_Op_width_40 (fun c2 => ?_) (fun c2 => ?_)
    · rw [if_pos (bz_t c2)] at hF
      exact w_Op_width_55 hB   hQ _ (σ) hF
    · rw [if_neg (bz_nt (Decidable.not_not.mp c2))] at hF
      refine r_iload_n f_Op_width_43 (lk_put_ne l0 (by decide) (Or.inl rfl)) ?_
      refine r_bipush f_Op_width_44 (v := 33) (by decide) ?_
      refine r_icmp_eq f_Op_width_46 (fun c3 => ?_) (fun c3 => ?_)
      · rw [if_pos c3] at hF
        exact w_Op_width_55 hB   hQ _ (σ) hF
      · rw [if_neg c3] at hF
        refine r_iload_n f_Op_width_49 (lk_put_ne l0 (by decide) (Or.inl rfl)) ?_
        refine r_bipush f_Op_width_50 (v := 36) (by decide) ?_
        refine r_icmp_ne f_Op_width_52 (fun c4 => ?_) (fun c4 => ?_)
        · rw [if_neg c4] at hF
          refine r_iconst f_Op_width_59 (v := 1) (by decide) ?_
          exact w_Op_width_60 hB   hQ _ (σ) (1) hF
        · rw [if_pos (Decidable.not_not.mp c4)] at hF
          exact w_Op_width_55 hB   hQ _ (σ) hF
def F_Op_width_33  (x0 : Int32) (x1 : Bool) (σ : SG) : Option (Int32 × SG) :=
  F_Op_width_34 (x0) (x1) (false) σ
set_option maxHeartbeats 4000000 in
theorem w_Op_width_33 {b d : Nat} {sc : SC} {pre tl : List PE} {B : Nat} {Q : Option Value → List PE → Prop} {res : Int32 × SG} (hB : B = b + pre.length)   (hQ : Q (some (.int res.1)) (HH pre tl SHc B res.2)) (lv : LV) (σ : SG) (x0 : Int32) (x1 : Bool) (l0 : lv.lookup 0 = some (.int (x0))) (l1 : lv.lookup 1 = some (.int (bz (x1)))) (hF : F_Op_width_33  x0 x1 σ = some res) : Rn b sc d 102 33 lv [] (HH pre tl SHc B σ) Q := by
  unfold F_Op_width_33 at hF
  try dsimp only at hF
  refine r_iconst f_Op_width_33 (v := 0) (by decide) ?_
  exact w_Op_width_34 hB   hQ _ (σ) (x0) (x1) (false) l0 l1 hF
def F_Op_width_16  (x0 : Int32) (y0 : Bool) (σ : SG) : Option (Int32 × SG) :=
  if x0 < 13 then
  F_Op_width_33 (x0) (y0) σ
  else if 20 < x0 then
  F_Op_width_33 (x0) (y0) σ
  else F_Op_width_34 (x0) (y0) (true) σ
set_option maxHeartbeats 4000000 in
theorem w_Op_width_16 {b d : Nat} {sc : SC} {pre tl : List PE} {B : Nat} {Q : Option Value → List PE → Prop} {res : Int32 × SG} (hB : B = b + pre.length)   (hQ : Q (some (.int res.1)) (HH pre tl SHc B res.2)) (lv : LV) (σ : SG) (x0 : Int32) (y0 : Bool) (l0 : lv.lookup 0 = some (.int (x0))) (hF : F_Op_width_16  x0 y0 σ = some res) : Rn b sc d 102 16 lv [.int (bz (y0))] (HH pre tl SHc B σ) Q := by
  unfold F_Op_width_16 at hF
  try dsimp only at hF
  refine r_istore_n f_Op_width_16 ?_
  refine r_iload_n f_Op_width_17 (lk_put_ne l0 (by decide) (Or.inl rfl)) ?_
  refine r_bipush f_Op_width_18 (v := 13) (by decide) ?_
  refine r_icmp_lt f_Op_width_20 (fun c5 => ?_) (fun c5 => ?_)
  · rw [if_pos c5] at hF
    exact w_Op_width_33 hB   hQ _ (σ) (x0) (y0) (lk_put_ne l0 (by decide) (Or.inl rfl)) lk_put hF
  · rw [if_neg c5] at hF
    refine r_iload_n f_Op_width_23 (lk_put_ne l0 (by decide) (Or.inl rfl)) ?_
    refine r_bipush f_Op_width_24 (v := 20) (by decide) ?_
    refine r_icmp_gt f_Op_width_26 (fun c6 => ?_) (fun c6 => ?_)
    · rw [if_pos c6] at hF
      exact w_Op_width_33 hB   hQ _ (σ) (x0) (y0) (lk_put_ne l0 (by decide) (Or.inl rfl)) lk_put hF
    · rw [if_neg c6] at hF
      refine r_iconst f_Op_width_29 (v := 1) (by decide) ?_
      refine r_goto f_Op_width_30 ?_
      exact w_Op_width_34 hB   hQ _ (σ) (x0) (y0) (true) (lk_put_ne l0 (by decide) (Or.inl rfl)) lk_put hF
def F_Op_width_15  (x0 : Int32) (σ : SG) : Option (Int32 × SG) :=
  F_Op_width_16 (x0) (false) σ
set_option maxHeartbeats 4000000 in
theorem w_Op_width_15 {b d : Nat} {sc : SC} {pre tl : List PE} {B : Nat} {Q : Option Value → List PE → Prop} {res : Int32 × SG} (hB : B = b + pre.length)   (hQ : Q (some (.int res.1)) (HH pre tl SHc B res.2)) (lv : LV) (σ : SG) (x0 : Int32) (l0 : lv.lookup 0 = some (.int (x0))) (hF : F_Op_width_15  x0 σ = some res) : Rn b sc d 102 15 lv [] (HH pre tl SHc B σ) Q := by
  unfold F_Op_width_15 at hF
  try dsimp only at hF
  refine r_iconst f_Op_width_15 (v := 0) (by decide) ?_
  exact w_Op_width_16 hB   hQ _ (σ) (x0) (false) l0 hF
def F_Op_width (a0 : Int32) (σ : SG) : Option (Int32 × SG) :=
  if a0 < 1 then
  F_Op_width_15 (a0) σ
  else if 6 < a0 then
  F_Op_width_15 (a0) σ
  else F_Op_width_16 (a0) (true) σ
set_option maxHeartbeats 4000000 in
theorem w_Op_width {b d : Nat} {pre tl : List PE} {B : Nat} {Q : Option Value → List PE → Prop} {res : Int32 × SG} (hB : B = b + pre.length)  {σ : SG} (a0 : Int32)  (hF : F_Op_width a0 σ = some res) (hQ : Q (some (.int res.1)) (HH pre tl SHc B res.2)) : Cl b d 102 [.int (a0)] (HH pre tl SHc B σ) Q := by
  unfold Cl
  unfold F_Op_width at hF
  try dsimp only at hF
  refine r_iload_n f_Op_width_0 rfl ?_
  refine r_iconst f_Op_width_1 (v := 1) (by decide) ?_
  refine r_icmp_lt f_Op_width_2 (fun c7 => ?_) (fun c7 => ?_)
  · rw [if_pos c7] at hF
    exact w_Op_width_15 hB   hQ _ (σ) (a0) rfl hF
  · rw [if_neg c7] at hF
    refine r_iload_n f_Op_width_5 rfl ?_
    refine r_bipush f_Op_width_6 (v := 6) (by decide) ?_
    refine r_icmp_gt f_Op_width_8 (fun c8 => ?_) (fun c8 => ?_)
    · rw [if_pos c8] at hF
      exact w_Op_width_15 hB   hQ _ (σ) (a0) rfl hF
    · rw [if_neg c8] at hF
      refine r_iconst f_Op_width_11 (v := 1) (by decide) ?_
      refine r_goto f_Op_width_12 ?_
      exact w_Op_width_16 hB   hQ _ (σ) (a0) (true) rfl hF
theorem f_Op_signed_0 : fetch 103 0 = some (.iload_n 0, 1, 0, 0, 0) := rfl
theorem f_Op_signed_1 : fetch 103 1 = some (.bipush 127, 2, 0, 0, 0) := rfl
theorem f_Op_signed_3 : fetch 103 3 = some (.if_icmp .le 11, 3, 14, 0, 0) := rfl
theorem f_Op_signed_6 : fetch 103 6 = some (.iload_n 0, 1, 0, 0, 0) := rfl
theorem f_Op_signed_7 : fetch 103 7 = some (.sipush 256, 3, 0, 0, 0) := rfl
theorem f_Op_signed_10 : fetch 103 10 = some (.isub, 1, 0, 0, 0) := rfl
theorem f_Op_signed_11 : fetch 103 11 = some (.goto 4, 3, 15, 0, 0) := rfl
theorem f_Op_signed_14 : fetch 103 14 = some (.iload_n 0, 1, 0, 0, 0) := rfl
theorem f_Op_signed_15 : fetch 103 15 = some (.ireturn, 1, 0, 0, 0) := rfl
def F_Op_signed_15  (y0 : Int32) (σ : SG) : Option (Int32 × SG) :=
  some (y0, σ)
set_option maxHeartbeats 4000000 in
theorem w_Op_signed_15 {b d : Nat} {sc : SC} {pre tl : List PE} {B : Nat} {Q : Option Value → List PE → Prop} {res : Int32 × SG} (hB : B = b + pre.length)   (hQ : Q (some (.int res.1)) (HH pre tl SHc B res.2)) (lv : LV) (σ : SG) (y0 : Int32)  (hF : F_Op_signed_15  y0 σ = some res) : Rn b sc d 103 15 lv [.int (y0)] (HH pre tl SHc B σ) Q := by
  unfold F_Op_signed_15 at hF
  try dsimp only at hF
  cases hF
  exact r_ireturn f_Op_signed_15 hQ
def F_Op_signed (a0 : Int32) (σ : SG) : Option (Int32 × SG) :=
  if a0 ≤ 127 then
  F_Op_signed_15 (a0) σ
  else F_Op_signed_15 ((a0 - 256)) σ
set_option maxHeartbeats 4000000 in
theorem w_Op_signed {b d : Nat} {pre tl : List PE} {B : Nat} {Q : Option Value → List PE → Prop} {res : Int32 × SG} (hB : B = b + pre.length)  {σ : SG} (a0 : Int32)  (hF : F_Op_signed a0 σ = some res) (hQ : Q (some (.int res.1)) (HH pre tl SHc B res.2)) : Cl b d 103 [.int (a0)] (HH pre tl SHc B σ) Q := by
  unfold Cl
  unfold F_Op_signed at hF
  try dsimp only at hF
  refine r_iload_n f_Op_signed_0 rfl ?_
  refine r_bipush f_Op_signed_1 (v := 127) (by decide) ?_
  refine r_icmp_le f_Op_signed_3 (fun c1 => ?_) (fun c1 => ?_)
  · rw [if_pos c1] at hF
    refine r_iload_n f_Op_signed_14 rfl ?_
    exact w_Op_signed_15 hB   hQ _ (σ) (a0) hF
  · rw [if_neg c1] at hF
    refine r_iload_n f_Op_signed_6 rfl ?_
    refine r_sipush f_Op_signed_7 (v := 256) (by decide) ?_
    refine r_isub f_Op_signed_10 ?_
    refine r_goto f_Op_signed_11 ?_
    exact w_Op_signed_15 hB   hQ _ (σ) ((a0 - 256)) hF
theorem f_Op_jumps_0 : fetch 104 0 = some (.iload_n 0, 1, 0, 0, 0) := rfl
theorem f_Op_jumps_1 : fetch 104 1 = some (.bipush 13, 2, 0, 0, 0) := rfl
theorem f_Op_jumps_3 : fetch 104 3 = some (.if_icmp .eq 15, 3, 18, 0, 0) := rfl
theorem f_Op_jumps_6 : fetch 104 6 = some (.iload_n 0, 1, 0, 0, 0) := rfl
theorem f_Op_jumps_7 : fetch 104 7 = some (.bipush 14, 2, 0, 0, 0) := rfl
theorem f_Op_jumps_9 : fetch 104 9 = some (.if_icmp .eq 9, 3, 18, 0, 0) := rfl
theorem f_Op_jumps_12 : fetch 104 12 = some (.iload_n 0, 1, 0, 0, 0) := rfl
theorem f_Op_jumps_13 : fetch 104 13 = some (.bipush 15, 2, 0, 0, 0) := rfl
theorem f_Op_jumps_15 : fetch 104 15 = some (.if_icmp .ne 7, 3, 22, 0, 0) := rfl
theorem f_Op_jumps_18 : fetch 104 18 = some (.iconst 1, 1, 0, 0, 0) := rfl
theorem f_Op_jumps_19 : fetch 104 19 = some (.goto 4, 3, 23, 0, 0) := rfl
theorem f_Op_jumps_22 : fetch 104 22 = some (.iconst 0, 1, 0, 0, 0) := rfl
theorem f_Op_jumps_23 : fetch 104 23 = some (.ireturn, 1, 2, 0, 0) := rfl
def F_Op_jumps_23  (y0 : Bool) (σ : SG) : Option (Bool × SG) :=
  some (y0, σ)
set_option maxHeartbeats 4000000 in
theorem w_Op_jumps_23 {b d : Nat} {sc : SC} {pre tl : List PE} {B : Nat} {Q : Option Value → List PE → Prop} {res : Bool × SG} (hB : B = b + pre.length)   (hQ : Q (some (.int (bz res.1))) (HH pre tl SHc B res.2)) (lv : LV) (σ : SG) (y0 : Bool)  (hF : F_Op_jumps_23  y0 σ = some res) : Rn b sc d 104 23 lv [.int (bz (y0))] (HH pre tl SHc B σ) Q := by
  unfold F_Op_jumps_23 at hF
  try dsimp only at hF
  cases hF
  exact r_zreturn f_Op_jumps_23 (bz_or _) hQ
def F_Op_jumps_18   (σ : SG) : Option (Bool × SG) :=
  F_Op_jumps_23 (true) σ
set_option maxHeartbeats 4000000 in
theorem w_Op_jumps_18 {b d : Nat} {sc : SC} {pre tl : List PE} {B : Nat} {Q : Option Value → List PE → Prop} {res : Bool × SG} (hB : B = b + pre.length)   (hQ : Q (some (.int (bz res.1))) (HH pre tl SHc B res.2)) (lv : LV) (σ : SG)   (hF : F_Op_jumps_18   σ = some res) : Rn b sc d 104 18 lv [] (HH pre tl SHc B σ) Q := by
  unfold F_Op_jumps_18 at hF
  try dsimp only at hF
  refine r_iconst f_Op_jumps_18 (v := 1) (by decide) ?_
  refine r_goto f_Op_jumps_19 ?_
  exact w_Op_jumps_23 hB   hQ _ (σ) (true) hF
def F_Op_jumps (a0 : Int32) (σ : SG) : Option (Bool × SG) :=
  if a0 = 13 then
  F_Op_jumps_18 σ
  else if a0 = 14 then
  F_Op_jumps_18 σ
  else if a0 = 15 then
  F_Op_jumps_18 σ
  else F_Op_jumps_23 (false) σ
set_option maxHeartbeats 4000000 in
theorem w_Op_jumps {b d : Nat} {pre tl : List PE} {B : Nat} {Q : Option Value → List PE → Prop} {res : Bool × SG} (hB : B = b + pre.length)  {σ : SG} (a0 : Int32)  (hF : F_Op_jumps a0 σ = some res) (hQ : Q (some (.int (bz res.1))) (HH pre tl SHc B res.2)) : Cl b d 104 [.int (a0)] (HH pre tl SHc B σ) Q := by
  unfold Cl
  unfold F_Op_jumps at hF
  try dsimp only at hF
  refine r_iload_n f_Op_jumps_0 rfl ?_
  refine r_bipush f_Op_jumps_1 (v := 13) (by decide) ?_
  refine r_icmp_eq f_Op_jumps_3 (fun c1 => ?_) (fun c1 => ?_)
  · rw [if_pos c1] at hF
    exact w_Op_jumps_18 hB   hQ _ (σ) hF
  · rw [if_neg c1] at hF
    refine r_iload_n f_Op_jumps_6 rfl ?_
    refine r_bipush f_Op_jumps_7 (v := 14) (by decide) ?_
    refine r_icmp_eq f_Op_jumps_9 (fun c2 => ?_) (fun c2 => ?_)
    · rw [if_pos c2] at hF
      exact w_Op_jumps_18 hB   hQ _ (σ) hF
    · rw [if_neg c2] at hF
      refine r_iload_n f_Op_jumps_12 rfl ?_
      refine r_bipush f_Op_jumps_13 (v := 15) (by decide) ?_
      refine r_icmp_ne f_Op_jumps_15 (fun c3 => ?_) (fun c3 => ?_)
      · rw [if_neg c3] at hF
        refine r_iconst f_Op_jumps_22 (v := 0) (by decide) ?_
        exact w_Op_jumps_23 hB   hQ _ (σ) (false) hF
      · rw [if_pos (Decidable.not_not.mp c3)] at hF
        exact w_Op_jumps_18 hB   hQ _ (σ) hF
theorem f_Op_goesBehind_0 : fetch 105 0 = some (.iload_n 0, 1, 0, 0, 0) := rfl
theorem f_Op_goesBehind_1 : fetch 105 1 = some (.bipush 13, 2, 0, 0, 0) := rfl
theorem f_Op_goesBehind_3 : fetch 105 3 = some (.if_icmp .eq 13, 3, 16, 0, 0) := rfl
theorem f_Op_goesBehind_6 : fetch 105 6 = some (.iload_n 0, 1, 0, 0, 0) := rfl
theorem f_Op_goesBehind_7 : fetch 105 7 = some (.bipush 34, 2, 0, 0, 0) := rfl
theorem f_Op_goesBehind_9 : fetch 105 9 = some (.if_icmp .ge 7, 3, 16, 0, 0) := rfl
theorem f_Op_goesBehind_12 : fetch 105 12 = some (.iconst 1, 1, 0, 0, 0) := rfl
theorem f_Op_goesBehind_13 : fetch 105 13 = some (.goto 4, 3, 17, 0, 0) := rfl
theorem f_Op_goesBehind_16 : fetch 105 16 = some (.iconst 0, 1, 0, 0, 0) := rfl
theorem f_Op_goesBehind_17 : fetch 105 17 = some (.ireturn, 1, 2, 0, 0) := rfl
def F_Op_goesBehind_17  (y0 : Bool) (σ : SG) : Option (Bool × SG) :=
  some (y0, σ)
set_option maxHeartbeats 4000000 in
theorem w_Op_goesBehind_17 {b d : Nat} {sc : SC} {pre tl : List PE} {B : Nat} {Q : Option Value → List PE → Prop} {res : Bool × SG} (hB : B = b + pre.length)   (hQ : Q (some (.int (bz res.1))) (HH pre tl SHc B res.2)) (lv : LV) (σ : SG) (y0 : Bool)  (hF : F_Op_goesBehind_17  y0 σ = some res) : Rn b sc d 105 17 lv [.int (bz (y0))] (HH pre tl SHc B σ) Q := by
  unfold F_Op_goesBehind_17 at hF
  try dsimp only at hF
  cases hF
  exact r_zreturn f_Op_goesBehind_17 (bz_or _) hQ
def F_Op_goesBehind_16   (σ : SG) : Option (Bool × SG) :=
  F_Op_goesBehind_17 (false) σ
set_option maxHeartbeats 4000000 in
theorem w_Op_goesBehind_16 {b d : Nat} {sc : SC} {pre tl : List PE} {B : Nat} {Q : Option Value → List PE → Prop} {res : Bool × SG} (hB : B = b + pre.length)   (hQ : Q (some (.int (bz res.1))) (HH pre tl SHc B res.2)) (lv : LV) (σ : SG)   (hF : F_Op_goesBehind_16   σ = some res) : Rn b sc d 105 16 lv [] (HH pre tl SHc B σ) Q := by
  unfold F_Op_goesBehind_16 at hF
  try dsimp only at hF
  refine r_iconst f_Op_goesBehind_16 (v := 0) (by decide) ?_
  exact w_Op_goesBehind_17 hB   hQ _ (σ) (false) hF
def F_Op_goesBehind (a0 : Int32) (σ : SG) : Option (Bool × SG) :=
  if a0 = 13 then
  F_Op_goesBehind_16 σ
  else if 34 ≤ a0 then
  F_Op_goesBehind_16 σ
  else F_Op_goesBehind_17 (true) σ
set_option maxHeartbeats 4000000 in
theorem w_Op_goesBehind {b d : Nat} {pre tl : List PE} {B : Nat} {Q : Option Value → List PE → Prop} {res : Bool × SG} (hB : B = b + pre.length)  {σ : SG} (a0 : Int32)  (hF : F_Op_goesBehind a0 σ = some res) (hQ : Q (some (.int (bz res.1))) (HH pre tl SHc B res.2)) : Cl b d 105 [.int (a0)] (HH pre tl SHc B σ) Q := by
  unfold Cl
  unfold F_Op_goesBehind at hF
  try dsimp only at hF
  refine r_iload_n f_Op_goesBehind_0 rfl ?_
  refine r_bipush f_Op_goesBehind_1 (v := 13) (by decide) ?_
  refine r_icmp_eq f_Op_goesBehind_3 (fun c1 => ?_) (fun c1 => ?_)
  · rw [if_pos c1] at hF
    exact w_Op_goesBehind_16 hB   hQ _ (σ) hF
  · rw [if_neg c1] at hF
    refine r_iload_n f_Op_goesBehind_6 rfl ?_
    refine r_bipush f_Op_goesBehind_7 (v := 34) (by decide) ?_
    refine r_icmp_ge f_Op_goesBehind_9 (fun c2 => ?_) (fun c2 => ?_)
    · rw [if_pos c2] at hF
      exact w_Op_goesBehind_16 hB   hQ _ (σ) hF
    · rw [if_neg c2] at hF
      refine r_iconst f_Op_goesBehind_12 (v := 1) (by decide) ?_
      refine r_goto f_Op_goesBehind_13 ?_
      exact w_Op_goesBehind_17 hB   hQ _ (σ) (true) hF
theorem f_Rg_isApartFromOrWithin_0 : fetch 115 0 = some (.aload_n 0, 1, 0, 0, 0) := rfl
theorem f_Rg_isApartFromOrWithin_1 : fetch 115 1 = some (.getfield 16, 3, 4, 2, 96) := rfl
theorem f_Rg_isApartFromOrWithin_4 : fetch 115 4 = some (.aload_n 1, 1, 0, 0, 0) := rfl
theorem f_Rg_isApartFromOrWithin_5 : fetch 115 5 = some (.getfield 7, 3, 4, 0, 97) := rfl
theorem f_Rg_isApartFromOrWithin_8 : fetch 115 8 = some (.if_icmp .le 14, 3, 22, 0, 0) := rfl
theorem f_Rg_isApartFromOrWithin_11 : fetch 115 11 = some (.aload_n 1, 1, 0, 0, 0) := rfl
theorem f_Rg_isApartFromOrWithin_12 : fetch 115 12 = some (.getfield 16, 3, 4, 2, 96) := rfl
theorem f_Rg_isApartFromOrWithin_15 : fetch 115 15 = some (.aload_n 0, 1, 0, 0, 0) := rfl
theorem f_Rg_isApartFromOrWithin_16 : fetch 115 16 = some (.getfield 7, 3, 4, 0, 97) := rfl
theorem f_Rg_isApartFromOrWithin_19 : fetch 115 19 = some (.if_icmp .gt 7, 3, 26, 0, 0) := rfl
theorem f_Rg_isApartFromOrWithin_22 : fetch 115 22 = some (.iconst 1, 1, 0, 0, 0) := rfl
theorem f_Rg_isApartFromOrWithin_23 : fetch 115 23 = some (.goto 4, 3, 27, 0, 0) := rfl
theorem f_Rg_isApartFromOrWithin_26 : fetch 115 26 = some (.iconst 0, 1, 0, 0, 0) := rfl
theorem f_Rg_isApartFromOrWithin_27 : fetch 115 27 = some (.istore_n 2, 1, 0, 0, 0) := rfl
theorem f_Rg_isApartFromOrWithin_28 : fetch 115 28 = some (.aload_n 0, 1, 0, 0, 0) := rfl
theorem f_Rg_isApartFromOrWithin_29 : fetch 115 29 = some (.getfield 7, 3, 4, 0, 97) := rfl
theorem f_Rg_isApartFromOrWithin_32 : fetch 115 32 = some (.aload_n 1, 1, 0, 0, 0) := rfl
theorem f_Rg_isApartFromOrWithin_33 : fetch 115 33 = some (.getfield 7, 3, 4, 0, 97) := rfl
theorem f_Rg_isApartFromOrWithin_36 : fetch 115 36 = some (.if_icmp .lt 18, 3, 54, 0, 0) := rfl
theorem f_Rg_isApartFromOrWithin_39 : fetch 115 39 = some (.aload_n 0, 1, 0, 0, 0) := rfl
theorem f_Rg_isApartFromOrWithin_40 : fetch 115 40 = some (.getfield 16, 3, 4, 2, 96) := rfl
theorem f_Rg_isApartFromOrWithin_43 : fetch 115 43 = some (.aload_n 1, 1, 0, 0, 0) := rfl
theorem f_Rg_isApartFromOrWithin_44 : fetch 115 44 = some (.getfield 13, 3, 4, 1, 98) := rfl
theorem f_Rg_isApartFromOrWithin_47 : fetch 115 47 = some (.if_icmp .gt 7, 3, 54, 0, 0) := rfl
theorem f_Rg_isApartFromOrWithin_50 : fetch 115 50 = some (.iconst 1, 1, 0, 0, 0) := rfl
theorem f_Rg_isApartFromOrWithin_51 : fetch 115 51 = some (.goto 4, 3, 55, 0, 0) := rfl
theorem f_Rg_isApartFromOrWithin_54 : fetch 115 54 = some (.iconst 0, 1, 0, 0, 0) := rfl
theorem f_Rg_isApartFromOrWithin_55 : fetch 115 55 = some (.istore_n 3, 1, 0, 0, 0) := rfl
theorem f_Rg_isApartFromOrWithin_56 : fetch 115 56 = some (.aload_n 0, 1, 0, 0, 0) := rfl
theorem f_Rg_isApartFromOrWithin_57 : fetch 115 57 = some (.getfield 7, 3, 4, 0, 97) := rfl
theorem f_Rg_isApartFromOrWithin_60 : fetch 115 60 = some (.aload_n 1, 1, 0, 0, 0) := rfl
theorem f_Rg_isApartFromOrWithin_61 : fetch 115 61 = some (.getfield 13, 3, 4, 1, 98) := rfl
theorem f_Rg_isApartFromOrWithin_64 : fetch 115 64 = some (.if_icmp .lt 18, 3, 82, 0, 0) := rfl
theorem f_Rg_isApartFromOrWithin_67 : fetch 115 67 = some (.aload_n 0, 1, 0, 0, 0) := rfl
theorem f_Rg_isApartFromOrWithin_68 : fetch 115 68 = some (.getfield 16, 3, 4, 2, 96) := rfl
theorem f_Rg_isApartFromOrWithin_71 : fetch 115 71 = some (.aload_n 1, 1, 0, 0, 0) := rfl
theorem f_Rg_isApartFromOrWithin_72 : fetch 115 72 = some (.getfield 16, 3, 4, 2, 96) := rfl
theorem f_Rg_isApartFromOrWithin_75 : fetch 115 75 = some (.if_icmp .gt 7, 3, 82, 0, 0) := rfl
theorem f_Rg_isApartFromOrWithin_78 : fetch 115 78 = some (.iconst 1, 1, 0, 0, 0) := rfl
theorem f_Rg_isApartFromOrWithin_79 : fetch 115 79 = some (.goto 4, 3, 83, 0, 0) := rfl
theorem f_Rg_isApartFromOrWithin_82 : fetch 115 82 = some (.iconst 0, 1, 0, 0, 0) := rfl
theorem f_Rg_isApartFromOrWithin_83 : fetch 115 83 = some (.istore 4, 2, 0, 0, 0) := rfl
theorem f_Rg_isApartFromOrWithin_85 : fetch 115 85 = some (.iload_n 2, 1, 0, 0, 0) := rfl
theorem f_Rg_isApartFromOrWithin_86 : fetch 115 86 = some (.ifCond .ne 12, 3, 98, 0, 0) := rfl
theorem f_Rg_isApartFromOrWithin_89 : fetch 115 89 = some (.iload_n 3, 1, 0, 0, 0) := rfl
theorem f_Rg_isApartFromOrWithin_90 : fetch 115 90 = some (.ifCond .ne 8, 3, 98, 0, 0) := rfl
theorem f_Rg_isApartFromOrWithin_93 : fetch 115 93 = some (.iload 4, 2, 0, 0, 0) := rfl
theorem f_Rg_isApartFromOrWithin_95 : fetch 115 95 = some (.ifCond .eq 7, 3, 102, 0, 0) := rfl
theorem f_Rg_isApartFromOrWithin_98 : fetch 115 98 = some (.iconst 1, 1, 0, 0, 0) := rfl
theorem f_Rg_isApartFromOrWithin_99 : fetch 115 99 = some (.goto 4, 3, 103, 0, 0) := rfl
theorem f_Rg_isApartFromOrWithin_102 : fetch 115 102 = some (.iconst 0, 1, 0, 0, 0) := rfl
theorem f_Rg_isApartFromOrWithin_103 : fetch 115 103 = some (.ireturn, 1, 2, 0, 0) := rfl
def F_Rg_isApartFromOrWithin_103  (y0 : Bool) (σ : SG) : Option (Bool × SG) :=
  some (y0, σ)
set_option maxHeartbeats 4000000 in
theorem w_Rg_isApartFromOrWithin_103 {b d : Nat} {sc : SC} {pre tl : List PE} {B : Nat} {Q : Option Value → List PE → Prop} {res : Bool × SG} (hB : B = b + pre.length)   (hQ : Q (some (.int (bz res.1))) (HH pre tl SHc B res.2)) (lv : LV) (σ : SG) (y0 : Bool)  (hF : F_Rg_isApartFromOrWithin_103  y0 σ = some res) : Rn b sc d 115 103 lv [.int (bz (y0))] (HH pre tl SHc B σ) Q := by
  unfold F_Rg_isApartFromOrWithin_103 at hF
  try dsimp only at hF
  cases hF
  exact r_zreturn f_Rg_isApartFromOrWithin_103 (bz_or _) hQ
def F_Rg_isApartFromOrWithin_98   (σ : SG) : Option (Bool × SG) :=
  F_Rg_isApartFromOrWithin_103 (true) σ
set_option maxHeartbeats 4000000 in
theorem w_Rg_isApartFromOrWithin_98 {b d : Nat} {sc : SC} {pre tl : List PE} {B : Nat} {Q : Option Value → List PE → Prop} {res : Bool × SG} (hB : B = b + pre.length)   (hQ : Q (some (.int (bz res.1))) (HH pre tl SHc B res.2)) (lv : LV) (σ : SG)   (hF : F_Rg_isApartFromOrWithin_98   σ = some res) : Rn b sc d 115 98 lv [] (HH pre tl SHc B σ) Q := by
  unfold F_Rg_isApartFromOrWithin_98 at hF
  try dsimp only at hF
  refine r_iconst f_Rg_isApartFromOrWithin_98 (v := 1) (by decide) ?_
  refine r_goto f_Rg_isApartFromOrWithin_99 ?_
  exact w_Rg_isApartFromOrWithin_103 hB   hQ _ (σ) (true) hF
def F_Rg_isApartFromOrWithin_83  (x2 : Bool) (x3 : Bool) (y0 : Bool) (σ : SG) : Option (Bool × SG) :=
  if x2 = true then
  F_Rg_isApartFromOrWithin_98 σ
  else if x3 = true then
  F_Rg_isApartFromOrWithin_98 σ
  else if y0 = true then
  F_Rg_isApartFromOrWithin_98 σ
  else F_Rg_isApartFromOrWithin_103 (false) σ
set_option maxHeartbeats 4000000 in
theorem w_Rg_isApartFromOrWithin_83 {b d : Nat} {sc : SC} {pre tl : List PE} {B : Nat} {Q : Option Value → List PE → Prop} {res : Bool × SG} (hB : B = b + pre.length)   (hQ : Q (some (.int (bz res.1))) (HH pre tl SHc B res.2)) (lv : LV) (σ : SG) (x2 : Bool) (x3 : Bool) (y0 : Bool) (l2 : lv.lookup 2 = some (.int (bz (x2)))) (l3 : lv.lookup 3 = some (.int (bz (x3)))) (hF : F_Rg_isApartFromOrWithin_83  x2 x3 y0 σ = some res) : Rn b sc d 115 83 lv [.int (bz (y0))] (HH pre tl SHc B σ) Q := by
  unfold F_Rg_isApartFromOrWithin_83 at hF
  try dsimp only at hF
  refine r_istore f_Rg_isApartFromOrWithin_83 ?_
  refine r_iload_n f_Rg_isApartFromOrWithin_85 (lk_put_ne l2 (by decide) (Or.inl rfl)) ?_
  refine r_if_ne f_Rg_isApartFromOrWithin_86 (fun c1 => ?_) (fun c1 => ?_)
  · rw [if_pos (bz_t c1)] at hF
    exact w_Rg_isApartFromOrWithin_98 hB   hQ _ (σ) hF
  · rw [if_neg (bz_nt (Decidable.not_not.mp c1))] at hF
    refine r_iload_n f_Rg_isApartFromOrWithin_89 (lk_put_ne l3 (by decide) (Or.inl rfl)) ?_
    refine r_if_ne f_Rg_isApartFromOrWithin_90 (fun c2 => ?_) (fun c2 => ?_)
    · rw [if_pos (bz_t c2)] at hF
      exact w_Rg_isApartFromOrWithin_98 hB   hQ _ (σ) hF
    · rw [if_neg (bz_nt (Decidable.not_not.mp c2))] at hF
      refine r_iload f_Rg_isApartFromOrWithin_93 lk_put ?_
      refine r_if_eq f_Rg_isApartFromOrWithin_95 (fun c3 => ?_) (fun c3 => ?_)
      · rw [if_neg (bz_nt c3)] at hF
        refine r_iconst f_Rg_isApartFromOrWithin_102 (v := 0) (by decide) ?_
        exact w_Rg_isApartFromOrWithin_103 hB   hQ _ (σ) (false) hF
      · rw [if_pos (bz_t c3)] at hF
        exact w_Rg_isApartFromOrWithin_98 hB   hQ _ (σ) hF
def F_Rg_isApartFromOrWithin_82  (x2 : Bool) (x3 : Bool) (σ : SG) : Option (Bool × SG) :=
  F_Rg_isApartFromOrWithin_83 (x2) (x3) (false) σ
set_option maxHeartbeats 4000000 in
theorem w_Rg_isApartFromOrWithin_82 {b d : Nat} {sc : SC} {pre tl : List PE} {B : Nat} {Q : Option Value → List PE → Prop} {res : Bool × SG} (hB : B = b + pre.length)   (hQ : Q (some (.int (bz res.1))) (HH pre tl SHc B res.2)) (lv : LV) (σ : SG) (x2 : Bool) (x3 : Bool) (l2 : lv.lookup 2 = some (.int (bz (x2)))) (l3 : lv.lookup 3 = some (.int (bz (x3)))) (hF : F_Rg_isApartFromOrWithin_82  x2 x3 σ = some res) : Rn b sc d 115 82 lv [] (HH pre tl SHc B σ) Q := by
  unfold F_Rg_isApartFromOrWithin_82 at hF
  try dsimp only at hF
  refine r_iconst f_Rg_isApartFromOrWithin_82 (v := 0) (by decide) ?_
  exact w_Rg_isApartFromOrWithin_83 hB   hQ _ (σ) (x2) (x3) (false) l2 l3 hF
def F_Rg_isApartFromOrWithin_55  (x0 : Nat) (x1 : Nat) (x2 : Bool) (y0 : Bool) (σ : SG) : Option (Bool × SG) :=
  if (σ.1 (x0) 0) < (σ.1 (x1) 1) then
  F_Rg_isApartFromOrWithin_82 (x2) (y0) σ
  else if (σ.1 (x1) 2) < (σ.1 (x0) 2) then
  F_Rg_isApartFromOrWithin_82 (x2) (y0) σ
  else F_Rg_isApartFromOrWithin_83 (x2) (y0) (true) σ
set_option maxHeartbeats 4000000 in
theorem w_Rg_isApartFromOrWithin_55 {b d : Nat} {sc : SC} {pre tl : List PE} {B : Nat} {Q : Option Value → List PE → Prop} {res : Bool × SG} (hB : B = b + pre.length)   (hQ : Q (some (.int (bz res.1))) (HH pre tl SHc B res.2)) (lv : LV) (σ : SG) (x0 : Nat) (x1 : Nat) (x2 : Bool) (y0 : Bool) (hx0 : isC SHc (x0) 4 = true) (hx1 : isC SHc (x1) 4 = true) (l0 : lv.lookup 0 = some (.ref (B + (x0)))) (l1 : lv.lookup 1 = some (.ref (B + (x1)))) (l2 : lv.lookup 2 = some (.int (bz (x2)))) (hF : F_Rg_isApartFromOrWithin_55  x0 x1 x2 y0 σ = some res) : Rn b sc d 115 55 lv [.int (bz (y0))] (HH pre tl SHc B σ) Q := by
  unfold F_Rg_isApartFromOrWithin_55 at hF
  try dsimp only at hF
  refine r_istore_n f_Rg_isApartFromOrWithin_55 ?_
  refine r_aload_n f_Rg_isApartFromOrWithin_56 (lk_put_ne l0 (by decide) (Or.inl rfl)) ?_
  refine t_geti hB hx0 f_Rg_isApartFromOrWithin_57 rfl ?_
  refine r_aload_n f_Rg_isApartFromOrWithin_60 (lk_put_ne l1 (by decide) (Or.inl rfl)) ?_
  refine t_geti hB hx1 f_Rg_isApartFromOrWithin_61 rfl ?_
  refine r_icmp_lt f_Rg_isApartFromOrWithin_64 (fun c4 => ?_) (fun c4 => ?_)
  · rw [if_pos c4] at hF
    exact w_Rg_isApartFromOrWithin_82 hB   hQ _ (σ) (x2) (y0) (lk_put_ne l2 (by decide) (Or.inl rfl)) lk_put hF
  · rw [if_neg c4] at hF
    refine r_aload_n f_Rg_isApartFromOrWithin_67 (lk_put_ne l0 (by decide) (Or.inl rfl)) ?_
    refine t_geti hB hx0 f_Rg_isApartFromOrWithin_68 rfl ?_
    refine r_aload_n f_Rg_isApartFromOrWithin_71 (lk_put_ne l1 (by decide) (Or.inl rfl)) ?_
    refine t_geti hB hx1 f_Rg_isApartFromOrWithin_72 rfl ?_
    refine r_icmp_gt f_Rg_isApartFromOrWithin_75 (fun c5 => ?_) (fun c5 => ?_)
    · rw [if_pos c5] at hF
      exact w_Rg_isApartFromOrWithin_82 hB   hQ _ (σ) (x2) (y0) (lk_put_ne l2 (by decide) (Or.inl rfl)) lk_put hF
    · rw [if_neg c5] at hF
      refine r_iconst f_Rg_isApartFromOrWithin_78 (v := 1) (by decide) ?_
      refine r_goto f_Rg_isApartFromOrWithin_79 ?_
      exact w_Rg_isApartFromOrWithin_83 hB   hQ _ (σ) (x2) (y0) (true) (lk_put_ne l2 (by decide) (Or.inl rfl)) lk_put hF
def F_Rg_isApartFromOrWithin_54  (x0 : Nat) (x1 : Nat) (x2 : Bool) (σ : SG) : Option (Bool × SG) :=
  F_Rg_isApartFromOrWithin_55 (x0) (x1) (x2) (false) σ
set_option maxHeartbeats 4000000 in
theorem w_Rg_isApartFromOrWithin_54 {b d : Nat} {sc : SC} {pre tl : List PE} {B : Nat} {Q : Option Value → List PE → Prop} {res : Bool × SG} (hB : B = b + pre.length)   (hQ : Q (some (.int (bz res.1))) (HH pre tl SHc B res.2)) (lv : LV) (σ : SG) (x0 : Nat) (x1 : Nat) (x2 : Bool) (hx0 : isC SHc (x0) 4 = true) (hx1 : isC SHc (x1) 4 = true) (l0 : lv.lookup 0 = some (.ref (B + (x0)))) (l1 : lv.lookup 1 = some (.ref (B + (x1)))) (l2 : lv.lookup 2 = some (.int (bz (x2)))) (hF : F_Rg_isApartFromOrWithin_54  x0 x1 x2 σ = some res) : Rn b sc d 115 54 lv [] (HH pre tl SHc B σ) Q := by
  unfold F_Rg_isApartFromOrWithin_54 at hF
  try dsimp only at hF
  refine r_iconst f_Rg_isApartFromOrWithin_54 (v := 0) (by decide) ?_
  exact w_Rg_isApartFromOrWithin_55 hB   hQ _ (σ) (x0) (x1) (x2) (false) hx0 hx1 l0 l1 l2 hF
def F_Rg_isApartFromOrWithin_27  (x0 : Nat) (x1 : Nat) (y0 : Bool) (σ : SG) : Option (Bool × SG) :=
  if (σ.1 (x0) 0) < (σ.1 (x1) 0) then
  F_Rg_isApartFromOrWithin_54 (x0) (x1) (y0) σ
  else if (σ.1 (x1) 1) < (σ.1 (x0) 2) then
  F_Rg_isApartFromOrWithin_54 (x0) (x1) (y0) σ
  else F_Rg_isApartFromOrWithin_55 (x0) (x1) (y0) (true) σ
set_option maxHeartbeats 4000000 in
theorem w_Rg_isApartFromOrWithin_27 {b d : Nat} {sc : SC} {pre tl : List PE} {B : Nat} {Q : Option Value → List PE → Prop} {res : Bool × SG} (hB : B = b + pre.length)   (hQ : Q (some (.int (bz res.1))) (HH pre tl SHc B res.2)) (lv : LV) (σ : SG) (x0 : Nat) (x1 : Nat) (y0 : Bool) (hx0 : isC SHc (x0) 4 = true) (hx1 : isC SHc (x1) 4 = true) (l0 : lv.lookup 0 = some (.ref (B + (x0)))) (l1 : lv.lookup 1 = some (.ref (B + (x1)))) (hF : F_Rg_isApartFromOrWithin_27  x0 x1 y0 σ = some res) : Rn b sc d 115 27 lv [.int (bz (y0))] (HH pre tl SHc B σ) Q := by
  unfold F_Rg_isApartFromOrWithin_27 at hF
  try dsimp only at hF
  refine r_istore_n f_Rg_isApartFromOrWithin_27 ?_
  refine r_aload_n f_Rg_isApartFromOrWithin_28 (lk_put_ne l0 (by decide) (Or.inl rfl)) ?_
  refine t_geti hB hx0 f_Rg_isApartFromOrWithin_29 rfl ?_
  refine r_aload_n f_Rg_isApartFromOrWithin_32 (lk_put_ne l1 (by decide) (Or.inl rfl)) ?_
  refine t_geti hB hx1 f_Rg_isApartFromOrWithin_33 rfl ?_
  refine r_icmp_lt f_Rg_isApartFromOrWithin_36 (fun c6 => ?_) (fun c6 => ?_)
  · rw [if_pos c6] at hF
    exact w_Rg_isApartFromOrWithin_54 hB   hQ _ (σ) (x0) (x1) (y0) hx0 hx1 (lk_put_ne l0 (by decide) (Or.inl rfl)) (lk_put_ne l1 (by decide) (Or.inl rfl)) lk_put hF
  · rw [if_neg c6] at hF
    refine r_aload_n f_Rg_isApartFromOrWithin_39 (lk_put_ne l0 (by decide) (Or.inl rfl)) ?_
    refine t_geti hB hx0 f_Rg_isApartFromOrWithin_40 rfl ?_
    refine r_aload_n f_Rg_isApartFromOrWithin_43 (lk_put_ne l1 (by decide) (Or.inl rfl)) ?_
    refine t_geti hB hx1 f_Rg_isApartFromOrWithin_44 rfl ?_
    refine r_icmp_gt f_Rg_isApartFromOrWithin_47 (fun c7 => ?_) (fun c7 => ?_)
    · rw [if_pos c7] at hF
      exact w_Rg_isApartFromOrWithin_54 hB   hQ _ (σ) (x0) (x1) (y0) hx0 hx1 (lk_put_ne l0 (by decide) (Or.inl rfl)) (lk_put_ne l1 (by decide) (Or.inl rfl)) lk_put hF
    · rw [if_neg c7] at hF
      refine r_iconst f_Rg_isApartFromOrWithin_50 (v := 1) (by decide) ?_
      refine r_goto f_Rg_isApartFromOrWithin_51 ?_
      exact w_Rg_isApartFromOrWithin_55 hB   hQ _ (σ) (x0) (x1) (y0) (true) hx0 hx1 (lk_put_ne l0 (by decide) (Or.inl rfl)) (lk_put_ne l1 (by decide) (Or.inl rfl)) lk_put hF
def F_Rg_isApartFromOrWithin_22  (x0 : Nat) (x1 : Nat) (σ : SG) : Option (Bool × SG) :=
  F_Rg_isApartFromOrWithin_27 (x0) (x1) (true) σ
set_option maxHeartbeats 4000000 in
theorem w_Rg_isApartFromOrWithin_22 {b d : Nat} {sc : SC} {pre tl : List PE} {B : Nat} {Q : Option Value → List PE → Prop} {res : Bool × SG} (hB : B = b + pre.length)   (hQ : Q (some (.int (bz res.1))) (HH pre tl SHc B res.2)) (lv : LV) (σ : SG) (x0 : Nat) (x1 : Nat) (hx0 : isC SHc (x0) 4 = true) (hx1 : isC SHc (x1) 4 = true) (l0 : lv.lookup 0 = some (.ref (B + (x0)))) (l1 : lv.lookup 1 = some (.ref (B + (x1)))) (hF : F_Rg_isApartFromOrWithin_22  x0 x1 σ = some res) : Rn b sc d 115 22 lv [] (HH pre tl SHc B σ) Q := by
  unfold F_Rg_isApartFromOrWithin_22 at hF
  try dsimp only at hF
  refine r_iconst f_Rg_isApartFromOrWithin_22 (v := 1) (by decide) ?_
  refine r_goto f_Rg_isApartFromOrWithin_23 ?_
  exact w_Rg_isApartFromOrWithin_27 hB   hQ _ (σ) (x0) (x1) (true) hx0 hx1 l0 l1 hF
def F_Rg_isApartFromOrWithin (a0 : Nat) (a1 : Nat) (σ : SG) : Option (Bool × SG) :=
  if (σ.1 (a0) 2) ≤ (σ.1 (a1) 0) then
  F_Rg_isApartFromOrWithin_22 (a0) (a1) σ
  else if (σ.1 (a0) 0) < (σ.1 (a1) 2) then
  F_Rg_isApartFromOrWithin_27 (a0) (a1) (false) σ
  else F_Rg_isApartFromOrWithin_22 (a0) (a1) σ
set_option maxHeartbeats 4000000 in
theorem w_Rg_isApartFromOrWithin {b d : Nat} {pre tl : List PE} {B : Nat} {Q : Option Value → List PE → Prop} {res : Bool × SG} (hB : B = b + pre.length)  {σ : SG} (a0 : Nat) (a1 : Nat) (ha0 : isC SHc (a0) 4 = true) (ha1 : isC SHc (a1) 4 = true) (hF : F_Rg_isApartFromOrWithin a0 a1 σ = some res) (hQ : Q (some (.int (bz res.1))) (HH pre tl SHc B res.2)) : Cl b d 115 [.ref (B + (a0)), .ref (B + (a1))] (HH pre tl SHc B σ) Q := by
  unfold Cl
  unfold F_Rg_isApartFromOrWithin at hF
  try dsimp only at hF
  refine r_aload_n f_Rg_isApartFromOrWithin_0 rfl ?_
  refine t_geti hB ha0 f_Rg_isApartFromOrWithin_1 rfl ?_
  refine r_aload_n f_Rg_isApartFromOrWithin_4 rfl ?_
  refine t_geti hB ha1 f_Rg_isApartFromOrWithin_5 rfl ?_
  refine r_icmp_le f_Rg_isApartFromOrWithin_8 (fun c8 => ?_) (fun c8 => ?_)
  · rw [if_pos c8] at hF
    exact w_Rg_isApartFromOrWithin_22 hB   hQ _ (σ) (a0) (a1) ha0 ha1 rfl rfl hF
  · rw [if_neg c8] at hF
    refine r_aload_n f_Rg_isApartFromOrWithin_11 rfl ?_
    refine t_geti hB ha1 f_Rg_isApartFromOrWithin_12 rfl ?_
    refine r_aload_n f_Rg_isApartFromOrWithin_15 rfl ?_
    refine t_geti hB ha0 f_Rg_isApartFromOrWithin_16 rfl ?_
    refine r_icmp_gt f_Rg_isApartFromOrWithin_19 (fun c9 => ?_) (fun c9 => ?_)
    · rw [if_pos c9] at hF
      refine r_iconst f_Rg_isApartFromOrWithin_26 (v := 0) (by decide) ?_
      exact w_Rg_isApartFromOrWithin_27 hB   hQ _ (σ) (a0) (a1) (false) ha0 ha1 rfl rfl hF
    · rw [if_neg c9] at hF
      exact w_Rg_isApartFromOrWithin_22 hB   hQ _ (σ) (a0) (a1) ha0 ha1 rfl rfl hF
theorem f_Rw_size_0 : fetch 156 0 = some (.iconst 0, 1, 0, 0, 0) := rfl
theorem f_Rw_size_1 : fetch 156 1 = some (.istore_n 1, 1, 0, 0, 0) := rfl
theorem f_Rw_size_2 : fetch 156 2 = some (.iload_n 1, 1, 0, 0, 0) := rfl
theorem f_Rw_size_3 : fetch 156 3 = some (.bipush 8, 2, 0, 0, 0) := rfl
theorem f_Rw_size_5 : fetch 156 5 = some (.if_icmp .ge 17, 3, 22, 0, 0) := rfl
theorem f_Rw_size_8 : fetch 156 8 = some (.iload_n 0, 1, 0, 0, 0) := rfl
theorem f_Rw_size_9 : fetch 156 9 = some (.iconst 4, 1, 0, 0, 0) := rfl
theorem f_Rw_size_10 : fetch 156 10 = some (.iload_n 1, 1, 0, 0, 0) := rfl
theorem f_Rw_size_11 : fetch 156 11 = some (.imul, 1, 0, 0, 0) := rfl
theorem f_Rw_size_12 : fetch 156 12 = some (.iushr, 1, 0, 0, 0) := rfl
theorem f_Rw_size_13 : fetch 156 13 = some (.ifCond .eq 9, 3, 22, 0, 0) := rfl
theorem f_Rw_size_16 : fetch 156 16 = some (.iinc 1 1, 3, 0, 0, 0) := rfl
theorem f_Rw_size_19 : fetch 156 19 = some (.goto (-17), 3, 2, 0, 0) := rfl
theorem f_Rw_size_22 : fetch 156 22 = some (.iload_n 1, 1, 0, 0, 0) := rfl
theorem f_Rw_size_23 : fetch 156 23 = some (.ireturn, 1, 0, 0, 0) := rfl
def F_Rw_size_22  (x1 : Int32) (σ : SG) : Option (Int32 × SG) :=
  some (x1, σ)
set_option maxHeartbeats 4000000 in
theorem w_Rw_size_22 {b d : Nat} {sc : SC} {pre tl : List PE} {B : Nat} {Q : Option Value → List PE → Prop} {res : Int32 × SG} (hB : B = b + pre.length)   (hQ : Q (some (.int res.1)) (HH pre tl SHc B res.2)) (lv : LV) (σ : SG) (x1 : Int32) (l1 : lv.lookup 1 = some (.int (x1))) (hF : F_Rw_size_22  x1 σ = some res) : Rn b sc d 156 22 lv [] (HH pre tl SHc B σ) Q := by
  unfold F_Rw_size_22 at hF
  try dsimp only at hF
  refine r_iload_n f_Rw_size_22 l1 ?_
  cases hF
  exact r_ireturn f_Rw_size_23 hQ
def F_Rw_size_2  : Nat → Int32 → Int32 → SG → Option (Int32 × SG)
  | 0, _, _, _ => none
  | n + 1, x0, x1, σ =>
  if 8 ≤ x1 then
  F_Rw_size_22 (x1) σ
  else if (((x0).toUInt32 >>> (((4 * x1)).toUInt32 &&& Int32.toUInt32 31)).toInt32) = 0 then
  F_Rw_size_22 (x1) σ
  else F_Rw_size_2  n (x0) ((x1 + 1)) σ
set_option maxHeartbeats 4000000 in
theorem w_Rw_size_2 {b d : Nat} {sc : SC} {pre tl : List PE} {B : Nat} {Q : Option Value → List PE → Prop} {res : Int32 × SG} (hB : B = b + pre.length)   (hQ : Q (some (.int res.1)) (HH pre tl SHc B res.2)) : ∀ (n : Nat) (lv : LV) (σ : SG) (x0 : Int32) (x1 : Int32), lv.lookup 0 = some (.int (x0)) → lv.lookup 1 = some (.int (x1)) → F_Rw_size_2  n x0 x1 σ = some res → Rn b sc d 156 2 lv [] (HH pre tl SHc B σ) Q := by
  intro n
  induction n with
  | zero => intro lv σ x0 x1 l0 l1 hF; cases hF
  | succ n ih =>
    intro lv σ x0 x1 l0 l1 hF
    unfold F_Rw_size_2 at hF
    try dsimp only at hF
    refine r_iload_n f_Rw_size_2 l1 ?_
    refine r_bipush f_Rw_size_3 (v := 8) (by decide) ?_
    refine r_icmp_ge f_Rw_size_5 (fun c1 => ?_) (fun c1 => ?_)
    · rw [if_pos c1] at hF
      exact w_Rw_size_22 hB   hQ _ (σ) (x1) l1 hF
    · rw [if_neg c1] at hF
      refine r_iload_n f_Rw_size_8 l0 ?_
      refine r_iconst f_Rw_size_9 (v := 4) (by decide) ?_
      refine r_iload_n f_Rw_size_10 l1 ?_
      refine r_imul f_Rw_size_11 ?_
      refine r_iushr f_Rw_size_12 ?_
      refine r_if_eq f_Rw_size_13 (fun c2 => ?_) (fun c2 => ?_)
      · rw [if_pos c2] at hF
        exact w_Rw_size_22 hB   hQ _ (σ) (x1) l1 hF
      · rw [if_neg c2] at hF
        refine r_iinc f_Rw_size_16 l1 (w := x1 + 1) rfl ?_
        refine r_goto f_Rw_size_19 ?_
        exact ih _ (σ) (x0) ((x1 + 1)) (lk_put_ne l0 (by decide) (Or.inl rfl)) lk_put hF
def F_Rw_size (a0 : Int32) (σ : SG) : Option (Int32 × SG) :=
  F_Rw_size_2  5000 (a0) (0) σ
set_option maxHeartbeats 4000000 in
theorem w_Rw_size {b d : Nat} {pre tl : List PE} {B : Nat} {Q : Option Value → List PE → Prop} {res : Int32 × SG} (hB : B = b + pre.length)  {σ : SG} (a0 : Int32)  (hF : F_Rw_size a0 σ = some res) (hQ : Q (some (.int res.1)) (HH pre tl SHc B res.2)) : Cl b d 156 [.int (a0)] (HH pre tl SHc B σ) Q := by
  unfold Cl
  unfold F_Rw_size at hF
  try dsimp only at hF
  refine r_iconst f_Rw_size_0 (v := 0) (by decide) ?_
  refine r_istore_n f_Rw_size_1 ?_
  exact w_Rw_size_2 hB   hQ 5000 _ (σ) (a0) (0) (lk_put_ne rfl (by decide) (Or.inl rfl)) lk_put hF
theorem f_Rw_with_0 : fetch 155 0 = some (.iload_n 0, 1, 0, 0, 0) := rfl
theorem f_Rw_with_1 : fetch 155 1 = some (.invokestatic 11, 3, 156, 1, 161) := rfl
theorem f_Rw_with_4 : fetch 155 4 = some (.istore_n 2, 1, 0, 0, 0) := rfl
theorem f_Rw_with_5 : fetch 155 5 = some (.iload_n 0, 1, 0, 0, 0) := rfl
theorem f_Rw_with_6 : fetch 155 6 = some (.iconst (-1), 1, 0, 0, 0) := rfl
theorem f_Rw_with_7 : fetch 155 7 = some (.if_icmp .eq 13, 3, 20, 0, 0) := rfl
theorem f_Rw_with_10 : fetch 155 10 = some (.iload_n 2, 1, 0, 0, 0) := rfl
theorem f_Rw_with_11 : fetch 155 11 = some (.bipush 8, 2, 0, 0, 0) := rfl
theorem f_Rw_with_13 : fetch 155 13 = some (.if_icmp .ge 7, 3, 20, 0, 0) := rfl
theorem f_Rw_with_16 : fetch 155 16 = some (.iload_n 1, 1, 0, 0, 0) := rfl
theorem f_Rw_with_17 : fetch 155 17 = some (.ifCond .ne 5, 3, 22, 0, 0) := rfl
theorem f_Rw_with_20 : fetch 155 20 = some (.iconst (-1), 1, 0, 0, 0) := rfl
theorem f_Rw_with_21 : fetch 155 21 = some (.ireturn, 1, 0, 0, 0) := rfl
theorem f_Rw_with_22 : fetch 155 22 = some (.iload_n 0, 1, 0, 0, 0) := rfl
theorem f_Rw_with_23 : fetch 155 23 = some (.iload_n 1, 1, 0, 0, 0) := rfl
theorem f_Rw_with_24 : fetch 155 24 = some (.iconst 4, 1, 0, 0, 0) := rfl
theorem f_Rw_with_25 : fetch 155 25 = some (.iload_n 2, 1, 0, 0, 0) := rfl
theorem f_Rw_with_26 : fetch 155 26 = some (.imul, 1, 0, 0, 0) := rfl
theorem f_Rw_with_27 : fetch 155 27 = some (.ishl, 1, 0, 0, 0) := rfl
theorem f_Rw_with_28 : fetch 155 28 = some (.ior, 1, 0, 0, 0) := rfl
theorem f_Rw_with_29 : fetch 155 29 = some (.ireturn, 1, 0, 0, 0) := rfl
def F_Rw_with_20   (σ : SG) : Option (Int32 × SG) :=
  some ((-1), σ)
set_option maxHeartbeats 4000000 in
theorem w_Rw_with_20 {b d : Nat} {sc : SC} {pre tl : List PE} {B : Nat} {Q : Option Value → List PE → Prop} {res : Int32 × SG} (hB : B = b + pre.length) (hd : 1 ≤ d)   (hQ : Q (some (.int res.1)) (HH pre tl SHc B res.2)) (lv : LV) (σ : SG)   (hF : F_Rw_with_20   σ = some res) : Rn b sc d 155 20 lv [] (HH pre tl SHc B σ) Q := by
  obtain ⟨e0, rfl⟩ : ∃ e, d = e + 1 := ⟨d - 1, by omega⟩
  unfold F_Rw_with_20 at hF
  try dsimp only at hF
  refine r_iconst f_Rw_with_20 (v := (-1)) (by decide) ?_
  cases hF
  exact r_ireturn f_Rw_with_21 hQ
def F_Rw_with (a0 : Int32) (a1 : Int32) (σ : SG) : Option (Int32 × SG) :=
  match F_Rw_size (a0) σ with
  | none => none
  | some q1 =>
  if a0 = (-1) then
  F_Rw_with_20 q1.2
  else if 8 ≤ q1.1 then
  F_Rw_with_20 q1.2
  else if a1 = 0 then
  F_Rw_with_20 q1.2
  else some ((a0 ||| (a1 <<< ((4 * q1.1) &&& 31))), q1.2)
set_option maxHeartbeats 4000000 in
theorem w_Rw_with {b d : Nat} {pre tl : List PE} {B : Nat} {Q : Option Value → List PE → Prop} {res : Int32 × SG} (hB : B = b + pre.length) (hd : 1 ≤ d)  {σ : SG} (a0 : Int32) (a1 : Int32)  (hF : F_Rw_with a0 a1 σ = some res) (hQ : Q (some (.int res.1)) (HH pre tl SHc B res.2)) : Cl b d 155 [.int (a0), .int (a1)] (HH pre tl SHc B σ) Q := by
  obtain ⟨e0, rfl⟩ : ∃ e, d = e + 1 := ⟨d - 1, by omega⟩
  unfold Cl
  unfold F_Rw_with at hF
  try dsimp only at hF
  refine r_iload_n f_Rw_with_0 rfl ?_
  cases hq1 : F_Rw_size (a0) σ with
  | none => simp only [hq1] at hF; cases hF
  | some q1 =>
    simp only [hq1] at hF
    refine t_S1i f_Rw_with_1 (by decide) (Nat.le_of_ble_eq_true rfl) (Nat.le_of_ble_eq_true rfl) (w_Rw_size hB  (a0)  hq1 ⟨_, rfl, ?_⟩)
    refine r_istore_n f_Rw_with_4 ?_
    refine r_iload_n f_Rw_with_5 (lk_put_ne rfl (by decide) (Or.inl rfl)) ?_
    refine r_iconst f_Rw_with_6 (v := (-1)) (by decide) ?_
    refine r_icmp_eq f_Rw_with_7 (fun c2 => ?_) (fun c2 => ?_)
    · rw [if_pos c2] at hF
      exact w_Rw_with_20 hB hd  hQ _ (q1.2) hF
    · rw [if_neg c2] at hF
      refine r_iload_n f_Rw_with_10 lk_put ?_
      refine r_bipush f_Rw_with_11 (v := 8) (by decide) ?_
      refine r_icmp_ge f_Rw_with_13 (fun c3 => ?_) (fun c3 => ?_)
      · rw [if_pos c3] at hF
        exact w_Rw_with_20 hB hd  hQ _ (q1.2) hF
      · rw [if_neg c3] at hF
        refine r_iload_n f_Rw_with_16 (lk_put_ne rfl (by decide) (Or.inl rfl)) ?_
        refine r_if_ne f_Rw_with_17 (fun c4 => ?_) (fun c4 => ?_)
        · rw [if_neg c4] at hF
          refine r_iload_n f_Rw_with_22 (lk_put_ne rfl (by decide) (Or.inl rfl)) ?_
          refine r_iload_n f_Rw_with_23 (lk_put_ne rfl (by decide) (Or.inl rfl)) ?_
          refine r_iconst f_Rw_with_24 (v := 4) (by decide) ?_
          refine r_iload_n f_Rw_with_25 lk_put ?_
          refine r_imul f_Rw_with_26 ?_
          refine r_ishl f_Rw_with_27 ?_
          refine r_ior f_Rw_with_28 ?_
          cases hF
          exact r_ireturn f_Rw_with_29 hQ
        · rw [if_pos (Decidable.not_not.mp c4)] at hF
          exact w_Rw_with_20 hB hd  hQ _ (q1.2) hF
theorem f_Rw_typeAt_0 : fetch 158 0 = some (.iload_n 1, 1, 0, 0, 0) := rfl
theorem f_Rw_typeAt_1 : fetch 158 1 = some (.ifCond .lt 9, 3, 10, 0, 0) := rfl
theorem f_Rw_typeAt_4 : fetch 158 4 = some (.iload_n 1, 1, 0, 0, 0) := rfl
theorem f_Rw_typeAt_5 : fetch 158 5 = some (.bipush 8, 2, 0, 0, 0) := rfl
theorem f_Rw_typeAt_7 : fetch 158 7 = some (.if_icmp .lt 7, 3, 14, 0, 0) := rfl
theorem f_Rw_typeAt_10 : fetch 158 10 = some (.iconst 0, 1, 0, 0, 0) := rfl
theorem f_Rw_typeAt_11 : fetch 158 11 = some (.goto 11, 3, 22, 0, 0) := rfl
theorem f_Rw_typeAt_14 : fetch 158 14 = some (.iload_n 0, 1, 0, 0, 0) := rfl
theorem f_Rw_typeAt_15 : fetch 158 15 = some (.iconst 4, 1, 0, 0, 0) := rfl
theorem f_Rw_typeAt_16 : fetch 158 16 = some (.iload_n 1, 1, 0, 0, 0) := rfl
theorem f_Rw_typeAt_17 : fetch 158 17 = some (.imul, 1, 0, 0, 0) := rfl
theorem f_Rw_typeAt_18 : fetch 158 18 = some (.iushr, 1, 0, 0, 0) := rfl
theorem f_Rw_typeAt_19 : fetch 158 19 = some (.bipush 15, 2, 0, 0, 0) := rfl
theorem f_Rw_typeAt_21 : fetch 158 21 = some (.iand, 1, 0, 0, 0) := rfl
theorem f_Rw_typeAt_22 : fetch 158 22 = some (.ireturn, 1, 0, 0, 0) := rfl
def F_Rw_typeAt_22  (y0 : Int32) (σ : SG) : Option (Int32 × SG) :=
  some (y0, σ)
set_option maxHeartbeats 4000000 in
theorem w_Rw_typeAt_22 {b d : Nat} {sc : SC} {pre tl : List PE} {B : Nat} {Q : Option Value → List PE → Prop} {res : Int32 × SG} (hB : B = b + pre.length)   (hQ : Q (some (.int res.1)) (HH pre tl SHc B res.2)) (lv : LV) (σ : SG) (y0 : Int32)  (hF : F_Rw_typeAt_22  y0 σ = some res) : Rn b sc d 158 22 lv [.int (y0)] (HH pre tl SHc B σ) Q := by
  unfold F_Rw_typeAt_22 at hF
  try dsimp only at hF
  cases hF
  exact r_ireturn f_Rw_typeAt_22 hQ
def F_Rw_typeAt_10   (σ : SG) : Option (Int32 × SG) :=
  F_Rw_typeAt_22 (0) σ
set_option maxHeartbeats 4000000 in
theorem w_Rw_typeAt_10 {b d : Nat} {sc : SC} {pre tl : List PE} {B : Nat} {Q : Option Value → List PE → Prop} {res : Int32 × SG} (hB : B = b + pre.length)   (hQ : Q (some (.int res.1)) (HH pre tl SHc B res.2)) (lv : LV) (σ : SG)   (hF : F_Rw_typeAt_10   σ = some res) : Rn b sc d 158 10 lv [] (HH pre tl SHc B σ) Q := by
  unfold F_Rw_typeAt_10 at hF
  try dsimp only at hF
  refine r_iconst f_Rw_typeAt_10 (v := 0) (by decide) ?_
  refine r_goto f_Rw_typeAt_11 ?_
  exact w_Rw_typeAt_22 hB   hQ _ (σ) (0) hF
def F_Rw_typeAt (a0 : Int32) (a1 : Int32) (σ : SG) : Option (Int32 × SG) :=
  if a1 < 0 then
  F_Rw_typeAt_10 σ
  else if a1 < 8 then
  F_Rw_typeAt_22 (((((a0).toUInt32 >>> (((4 * a1)).toUInt32 &&& Int32.toUInt32 31)).toInt32) &&& 15)) σ
  else F_Rw_typeAt_10 σ
set_option maxHeartbeats 4000000 in
theorem w_Rw_typeAt {b d : Nat} {pre tl : List PE} {B : Nat} {Q : Option Value → List PE → Prop} {res : Int32 × SG} (hB : B = b + pre.length)  {σ : SG} (a0 : Int32) (a1 : Int32)  (hF : F_Rw_typeAt a0 a1 σ = some res) (hQ : Q (some (.int res.1)) (HH pre tl SHc B res.2)) : Cl b d 158 [.int (a0), .int (a1)] (HH pre tl SHc B σ) Q := by
  unfold Cl
  unfold F_Rw_typeAt at hF
  try dsimp only at hF
  refine r_iload_n f_Rw_typeAt_0 rfl ?_
  refine r_if_lt f_Rw_typeAt_1 (fun c1 => ?_) (fun c1 => ?_)
  · rw [if_pos c1] at hF
    exact w_Rw_typeAt_10 hB   hQ _ (σ) hF
  · rw [if_neg c1] at hF
    refine r_iload_n f_Rw_typeAt_4 rfl ?_
    refine r_bipush f_Rw_typeAt_5 (v := 8) (by decide) ?_
    refine r_icmp_lt f_Rw_typeAt_7 (fun c2 => ?_) (fun c2 => ?_)
    · rw [if_pos c2] at hF
      refine r_iload_n f_Rw_typeAt_14 rfl ?_
      refine r_iconst f_Rw_typeAt_15 (v := 4) (by decide) ?_
      refine r_iload_n f_Rw_typeAt_16 rfl ?_
      refine r_imul f_Rw_typeAt_17 ?_
      refine r_iushr f_Rw_typeAt_18 ?_
      refine r_bipush f_Rw_typeAt_19 (v := 15) (by decide) ?_
      refine r_iand f_Rw_typeAt_21 ?_
      exact w_Rw_typeAt_22 hB   hQ _ (σ) (((((a0).toUInt32 >>> (((4 * a1)).toUInt32 &&& Int32.toUInt32 31)).toInt32) &&& 15)) hF
    · rw [if_neg c2] at hF
      exact w_Rw_typeAt_10 hB   hQ _ (σ) hF
theorem f_Rw_without_0 : fetch 157 0 = some (.iload_n 0, 1, 0, 0, 0) := rfl
theorem f_Rw_without_1 : fetch 157 1 = some (.invokestatic 11, 3, 156, 1, 161) := rfl
theorem f_Rw_without_4 : fetch 157 4 = some (.iconst 1, 1, 0, 0, 0) := rfl
theorem f_Rw_without_5 : fetch 157 5 = some (.isub, 1, 0, 0, 0) := rfl
theorem f_Rw_without_6 : fetch 157 6 = some (.istore_n 2, 1, 0, 0, 0) := rfl
theorem f_Rw_without_7 : fetch 157 7 = some (.iload_n 0, 1, 0, 0, 0) := rfl
theorem f_Rw_without_8 : fetch 157 8 = some (.iconst (-1), 1, 0, 0, 0) := rfl
theorem f_Rw_without_9 : fetch 157 9 = some (.if_icmp .eq 20, 3, 29, 0, 0) := rfl
theorem f_Rw_without_12 : fetch 157 12 = some (.iload_n 2, 1, 0, 0, 0) := rfl
theorem f_Rw_without_13 : fetch 157 13 = some (.ifCond .lt 16, 3, 29, 0, 0) := rfl
theorem f_Rw_without_16 : fetch 157 16 = some (.iload_n 1, 1, 0, 0, 0) := rfl
theorem f_Rw_without_17 : fetch 157 17 = some (.ifCond .eq 12, 3, 29, 0, 0) := rfl
theorem f_Rw_without_20 : fetch 157 20 = some (.iload_n 0, 1, 0, 0, 0) := rfl
theorem f_Rw_without_21 : fetch 157 21 = some (.iload_n 2, 1, 0, 0, 0) := rfl
theorem f_Rw_without_22 : fetch 157 22 = some (.invokestatic 15, 3, 158, 2, 162) := rfl
theorem f_Rw_without_25 : fetch 157 25 = some (.iload_n 1, 1, 0, 0, 0) := rfl
theorem f_Rw_without_26 : fetch 157 26 = some (.if_icmp .eq 5, 3, 31, 0, 0) := rfl
theorem f_Rw_without_29 : fetch 157 29 = some (.iconst (-1), 1, 0, 0, 0) := rfl
theorem f_Rw_without_30 : fetch 157 30 = some (.ireturn, 1, 0, 0, 0) := rfl
theorem f_Rw_without_31 : fetch 157 31 = some (.iload_n 0, 1, 0, 0, 0) := rfl
theorem f_Rw_without_32 : fetch 157 32 = some (.bipush 15, 2, 0, 0, 0) := rfl
theorem f_Rw_without_34 : fetch 157 34 = some (.iconst 4, 1, 0, 0, 0) := rfl
theorem f_Rw_without_35 : fetch 157 35 = some (.iload_n 2, 1, 0, 0, 0) := rfl
theorem f_Rw_without_36 : fetch 157 36 = some (.imul, 1, 0, 0, 0) := rfl
theorem f_Rw_without_37 : fetch 157 37 = some (.ishl, 1, 0, 0, 0) := rfl
theorem f_Rw_without_38 : fetch 157 38 = some (.iconst (-1), 1, 0, 0, 0) := rfl
theorem f_Rw_without_39 : fetch 157 39 = some (.ixor, 1, 0, 0, 0) := rfl
theorem f_Rw_without_40 : fetch 157 40 = some (.iand, 1, 0, 0, 0) := rfl
theorem f_Rw_without_41 : fetch 157 41 = some (.ireturn, 1, 0, 0, 0) := rfl
def F_Rw_without_29   (σ : SG) : Option (Int32 × SG) :=
  some ((-1), σ)
set_option maxHeartbeats 4000000 in
theorem w_Rw_without_29 {b d : Nat} {sc : SC} {pre tl : List PE} {B : Nat} {Q : Option Value → List PE → Prop} {res : Int32 × SG} (hB : B = b + pre.length) (hd : 1 ≤ d)   (hQ : Q (some (.int res.1)) (HH pre tl SHc B res.2)) (lv : LV) (σ : SG)   (hF : F_Rw_without_29   σ = some res) : Rn b sc d 157 29 lv [] (HH pre tl SHc B σ) Q := by
  obtain ⟨e0, rfl⟩ : ∃ e, d = e + 1 := ⟨d - 1, by omega⟩
  unfold F_Rw_without_29 at hF
  try dsimp only at hF
  refine r_iconst f_Rw_without_29 (v := (-1)) (by decide) ?_
  cases hF
  exact r_ireturn f_Rw_without_30 hQ
def F_Rw_without (a0 : Int32) (a1 : Int32) (σ : SG) : Option (Int32 × SG) :=
  match F_Rw_size (a0) σ with
  | none => none
  | some q1 =>
  if a0 = (-1) then
  F_Rw_without_29 q1.2
  else if (q1.1 - 1) < 0 then
  F_Rw_without_29 q1.2
  else if a1 = 0 then
  F_Rw_without_29 q1.2
  else match F_Rw_typeAt (a0) ((q1.1 - 1)) q1.2 with
  | none => none
  | some q5 =>
  if q5.1 = a1 then
  some ((a0 &&& ((15 <<< ((4 * (q1.1 - 1)) &&& 31)) ^^^ (-1))), q5.2)
  else F_Rw_without_29 q5.2
set_option maxHeartbeats 4000000 in
theorem w_Rw_without {b d : Nat} {pre tl : List PE} {B : Nat} {Q : Option Value → List PE → Prop} {res : Int32 × SG} (hB : B = b + pre.length) (hd : 1 ≤ d)  {σ : SG} (a0 : Int32) (a1 : Int32)  (hF : F_Rw_without a0 a1 σ = some res) (hQ : Q (some (.int res.1)) (HH pre tl SHc B res.2)) : Cl b d 157 [.int (a0), .int (a1)] (HH pre tl SHc B σ) Q := by
  obtain ⟨e0, rfl⟩ : ∃ e, d = e + 1 := ⟨d - 1, by omega⟩
  unfold Cl
  unfold F_Rw_without at hF
  try dsimp only at hF
  refine r_iload_n f_Rw_without_0 rfl ?_
  cases hq1 : F_Rw_size (a0) σ with
  | none => simp only [hq1] at hF; cases hF
  | some q1 =>
    simp only [hq1] at hF
    refine t_S1i f_Rw_without_1 (by decide) (Nat.le_of_ble_eq_true rfl) (Nat.le_of_ble_eq_true rfl) (w_Rw_size hB  (a0)  hq1 ⟨_, rfl, ?_⟩)
    refine r_iconst f_Rw_without_4 (v := 1) (by decide) ?_
    refine r_isub f_Rw_without_5 ?_
    refine r_istore_n f_Rw_without_6 ?_
    refine r_iload_n f_Rw_without_7 (lk_put_ne rfl (by decide) (Or.inl rfl)) ?_
    refine r_iconst f_Rw_without_8 (v := (-1)) (by decide) ?_
    refine r_icmp_eq f_Rw_without_9 (fun c2 => ?_) (fun c2 => ?_)
    · rw [if_pos c2] at hF
      exact w_Rw_without_29 hB hd  hQ _ (q1.2) hF
    · rw [if_neg c2] at hF
      refine r_iload_n f_Rw_without_12 lk_put ?_
      refine r_if_lt f_Rw_without_13 (fun c3 => ?_) (fun c3 => ?_)
      · rw [if_pos c3] at hF
        exact w_Rw_without_29 hB hd  hQ _ (q1.2) hF
      · rw [if_neg c3] at hF
        refine r_iload_n f_Rw_without_16 (lk_put_ne rfl (by decide) (Or.inl rfl)) ?_
        refine r_if_eq f_Rw_without_17 (fun c4 => ?_) (fun c4 => ?_)
        · rw [if_pos c4] at hF
          exact w_Rw_without_29 hB hd  hQ _ (q1.2) hF
        · rw [if_neg c4] at hF
          refine r_iload_n f_Rw_without_20 (lk_put_ne rfl (by decide) (Or.inl rfl)) ?_
          refine r_iload_n f_Rw_without_21 lk_put ?_
          cases hq5 : F_Rw_typeAt (a0) ((q1.1 - 1)) q1.2 with
          | none => simp only [hq5] at hF; cases hF
          | some q5 =>
            simp only [hq5] at hF
            refine t_S2i f_Rw_without_22 (by decide) (Nat.le_of_ble_eq_true rfl) (Nat.le_of_ble_eq_true rfl) (w_Rw_typeAt hB  (a0) ((q1.1 - 1))  hq5 ⟨_, rfl, ?_⟩)
            refine r_iload_n f_Rw_without_25 (lk_put_ne rfl (by decide) (Or.inl rfl)) ?_
            refine r_icmp_eq f_Rw_without_26 (fun c6 => ?_) (fun c6 => ?_)
            · rw [if_pos c6] at hF
              refine r_iload_n f_Rw_without_31 (lk_put_ne rfl (by decide) (Or.inl rfl)) ?_
              refine r_bipush f_Rw_without_32 (v := 15) (by decide) ?_
              refine r_iconst f_Rw_without_34 (v := 4) (by decide) ?_
              refine r_iload_n f_Rw_without_35 lk_put ?_
              refine r_imul f_Rw_without_36 ?_
              refine r_ishl f_Rw_without_37 ?_
              refine r_iconst f_Rw_without_38 (v := (-1)) (by decide) ?_
              refine r_ixor f_Rw_without_39 ?_
              refine r_iand f_Rw_without_40 ?_
              cases hF
              exact r_ireturn f_Rw_without_41 hQ
            · rw [if_neg c6] at hF
              exact w_Rw_without_29 hB hd  hQ _ (q5.2) hF
theorem f_Rw_top_0 : fetch 159 0 = some (.iload_n 0, 1, 0, 0, 0) := rfl
theorem f_Rw_top_1 : fetch 159 1 = some (.iload_n 0, 1, 0, 0, 0) := rfl
theorem f_Rw_top_2 : fetch 159 2 = some (.invokestatic 11, 3, 156, 1, 161) := rfl
theorem f_Rw_top_5 : fetch 159 5 = some (.iconst 1, 1, 0, 0, 0) := rfl
theorem f_Rw_top_6 : fetch 159 6 = some (.isub, 1, 0, 0, 0) := rfl
theorem f_Rw_top_7 : fetch 159 7 = some (.invokestatic 15, 3, 158, 2, 162) := rfl
theorem f_Rw_top_10 : fetch 159 10 = some (.ireturn, 1, 0, 0, 0) := rfl
def F_Rw_top (a0 : Int32) (σ : SG) : Option (Int32 × SG) :=
  match F_Rw_size (a0) σ with
  | none => none
  | some q1 =>
  match F_Rw_typeAt (a0) ((q1.1 - 1)) q1.2 with
  | none => none
  | some q2 =>
  some (q2.1, q2.2)
set_option maxHeartbeats 4000000 in
theorem w_Rw_top {b d : Nat} {pre tl : List PE} {B : Nat} {Q : Option Value → List PE → Prop} {res : Int32 × SG} (hB : B = b + pre.length) (hd : 1 ≤ d)  {σ : SG} (a0 : Int32)  (hF : F_Rw_top a0 σ = some res) (hQ : Q (some (.int res.1)) (HH pre tl SHc B res.2)) : Cl b d 159 [.int (a0)] (HH pre tl SHc B σ) Q := by
  obtain ⟨e0, rfl⟩ : ∃ e, d = e + 1 := ⟨d - 1, by omega⟩
  unfold Cl
  unfold F_Rw_top at hF
  try dsimp only at hF
  refine r_iload_n f_Rw_top_0 rfl ?_
  refine r_iload_n f_Rw_top_1 rfl ?_
  cases hq1 : F_Rw_size (a0) σ with
  | none => simp only [hq1] at hF; cases hF
  | some q1 =>
    simp only [hq1] at hF
    refine t_S1i f_Rw_top_2 (by decide) (Nat.le_of_ble_eq_true rfl) (Nat.le_of_ble_eq_true rfl) (w_Rw_size hB  (a0)  hq1 ⟨_, rfl, ?_⟩)
    refine r_iconst f_Rw_top_5 (v := 1) (by decide) ?_
    refine r_isub f_Rw_top_6 ?_
    cases hq2 : F_Rw_typeAt (a0) ((q1.1 - 1)) q1.2 with
    | none => simp only [hq2] at hF; cases hF
    | some q2 =>
      simp only [hq2] at hF
      refine t_S2i f_Rw_top_7 (by decide) (Nat.le_of_ble_eq_true rfl) (Nat.le_of_ble_eq_true rfl) (w_Rw_typeAt hB  (a0) ((q1.1 - 1))  hq2 ⟨_, rfl, ?_⟩)
      cases hF
      exact r_ireturn f_Rw_top_10 hQ
