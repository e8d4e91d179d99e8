theorem f_TE_load_0 : fetch 163 0 = some (.aload_n 0, 1, 0, 0, 0) := rfl
theorem f_TE_load_1 : fetch 163 1 = some (.getfield 30, 3, 7, 4, 131) := rfl
theorem f_TE_load_4 : fetch 163 4 = some (.aload_n 0, 1, 0, 0, 0) := rfl
theorem f_TE_load_5 : fetch 163 5 = some (.getfield 24, 3, 7, 3, 130) := rfl
theorem f_TE_load_8 : fetch 163 8 = some (.aload_n 0, 1, 0, 0, 0) := rfl
theorem f_TE_load_9 : fetch 163 9 = some (.getfield 9, 3, 7, 0, 127) := rfl
theorem f_TE_load_12 : fetch 163 12 = some (.aload_n 0, 1, 0, 0, 0) := rfl
theorem f_TE_load_13 : fetch 163 13 = some (.getfield 13, 3, 7, 1, 128) := rfl
theorem f_TE_load_16 : fetch 163 16 = some (.invokevirtual 52, 3, 107, 3, 168) := rfl
theorem f_TE_load_19 : fetch 163 19 = some (.ifCond .ne 5, 3, 24, 0, 0) := rfl
theorem f_TE_load_22 : fetch 163 22 = some (.iconst (-1), 1, 0, 0, 0) := rfl
theorem f_TE_load_23 : fetch 163 23 = some (.ireturn, 1, 0, 0, 0) := rfl
theorem f_TE_load_24 : fetch 163 24 = some (.aload_n 0, 1, 0, 0, 0) := rfl
theorem f_TE_load_25 : fetch 163 25 = some (.getfield 24, 3, 7, 3, 130) := rfl
theorem f_TE_load_28 : fetch 163 28 = some (.astore_n 1, 1, 0, 0, 0) := rfl
theorem f_TE_load_29 : fetch 163 29 = some (.aload_n 0, 1, 0, 0, 0) := rfl
theorem f_TE_load_30 : fetch 163 30 = some (.aload_n 0, 1, 0, 0, 0) := rfl
theorem f_TE_load_31 : fetch 163 31 = some (.getfield 20, 3, 7, 2, 129) := rfl
theorem f_TE_load_34 : fetch 163 34 = some (.putfield 24, 3, 7, 3, 130) := rfl
theorem f_TE_load_37 : fetch 163 37 = some (.aload_n 0, 1, 0, 0, 0) := rfl
theorem f_TE_load_38 : fetch 163 38 = some (.aload_n 1, 1, 0, 0, 0) := rfl
theorem f_TE_load_39 : fetch 163 39 = some (.putfield 20, 3, 7, 2, 129) := rfl
theorem f_TE_load_42 : fetch 163 42 = some (.iconst 0, 1, 0, 0, 0) := rfl
theorem f_TE_load_43 : fetch 163 43 = some (.istore_n 2, 1, 0, 0, 0) := rfl
theorem f_TE_load_44 : fetch 163 44 = some (.iload_n 2, 1, 0, 0, 0) := rfl
theorem f_TE_load_45 : fetch 163 45 = some (.aload_n 0, 1, 0, 0, 0) := rfl
theorem f_TE_load_46 : fetch 163 46 = some (.getfield 20, 3, 7, 2, 129) := rfl
theorem f_TE_load_49 : fetch 163 49 = some (.getfield 56, 3, 1, 1, 134) := rfl
theorem f_TE_load_52 : fetch 163 52 = some (.if_icmp .ge 29, 3, 81, 0, 0) := rfl
theorem f_TE_load_55 : fetch 163 55 = some (.aload_n 0, 1, 0, 0, 0) := rfl
theorem f_TE_load_56 : fetch 163 56 = some (.getfield 39, 3, 7, 5, 132) := rfl
theorem f_TE_load_59 : fetch 163 59 = some (.aload_n 0, 1, 0, 0, 0) := rfl
theorem f_TE_load_60 : fetch 163 60 = some (.getfield 20, 3, 7, 2, 129) := rfl
theorem f_TE_load_63 : fetch 163 63 = some (.aload_n 0, 1, 0, 0, 0) := rfl
theorem f_TE_load_64 : fetch 163 64 = some (.getfield 20, 3, 7, 2, 129) := rfl
theorem f_TE_load_67 : fetch 163 67 = some (.getfield 59, 3, 1, 4, 135) := rfl
theorem f_TE_load_70 : fetch 163 70 = some (.iload_n 2, 1, 0, 0, 0) := rfl
theorem f_TE_load_71 : fetch 163 71 = some (.aaload, 1, 0, 0, 0) := rfl
theorem f_TE_load_72 : fetch 163 72 = some (.invokevirtual 63, 3, 175, 2, 169) := rfl
theorem f_TE_load_75 : fetch 163 75 = some (.iinc 2 1, 3, 0, 0, 0) := rfl
theorem f_TE_load_78 : fetch 163 78 = some (.goto (-34), 3, 44, 0, 0) := rfl
theorem f_TE_load_81 : fetch 163 81 = some (.aload_n 0, 1, 0, 0, 0) := rfl
theorem f_TE_load_82 : fetch 163 82 = some (.getfield 46, 3, 7, 6, 133) := rfl
theorem f_TE_load_85 : fetch 163 85 = some (.invokevirtual 67, 3, 119, 0, 170) := rfl
theorem f_TE_load_88 : fetch 163 88 = some (.aload_n 0, 1, 0, 0, 0) := rfl
theorem f_TE_load_89 : fetch 163 89 = some (.getfield 20, 3, 7, 2, 129) := rfl
theorem f_TE_load_92 : fetch 163 92 = some (.getfield 56, 3, 1, 1, 134) := rfl
theorem f_TE_load_95 : fetch 163 95 = some (.ireturn, 1, 0, 0, 0) := rfl
def F_TE_load_44  : Nat → Nat → Int32 → SG → Option (Int32 × SG)
  | 0, _, _, _ => none
  | n + 1, x0, x2, σ =>
  if isC SHc ((σ.2.2.1 (x0) 2)) 1 = true then
  if (σ.1 ((σ.2.2.1 (x0) 2)) 1) ≤ x2 then
  match F_Ru_drop ((cref SHc (x0) 6)) σ with
  | none => none
  | some q3 =>
  if isC SHc ((q3.2.2.1 (x0) 2)) 1 = true then
  some ((q3.1 ((q3.2.2.1 (x0) 2)) 1), q3)
  else none
  else if isC SHc ((σ.2.2.1 (x0) 2)) 1 = true then
  if isC SHc ((σ.2.2.1 (x0) 2)) 1 = true then
  if x2 < 0 ∨ 6 ≤ (x2).toNatClampNeg then none else
  match F_Vf_verify ((cref SHc (x0) 5)) ((σ.2.2.1 (x0) 2)) ((relem SHc ((cref SHc ((σ.2.2.1 (x0) 2)) 4)) ((x2).toNatClampNeg))) σ with
  | none => none
  | some q8 =>
  F_TE_load_44  n (x0) ((x2 + 1)) q8
  else none
  else none
  else none
set_option maxHeartbeats 4000000 in
theorem w_TE_load_44 {b d : Nat} {sc : SC} {pre tl : List PE} {B : Nat} {Q : Option Value → List PE → Prop} {res : Int32 × SG} (hB : B = b + pre.length) (hd : 6 ≤ d)   (hQ : Q (some (.int res.1)) (HH pre tl SHc B res.2)) : ∀ (n : Nat) (lv : LV) (σ : SG) (x0 : Nat) (x2 : Int32), isC SHc (x0) 7 = true → lv.lookup 0 = some (.ref (B + (x0))) → lv.lookup 2 = some (.int (x2)) → F_TE_load_44  n x0 x2 σ = some res → Rn b sc d 163 44 lv [] (HH pre tl SHc B σ) Q := by
  obtain ⟨e0, rfl⟩ : ∃ e, d = e + 1 := ⟨d - 1, by omega⟩
  intro n
  induction n with
  | zero => intro lv σ x0 x2 hx0 l0 l2 hF; cases hF
  | succ n ih =>
    intro lv σ x0 x2 hx0 l0 l2 hF
    unfold F_TE_load_44 at hF
    refine r_iload_n f_TE_load_44 l2 ?_
    refine r_aload_n f_TE_load_45 l0 ?_
    by_cases c1 : isC SHc ((σ.2.2.1 (x0) 2)) 1 = true
    case neg => rw [if_neg c1] at hF; cases hF
    rw [if_pos c1] at hF
    refine t_getm hB hx0 f_TE_load_46 rfl ?_
    refine t_geti hB c1 f_TE_load_49 rfl ?_
    refine r_icmp_ge f_TE_load_52 (fun c2 => ?_) (fun c2 => ?_)
    · rw [if_pos c2] at hF
      refine r_aload_n f_TE_load_81 l0 ?_
      refine t_getc hB hx0 f_TE_load_82 rfl ?_
      cases hq3 : F_Ru_drop ((cref SHc (x0) 6)) σ with
      | none => simp only [hq3] at hF; cases hF
      | some q3 =>
        simp only [hq3] at hF
        refine t_V0v hB (cc_7_6 hx0) rfl rfl f_TE_load_85 (by decide) (Nat.le_of_ble_eq_true rfl) (Nat.le_of_ble_eq_true rfl) (w_Ru_drop hB  ((cref SHc (x0) 6)) (cc_7_6 hx0) hq3 ⟨rfl, ?_⟩)
        refine r_aload_n f_TE_load_88 l0 ?_
        by_cases c4 : isC SHc ((q3.2.2.1 (x0) 2)) 1 = true
        case neg => rw [if_neg c4] at hF; cases hF
        rw [if_pos c4] at hF
        refine t_getm hB hx0 f_TE_load_89 rfl ?_
        refine t_geti hB c4 f_TE_load_92 rfl ?_
        cases hF
        exact r_ireturn f_TE_load_95 hQ
    · rw [if_neg c2] at hF
      refine r_aload_n f_TE_load_55 l0 ?_
      refine t_getc hB hx0 f_TE_load_56 rfl ?_
      refine r_aload_n f_TE_load_59 l0 ?_
      by_cases c5 : isC SHc ((σ.2.2.1 (x0) 2)) 1 = true
      case neg => rw [if_neg c5] at hF; cases hF
      rw [if_pos c5] at hF
      refine t_getm hB hx0 f_TE_load_60 rfl ?_
      refine r_aload_n f_TE_load_63 l0 ?_
      by_cases c6 : isC SHc ((σ.2.2.1 (x0) 2)) 1 = true
      case neg => rw [if_neg c6] at hF; cases hF
      rw [if_pos c6] at hF
      refine t_getm hB hx0 f_TE_load_64 rfl ?_
      refine t_getc hB c6 f_TE_load_67 rfl ?_
      refine r_iload_n f_TE_load_70 l2 ?_
      by_cases c7 : x2 < 0 ∨ 6 ≤ (x2).toNatClampNeg
      · rw [if_pos c7] at hF; cases hF
      rw [if_neg c7] at hF
      refine t_aald hB (cc_1_4 c6) (by decide) f_TE_load_71 c7 ?_
      cases hq8 : F_Vf_verify ((cref SHc (x0) 5)) ((σ.2.2.1 (x0) 2)) ((relem SHc ((cref SHc ((σ.2.2.1 (x0) 2)) 4)) ((x2).toNatClampNeg))) σ with
      | none => simp only [hq8] at hF; cases hF
      | some q8 =>
        simp only [hq8] at hF
        refine t_V2v hB (cc_7_5 hx0) rfl rfl f_TE_load_72 (by decide) (Nat.le_of_ble_eq_true rfl) (Nat.le_of_ble_eq_true rfl) (w_Vf_verify hB (by omega) ((cref SHc (x0) 5)) ((σ.2.2.1 (x0) 2)) ((relem SHc ((cref SHc ((σ.2.2.1 (x0) 2)) 4)) ((x2).toNatClampNeg))) (cc_7_5 hx0) c5 (re_3 (cc_1_4 c6) (nlt c7)) hq8 ⟨rfl, ?_⟩)
        refine r_iinc f_TE_load_75 l2 (w := x2 + 1) rfl ?_
        refine r_goto f_TE_load_78 ?_
        exact ih _ (q8) (x0) ((x2 + 1)) hx0 (lk_put_ne l0 (by decide) (Or.inl rfl)) lk_put hF
def F_TE_load (a0 : Nat) (σ : SG) : Option (Int32 × SG) :=
  if isC SHc ((σ.2.2.1 (a0) 3)) 1 = true then
  match F_Rd_readInto ((cref SHc (a0) 4)) ((σ.2.2.1 (a0) 3)) ((cref SHc (a0) 0)) ((σ.1 (a0) 1)) σ with
  | none => none
  | some q10 =>
  if q10.1 = true then
  if isC SHc ((q10.2.2.2.1 (a0) 3)) 1 = true then
  if isC SHc ((q10.2.2.2.1 (a0) 2)) 1 = true then
  stl (setP q10.2 (a0) 3 ((q10.2.2.2.1 (a0) 2))) fun s14 =>
  stl (setP s14 (a0) 2 ((q10.2.2.2.1 (a0) 3))) fun s15 =>
  F_TE_load_44  5000 (a0) ((0 : Int32)) s15
  else none
  else none
  else some (((-1) : Int32), q10.2)
  else none
set_option maxHeartbeats 4000000 in
theorem w_TE_load {b d : Nat} {pre tl : List PE} {B : Nat} {Q : Option Value → List PE → Prop} {res : Int32 × SG} (hB : B = b + pre.length) (hd : 6 ≤ d)  {σ : SG} (a0 : Nat) (ha0 : isC SHc (a0) 7 = true) (hF : F_TE_load a0 σ = some res) (hQ : Q (some (.int res.1)) (HH pre tl SHc B res.2)) : Cl b d 163 [.ref (B + (a0))] (HH pre tl SHc B σ) Q := by
  obtain ⟨e0, rfl⟩ : ∃ e, d = e + 1 := ⟨d - 1, by omega⟩
  unfold Cl
  unfold F_TE_load at hF
  refine r_aload_n f_TE_load_0 rfl ?_
  refine t_getc hB ha0 f_TE_load_1 rfl ?_
  refine r_aload_n f_TE_load_4 rfl ?_
  by_cases c9 : isC SHc ((σ.2.2.1 (a0) 3)) 1 = true
  case neg => rw [if_neg c9] at hF; cases hF
  rw [if_pos c9] at hF
  refine t_getm hB ha0 f_TE_load_5 rfl ?_
  refine r_aload_n f_TE_load_8 rfl ?_
  refine t_getc hB ha0 f_TE_load_9 rfl ?_
  refine r_aload_n f_TE_load_12 rfl ?_
  refine t_geti hB ha0 f_TE_load_13 rfl ?_
  cases hq10 : F_Rd_readInto ((cref SHc (a0) 4)) ((σ.2.2.1 (a0) 3)) ((cref SHc (a0) 0)) ((σ.1 (a0) 1)) σ with
  | none => simp only [hq10] at hF; cases hF
  | some q10 =>
    simp only [hq10] at hF
    refine t_V3i hB (cc_7_4 ha0) rfl rfl f_TE_load_16 (by decide) (Nat.le_of_ble_eq_true rfl) (Nat.le_of_ble_eq_true rfl) (w_Rd_readInto hB (by omega) ((cref SHc (a0) 4)) ((σ.2.2.1 (a0) 3)) ((cref SHc (a0) 0)) ((σ.1 (a0) 1)) (cc_7_4 ha0) c9 (isA_alen (cc_7_0 ha0)) hq10 ⟨_, rfl, ?_⟩)
    refine r_if_ne f_TE_load_19 (fun c11 => ?_) (fun c11 => ?_)
    · rw [if_pos (bz_t c11)] at hF
      refine r_aload_n f_TE_load_24 rfl ?_
      by_cases c12 : isC SHc ((q10.2.2.2.1 (a0) 3)) 1 = true
      case neg => rw [if_neg c12] at hF; cases hF
      rw [if_pos c12] at hF
      refine t_getm hB ha0 f_TE_load_25 rfl ?_
      refine r_astore_n f_TE_load_28 ?_
      refine r_aload_n f_TE_load_29 (lk_put_ne rfl (by decide) (Or.inl rfl)) ?_
      refine r_aload_n f_TE_load_30 (lk_put_ne rfl (by decide) (Or.inl rfl)) ?_
      by_cases c13 : isC SHc ((q10.2.2.2.1 (a0) 2)) 1 = true
      case neg => rw [if_neg c13] at hF; cases hF
      rw [if_pos c13] at hF
      refine t_getm hB ha0 f_TE_load_31 rfl ?_
      refine t_putm hB ha0 f_TE_load_34 rfl rfl ?_
      generalize hs14 : setP q10.2 (a0) 3 ((q10.2.2.2.1 (a0) 2)) = s14 at hF ⊢
      rw [stl_eq] at hF
      refine r_aload_n f_TE_load_37 (lk_put_ne rfl (by decide) (Or.inl rfl)) ?_
      refine r_aload_n f_TE_load_38 lk_put ?_
      refine t_putm hB ha0 f_TE_load_39 rfl rfl ?_
      generalize hs15 : setP s14 (a0) 2 ((q10.2.2.2.1 (a0) 3)) = s15 at hF ⊢
      rw [stl_eq] at hF
      refine r_iconst f_TE_load_42 (v := 0) (by decide) ?_
      refine r_istore_n f_TE_load_43 ?_
      exact w_TE_load_44 hB hd  hQ 5000 _ (s15) (a0) ((0 : Int32)) ha0 (lk_put_ne (lk_put_ne rfl (by decide) (Or.inl rfl)) (by decide) (Or.inl rfl)) lk_put hF
    · rw [if_neg (bz_nt (Decidable.not_not.mp c11))] at hF
      refine r_iconst f_TE_load_22 (v := (-1)) (by decide) ?_
      cases hF
      exact r_ireturn f_TE_load_23 hQ
theorem f_TE_verified_0 : fetch 164 0 = some (.aload_n 0, 1, 0, 0, 0) := rfl
theorem f_TE_verified_1 : fetch 164 1 = some (.getfield 20, 3, 7, 2, 129) := rfl
theorem f_TE_verified_4 : fetch 164 4 = some (.iload_n 1, 1, 0, 0, 0) := rfl
theorem f_TE_verified_5 : fetch 164 5 = some (.invokevirtual 70, 3, 16, 1, 171) := rfl
theorem f_TE_verified_8 : fetch 164 8 = some (.ifnull 7, 3, 15, 0, 0) := rfl
theorem f_TE_verified_11 : fetch 164 11 = some (.iconst 1, 1, 0, 0, 0) := rfl
theorem f_TE_verified_12 : fetch 164 12 = some (.goto 4, 3, 16, 0, 0) := rfl
theorem f_TE_verified_15 : fetch 164 15 = some (.iconst 0, 1, 0, 0, 0) := rfl
theorem f_TE_verified_16 : fetch 164 16 = some (.ireturn, 1, 2, 0, 0) := rfl
def F_TE_verified_16  (y0 : Bool) (σ : SG) : Option (Bool × SG) :=
  some (y0, σ)
set_option maxHeartbeats 4000000 in
theorem w_TE_verified_16 {b d : Nat} {sc : SC} {pre tl : List PE} {B : Nat} {Q : Option Value → List PE → Prop} {res : Bool × SG} (hB : B = b + pre.length) (hd : 2 ≤ d)   (hQ : Q (some (.int (bz res.1))) (HH pre tl SHc B res.2)) (lv : LV) (σ : SG) (y0 : Bool)  (hF : F_TE_verified_16  y0 σ = some res) : Rn b sc d 164 16 lv [.int (bz (y0))] (HH pre tl SHc B σ) Q := by
  obtain ⟨e0, rfl⟩ : ∃ e, d = e + 1 := ⟨d - 1, by omega⟩
  unfold F_TE_verified_16 at hF
  cases hF
  exact r_zreturn f_TE_verified_16 (bz_or (y0)) hQ
def F_TE_verified (a0 : Nat) (a1 : Int32) (σ : SG) : Option (Bool × SG) :=
  if isC SHc ((σ.2.2.1 (a0) 2)) 1 = true then
  match F_Im_verifiedMethod ((σ.2.2.1 (a0) 2)) (a1) σ with
  | none => none
  | some q2 =>
  match q2.1 with
  | none => F_TE_verified_16 (false) q2.2
  | some k3 => if isC SHc k3 2 = true then
  F_TE_verified_16 (true) q2.2
  else none
  else none
set_option maxHeartbeats 4000000 in
theorem w_TE_verified {b d : Nat} {pre tl : List PE} {B : Nat} {Q : Option Value → List PE → Prop} {res : Bool × SG} (hB : B = b + pre.length) (hd : 2 ≤ d)  {σ : SG} (a0 : Nat) (a1 : Int32) (ha0 : isC SHc (a0) 7 = true) (hF : F_TE_verified a0 a1 σ = some res) (hQ : Q (some (.int (bz res.1))) (HH pre tl SHc B res.2)) : Cl b d 164 [.ref (B + (a0)), .int (a1)] (HH pre tl SHc B σ) Q := by
  obtain ⟨e0, rfl⟩ : ∃ e, d = e + 1 := ⟨d - 1, by omega⟩
  unfold Cl
  unfold F_TE_verified at hF
  refine r_aload_n f_TE_verified_0 rfl ?_
  by_cases c1 : isC SHc ((σ.2.2.1 (a0) 2)) 1 = true
  case neg => rw [if_neg c1] at hF; cases hF
  rw [if_pos c1] at hF
  refine t_getm hB ha0 f_TE_verified_1 rfl ?_
  refine r_iload_n f_TE_verified_4 rfl ?_
  cases hq2 : F_Im_verifiedMethod ((σ.2.2.1 (a0) 2)) (a1) σ with
  | none => simp only [hq2] at hF; cases hF
  | some q2 =>
    simp only [hq2] at hF
    refine t_V1o hB c1 rfl rfl f_TE_verified_5 (by decide) (Nat.le_of_ble_eq_true rfl) (Nat.le_of_ble_eq_true rfl) (w_Im_verifiedMethod hB (by omega) ((σ.2.2.1 (a0) 2)) (a1) c1 hq2 ⟨_, rfl, ?_⟩)
    cases c4 : (q2.1 : Option Nat) with
    | none =>
      simp only [c4] at *
      refine r_ifnullT f_TE_verified_8 ?_
      refine r_iconst f_TE_verified_15 (v := 0) (by decide) ?_
      exact w_TE_verified_16 hB hd  hQ _ (q2.2) (false) hF
    | some k3 =>
      simp only [c4] at *
      by_cases c4k : isC SHc k3 2 = true
      · rw [if_pos c4k] at hF
        refine r_ifnullF f_TE_verified_8 ?_
        refine r_iconst f_TE_verified_11 (v := 1) (by decide) ?_
        refine r_goto f_TE_verified_12 ?_
        exact w_TE_verified_16 hB hd  hQ _ (q2.2) (true) hF
      · rw [if_neg c4k] at hF; cases hF
theorem f_TE_depth_0 : fetch 165 0 = some (.aload_n 0, 1, 0, 0, 0) := rfl
theorem f_TE_depth_1 : fetch 165 1 = some (.getfield 20, 3, 7, 2, 129) := rfl
theorem f_TE_depth_4 : fetch 165 4 = some (.iload_n 1, 1, 0, 0, 0) := rfl
theorem f_TE_depth_5 : fetch 165 5 = some (.invokevirtual 70, 3, 16, 1, 171) := rfl
theorem f_TE_depth_8 : fetch 165 8 = some (.astore_n 3, 1, 0, 0, 0) := rfl
theorem f_TE_depth_9 : fetch 165 9 = some (.aload_n 3, 1, 0, 0, 0) := rfl
theorem f_TE_depth_10 : fetch 165 10 = some (.ifnonnull 6, 3, 16, 0, 0) := rfl
theorem f_TE_depth_13 : fetch 165 13 = some (.bipush (-2), 2, 0, 0, 0) := rfl
theorem f_TE_depth_15 : fetch 165 15 = some (.ireturn, 1, 0, 0, 0) := rfl
theorem f_TE_depth_16 : fetch 165 16 = some (.aload_n 3, 1, 0, 0, 0) := rfl
theorem f_TE_depth_17 : fetch 165 17 = some (.iload_n 2, 1, 0, 0, 0) := rfl
theorem f_TE_depth_18 : fetch 165 18 = some (.invokevirtual 74, 3, 20, 1, 172) := rfl
theorem f_TE_depth_21 : fetch 165 21 = some (.istore 4, 2, 0, 0, 0) := rfl
theorem f_TE_depth_23 : fetch 165 23 = some (.iload 4, 2, 0, 0, 0) := rfl
theorem f_TE_depth_25 : fetch 165 25 = some (.iconst (-1), 1, 0, 0, 0) := rfl
theorem f_TE_depth_26 : fetch 165 26 = some (.if_icmp .ne 7, 3, 33, 0, 0) := rfl
theorem f_TE_depth_29 : fetch 165 29 = some (.iconst (-1), 1, 0, 0, 0) := rfl
theorem f_TE_depth_30 : fetch 165 30 = some (.goto 8, 3, 38, 0, 0) := rfl
theorem f_TE_depth_33 : fetch 165 33 = some (.iload 4, 2, 0, 0, 0) := rfl
theorem f_TE_depth_35 : fetch 165 35 = some (.invokestatic 82, 3, 156, 1, 173) := rfl
theorem f_TE_depth_38 : fetch 165 38 = some (.ireturn, 1, 0, 0, 0) := rfl
def F_TE_depth_38  (y0 : Int32) (σ : SG) : Option (Int32 × SG) :=
  some (y0, σ)
set_option maxHeartbeats 4000000 in
theorem w_TE_depth_38 {b d : Nat} {sc : SC} {pre tl : List PE} {B : Nat} {Q : Option Value → List PE → Prop} {res : Int32 × SG} (hB : B = b + pre.length) (hd : 2 ≤ d)   (hQ : Q (some (.int res.1)) (HH pre tl SHc B res.2)) (lv : LV) (σ : SG) (y0 : Int32)  (hF : F_TE_depth_38  y0 σ = some res) : Rn b sc d 165 38 lv [.int (y0)] (HH pre tl SHc B σ) Q := by
  obtain ⟨e0, rfl⟩ : ∃ e, d = e + 1 := ⟨d - 1, by omega⟩
  unfold F_TE_depth_38 at hF
  cases hF
  exact r_ireturn f_TE_depth_38 hQ
def F_TE_depth (a0 : Nat) (a1 : Int32) (a2 : Int32) (σ : SG) : Option (Int32 × SG) :=
  if isC SHc ((σ.2.2.1 (a0) 2)) 1 = true then
  match F_Im_verifiedMethod ((σ.2.2.1 (a0) 2)) (a1) σ with
  | none => none
  | some q2 =>
  match q2.1 with
  | none => some (((-2) : Int32), q2.2)
  | some k3 => if isC SHc k3 2 = true then
  match F_Me_rowAt (k3) (a2) q2.2 with
  | none => none
  | some q5 =>
  if q5.1 = ((-1) : Int32) then
  F_TE_depth_38 (((-1) : Int32)) q5.2
  else match F_Rw_size (q5.1) q5.2 with
  | none => none
  | some q7 =>
  F_TE_depth_38 (q7.1) q7.2
  else none
  else none
set_option maxHeartbeats 4000000 in
theorem w_TE_depth {b d : Nat} {pre tl : List PE} {B : Nat} {Q : Option Value → List PE → Prop} {res : Int32 × SG} (hB : B = b + pre.length) (hd : 2 ≤ d)  {σ : SG} (a0 : Nat) (a1 : Int32) (a2 : Int32) (ha0 : isC SHc (a0) 7 = true) (hF : F_TE_depth a0 a1 a2 σ = some res) (hQ : Q (some (.int res.1)) (HH pre tl SHc B res.2)) : Cl b d 165 [.ref (B + (a0)), .int (a1), .int (a2)] (HH pre tl SHc B σ) Q := by
  obtain ⟨e0, rfl⟩ : ∃ e, d = e + 1 := ⟨d - 1, by omega⟩
  unfold Cl
  unfold F_TE_depth at hF
  refine r_aload_n f_TE_depth_0 rfl ?_
  by_cases c1 : isC SHc ((σ.2.2.1 (a0) 2)) 1 = true
  case neg => rw [if_neg c1] at hF; cases hF
  rw [if_pos c1] at hF
  refine t_getm hB ha0 f_TE_depth_1 rfl ?_
  refine r_iload_n f_TE_depth_4 rfl ?_
  cases hq2 : F_Im_verifiedMethod ((σ.2.2.1 (a0) 2)) (a1) σ with
  | none => simp only [hq2] at hF; cases hF
  | some q2 =>
    simp only [hq2] at hF
    refine t_V1o hB c1 rfl rfl f_TE_depth_5 (by decide) (Nat.le_of_ble_eq_true rfl) (Nat.le_of_ble_eq_true rfl) (w_Im_verifiedMethod hB (by omega) ((σ.2.2.1 (a0) 2)) (a1) c1 hq2 ⟨_, rfl, ?_⟩)
    refine r_astore_n_O f_TE_depth_8 ?_
    refine r_aload_n_O f_TE_depth_9 lk_put ?_
    cases c4 : (q2.1 : Option Nat) with
    | none =>
      simp only [c4] at *
      refine r_ifnonnullF f_TE_depth_10 ?_
      refine r_bipush f_TE_depth_13 (v := (-2)) (by decide) ?_
      cases hF
      exact r_ireturn f_TE_depth_15 hQ
    | some k3 =>
      simp only [c4] at *
      by_cases c4k : isC SHc k3 2 = true
      · rw [if_pos c4k] at hF
        refine r_ifnonnullT f_TE_depth_10 ?_
        refine r_aload_n f_TE_depth_16 lk_put ?_
        refine r_iload_n f_TE_depth_17 (lk_put_ne rfl (by decide) (Or.inl rfl)) ?_
        cases hq5 : F_Me_rowAt (k3) (a2) q2.2 with
        | none => simp only [hq5] at hF; cases hF
        | some q5 =>
          simp only [hq5] at hF
          refine t_V1i hB c4k rfl rfl f_TE_depth_18 (by decide) (Nat.le_of_ble_eq_true rfl) (Nat.le_of_ble_eq_true rfl) (w_Me_rowAt hB  (k3) (a2) c4k hq5 ⟨_, rfl, ?_⟩)
          refine r_istore f_TE_depth_21 ?_
          refine r_iload f_TE_depth_23 lk_put ?_
          refine r_iconst f_TE_depth_25 (v := (-1)) (by decide) ?_
          refine r_icmp_ne f_TE_depth_26 (fun c6 => ?_) (fun c6 => ?_)
          · rw [if_neg c6] at hF
            refine r_iload f_TE_depth_33 lk_put ?_
            cases hq7 : F_Rw_size (q5.1) q5.2 with
            | none => simp only [hq7] at hF; cases hF
            | some q7 =>
              simp only [hq7] at hF
              refine t_S1i f_TE_depth_35 (by decide) (Nat.le_of_ble_eq_true rfl) (Nat.le_of_ble_eq_true rfl) (w_Rw_size hB  (q5.1)  hq7 ⟨_, rfl, ?_⟩)
              exact w_TE_depth_38 hB hd  hQ _ (q7.2) (q7.1) hF
          · rw [if_pos (Decidable.not_not.mp c6)] at hF
            refine r_iconst f_TE_depth_29 (v := (-1)) (by decide) ?_
            refine r_goto f_TE_depth_30 ?_
            exact w_TE_depth_38 hB hd  hQ _ (q5.2) (((-1) : Int32)) hF
      · rw [if_neg c4k] at hF; cases hF
theorem f_TE_type_0 : fetch 166 0 = some (.aload_n 0, 1, 0, 0, 0) := rfl
theorem f_TE_type_1 : fetch 166 1 = some (.getfield 20, 3, 7, 2, 129) := rfl
theorem f_TE_type_4 : fetch 166 4 = some (.iload_n 1, 1, 0, 0, 0) := rfl
theorem f_TE_type_5 : fetch 166 5 = some (.invokevirtual 70, 3, 16, 1, 171) := rfl
theorem f_TE_type_8 : fetch 166 8 = some (.astore 4, 2, 0, 0, 0) := rfl
theorem f_TE_type_10 : fetch 166 10 = some (.aload 4, 2, 0, 0, 0) := rfl
theorem f_TE_type_12 : fetch 166 12 = some (.ifnonnull 5, 3, 17, 0, 0) := rfl
theorem f_TE_type_15 : fetch 166 15 = some (.iconst 0, 1, 0, 0, 0) := rfl
theorem f_TE_type_16 : fetch 166 16 = some (.ireturn, 1, 0, 0, 0) := rfl
theorem f_TE_type_17 : fetch 166 17 = some (.aload 4, 2, 0, 0, 0) := rfl
theorem f_TE_type_19 : fetch 166 19 = some (.iload_n 2, 1, 0, 0, 0) := rfl
theorem f_TE_type_20 : fetch 166 20 = some (.invokevirtual 74, 3, 20, 1, 172) := rfl
theorem f_TE_type_23 : fetch 166 23 = some (.istore 5, 2, 0, 0, 0) := rfl
theorem f_TE_type_25 : fetch 166 25 = some (.iload 5, 2, 0, 0, 0) := rfl
theorem f_TE_type_27 : fetch 166 27 = some (.iconst (-1), 1, 0, 0, 0) := rfl
theorem f_TE_type_28 : fetch 166 28 = some (.if_icmp .ne 7, 3, 35, 0, 0) := rfl
theorem f_TE_type_31 : fetch 166 31 = some (.iconst 0, 1, 0, 0, 0) := rfl
theorem f_TE_type_32 : fetch 166 32 = some (.goto 9, 3, 41, 0, 0) := rfl
theorem f_TE_type_35 : fetch 166 35 = some (.iload 5, 2, 0, 0, 0) := rfl
theorem f_TE_type_37 : fetch 166 37 = some (.iload_n 3, 1, 0, 0, 0) := rfl
theorem f_TE_type_38 : fetch 166 38 = some (.invokestatic 85, 3, 158, 2, 174) := rfl
theorem f_TE_type_41 : fetch 166 41 = some (.ireturn, 1, 0, 0, 0) := rfl
def F_TE_type_41  (y0 : Int32) (σ : SG) : Option (Int32 × SG) :=
  some (y0, σ)
set_option maxHeartbeats 4000000 in
theorem w_TE_type_41 {b d : Nat} {sc : SC} {pre tl : List PE} {B : Nat} {Q : Option Value → List PE → Prop} {res : Int32 × SG} (hB : B = b + pre.length) (hd : 2 ≤ d)   (hQ : Q (some (.int res.1)) (HH pre tl SHc B res.2)) (lv : LV) (σ : SG) (y0 : Int32)  (hF : F_TE_type_41  y0 σ = some res) : Rn b sc d 166 41 lv [.int (y0)] (HH pre tl SHc B σ) Q := by
  obtain ⟨e0, rfl⟩ : ∃ e, d = e + 1 := ⟨d - 1, by omega⟩
  unfold F_TE_type_41 at hF
  cases hF
  exact r_ireturn f_TE_type_41 hQ
def F_TE_type (a0 : Nat) (a1 : Int32) (a2 : Int32) (a3 : Int32) (σ : SG) : Option (Int32 × SG) :=
  if isC SHc ((σ.2.2.1 (a0) 2)) 1 = true then
  match F_Im_verifiedMethod ((σ.2.2.1 (a0) 2)) (a1) σ with
  | none => none
  | some q2 =>
  match q2.1 with
  | none => some ((0 : Int32), q2.2)
  | some k3 => if isC SHc k3 2 = true then
  match F_Me_rowAt (k3) (a2) q2.2 with
  | none => none
  | some q5 =>
  if q5.1 = ((-1) : Int32) then
  F_TE_type_41 ((0 : Int32)) q5.2
  else match F_Rw_typeAt (q5.1) (a3) q5.2 with
  | none => none
  | some q7 =>
  F_TE_type_41 (q7.1) q7.2
  else none
  else none
set_option maxHeartbeats 4000000 in
theorem w_TE_type {b d : Nat} {pre tl : List PE} {B : Nat} {Q : Option Value → List PE → Prop} {res : Int32 × SG} (hB : B = b + pre.length) (hd : 2 ≤ d)  {σ : SG} (a0 : Nat) (a1 : Int32) (a2 : Int32) (a3 : Int32) (ha0 : isC SHc (a0) 7 = true) (hF : F_TE_type a0 a1 a2 a3 σ = some res) (hQ : Q (some (.int res.1)) (HH pre tl SHc B res.2)) : Cl b d 166 [.ref (B + (a0)), .int (a1), .int (a2), .int (a3)] (HH pre tl SHc B σ) Q := by
  obtain ⟨e0, rfl⟩ : ∃ e, d = e + 1 := ⟨d - 1, by omega⟩
  unfold Cl
  unfold F_TE_type at hF
  refine r_aload_n f_TE_type_0 rfl ?_
  by_cases c1 : isC SHc ((σ.2.2.1 (a0) 2)) 1 = true
  case neg => rw [if_neg c1] at hF; cases hF
  rw [if_pos c1] at hF
  refine t_getm hB ha0 f_TE_type_1 rfl ?_
  refine r_iload_n f_TE_type_4 rfl ?_
  cases hq2 : F_Im_verifiedMethod ((σ.2.2.1 (a0) 2)) (a1) σ with
  | none => simp only [hq2] at hF; cases hF
  | some q2 =>
    simp only [hq2] at hF
    refine t_V1o hB c1 rfl rfl f_TE_type_5 (by decide) (Nat.le_of_ble_eq_true rfl) (Nat.le_of_ble_eq_true rfl) (w_Im_verifiedMethod hB (by omega) ((σ.2.2.1 (a0) 2)) (a1) c1 hq2 ⟨_, rfl, ?_⟩)
    refine r_astore_O f_TE_type_8 ?_
    refine r_aload_O f_TE_type_10 lk_put ?_
    cases c4 : (q2.1 : Option Nat) with
    | none =>
      simp only [c4] at *
      refine r_ifnonnullF f_TE_type_12 ?_
      refine r_iconst f_TE_type_15 (v := 0) (by decide) ?_
      cases hF
      exact r_ireturn f_TE_type_16 hQ
    | some k3 =>
      simp only [c4] at *
      by_cases c4k : isC SHc k3 2 = true
      · rw [if_pos c4k] at hF
        refine r_ifnonnullT f_TE_type_12 ?_
        refine r_aload f_TE_type_17 lk_put ?_
        refine r_iload_n f_TE_type_19 (lk_put_ne rfl (by decide) (Or.inl rfl)) ?_
        cases hq5 : F_Me_rowAt (k3) (a2) q2.2 with
        | none => simp only [hq5] at hF; cases hF
        | some q5 =>
          simp only [hq5] at hF
          refine t_V1i hB c4k rfl rfl f_TE_type_20 (by decide) (Nat.le_of_ble_eq_true rfl) (Nat.le_of_ble_eq_true rfl) (w_Me_rowAt hB  (k3) (a2) c4k hq5 ⟨_, rfl, ?_⟩)
          refine r_istore f_TE_type_23 ?_
          refine r_iload f_TE_type_25 lk_put ?_
          refine r_iconst f_TE_type_27 (v := (-1)) (by decide) ?_
          refine r_icmp_ne f_TE_type_28 (fun c6 => ?_) (fun c6 => ?_)
          · rw [if_neg c6] at hF
            refine r_iload f_TE_type_35 lk_put ?_
            refine r_iload_n f_TE_type_37 (lk_put_ne (lk_put_ne rfl (by decide) (Or.inl rfl)) (by decide) (Or.inl rfl)) ?_
            cases hq7 : F_Rw_typeAt (q5.1) (a3) q5.2 with
            | none => simp only [hq7] at hF; cases hF
            | some q7 =>
              simp only [hq7] at hF
              refine t_S2i f_TE_type_38 (by decide) (Nat.le_of_ble_eq_true rfl) (Nat.le_of_ble_eq_true rfl) (w_Rw_typeAt hB  (q5.1) (a3)  hq7 ⟨_, rfl, ?_⟩)
              exact w_TE_type_41 hB hd  hQ _ (q7.2) (q7.1) hF
          · rw [if_pos (Decidable.not_not.mp c6)] at hF
            refine r_iconst f_TE_type_31 (v := 0) (by decide) ?_
            refine r_goto f_TE_type_32 ?_
            exact w_TE_type_41 hB hd  hQ _ (q5.2) ((0 : Int32)) hF
      · rw [if_neg c4k] at hF; cases hF
theorem f_TE_start_0 : fetch 167 0 = some (.aload_n 0, 1, 0, 0, 0) := rfl
theorem f_TE_start_1 : fetch 167 1 = some (.getfield 20, 3, 7, 2, 129) := rfl
theorem f_TE_start_4 : fetch 167 4 = some (.iload_n 1, 1, 0, 0, 0) := rfl
theorem f_TE_start_5 : fetch 167 5 = some (.invokevirtual 70, 3, 16, 1, 171) := rfl
theorem f_TE_start_8 : fetch 167 8 = some (.astore 4, 2, 0, 0, 0) := rfl
theorem f_TE_start_10 : fetch 167 10 = some (.aload 4, 2, 0, 0, 0) := rfl
theorem f_TE_start_12 : fetch 167 12 = some (.ifnull 22, 3, 34, 0, 0) := rfl
theorem f_TE_start_15 : fetch 167 15 = some (.aload 4, 2, 0, 0, 0) := rfl
theorem f_TE_start_17 : fetch 167 17 = some (.invokevirtual 89, 3, 26, 0, 175) := rfl
theorem f_TE_start_20 : fetch 167 20 = some (.ifCond .eq 14, 3, 34, 0, 0) := rfl
theorem f_TE_start_23 : fetch 167 23 = some (.aload_n 0, 1, 0, 0, 0) := rfl
theorem f_TE_start_24 : fetch 167 24 = some (.getfield 20, 3, 7, 2, 129) := rfl
theorem f_TE_start_27 : fetch 167 27 = some (.iload_n 1, 1, 0, 0, 0) := rfl
theorem f_TE_start_28 : fetch 167 28 = some (.invokevirtual 93, 3, 17, 1, 176) := rfl
theorem f_TE_start_31 : fetch 167 31 = some (.ifCond .ne 5, 3, 36, 0, 0) := rfl
theorem f_TE_start_34 : fetch 167 34 = some (.iconst 0, 1, 0, 0, 0) := rfl
theorem f_TE_start_35 : fetch 167 35 = some (.ireturn, 1, 2, 0, 0) := rfl
theorem f_TE_start_36 : fetch 167 36 = some (.aload_n 0, 1, 0, 0, 0) := rfl
theorem f_TE_start_37 : fetch 167 37 = some (.getfield 46, 3, 7, 6, 133) := rfl
theorem f_TE_start_40 : fetch 167 40 = some (.aload_n 0, 1, 0, 0, 0) := rfl
theorem f_TE_start_41 : fetch 167 41 = some (.getfield 20, 3, 7, 2, 129) := rfl
theorem f_TE_start_44 : fetch 167 44 = some (.iload_n 1, 1, 0, 0, 0) := rfl
theorem f_TE_start_45 : fetch 167 45 = some (.iload_n 2, 1, 0, 0, 0) := rfl
theorem f_TE_start_46 : fetch 167 46 = some (.iload_n 3, 1, 0, 0, 0) := rfl
theorem f_TE_start_47 : fetch 167 47 = some (.invokevirtual 97, 3, 120, 4, 177) := rfl
theorem f_TE_start_50 : fetch 167 50 = some (.iconst 1, 1, 0, 0, 0) := rfl
theorem f_TE_start_51 : fetch 167 51 = some (.ireturn, 1, 2, 0, 0) := rfl
def F_TE_start_34   (σ : SG) : Option (Bool × SG) :=
  some (false, σ)
set_option maxHeartbeats 4000000 in
theorem w_TE_start_34 {b d : Nat} {sc : SC} {pre tl : List PE} {B : Nat} {Q : Option Value → List PE → Prop} {res : Bool × SG} (hB : B = b + pre.length) (hd : 3 ≤ d)   (hQ : Q (some (.int (bz res.1))) (HH pre tl SHc B res.2)) (lv : LV) (σ : SG)   (hF : F_TE_start_34   σ = some res) : Rn b sc d 167 34 lv [] (HH pre tl SHc B σ) Q := by
  obtain ⟨e0, rfl⟩ : ∃ e, d = e + 1 := ⟨d - 1, by omega⟩
  unfold F_TE_start_34 at hF
  refine r_iconst f_TE_start_34 (v := 0) (by decide) ?_
  cases hF
  exact r_zreturn f_TE_start_35 (bz_or (false)) hQ
def F_TE_start (a0 : Nat) (a1 : Int32) (a2 : Int32) (a3 : Int32) (σ : SG) : Option (Bool × SG) :=
  if isC SHc ((σ.2.2.1 (a0) 2)) 1 = true then
  match F_Im_verifiedMethod ((σ.2.2.1 (a0) 2)) (a1) σ with
  | none => none
  | some q2 =>
  match q2.1 with
  | none => F_TE_start_34 q2.2
  | some k3 => if isC SHc k3 2 = true then
  match F_Me_takesNumbersAlone (k3) q2.2 with
  | none => none
  | some q5 =>
  if q5.1 = true then
  if isC SHc ((q5.2.2.2.1 (a0) 2)) 1 = true then
  match F_Im_callsVerifiedAlone ((q5.2.2.2.1 (a0) 2)) (a1) q5.2 with
  | none => none
  | some q8 =>
  if q8.1 = true then
  if isC SHc ((q8.2.2.2.1 (a0) 2)) 1 = true then
  match F_Ru_begin ((cref SHc (a0) 6)) ((q8.2.2.2.1 (a0) 2)) (a1) (a2) (a3) q8.2 with
  | none => none
  | some q11 =>
  some (true, q11)
  else none
  else F_TE_start_34 q8.2
  else none
  else F_TE_start_34 q5.2
  else none
  else none
set_option maxHeartbeats 4000000 in
theorem w_TE_start {b d : Nat} {pre tl : List PE} {B : Nat} {Q : Option Value → List PE → Prop} {res : Bool × SG} (hB : B = b + pre.length) (hd : 3 ≤ d)  {σ : SG} (a0 : Nat) (a1 : Int32) (a2 : Int32) (a3 : Int32) (ha0 : isC SHc (a0) 7 = true) (hF : F_TE_start a0 a1 a2 a3 σ = some res) (hQ : Q (some (.int (bz res.1))) (HH pre tl SHc B res.2)) : Cl b d 167 [.ref (B + (a0)), .int (a1), .int (a2), .int (a3)] (HH pre tl SHc B σ) Q := by
  obtain ⟨e0, rfl⟩ : ∃ e, d = e + 1 := ⟨d - 1, by omega⟩
  unfold Cl
  unfold F_TE_start at hF
  refine r_aload_n f_TE_start_0 rfl ?_
  by_cases c1 : isC SHc ((σ.2.2.1 (a0) 2)) 1 = true
  case neg => rw [if_neg c1] at hF; cases hF
  rw [if_pos c1] at hF
  refine t_getm hB ha0 f_TE_start_1 rfl ?_
  refine r_iload_n f_TE_start_4 rfl ?_
  cases hq2 : F_Im_verifiedMethod ((σ.2.2.1 (a0) 2)) (a1) σ with
  | none => simp only [hq2] at hF; cases hF
  | some q2 =>
    simp only [hq2] at hF
    refine t_V1o hB c1 rfl rfl f_TE_start_5 (by decide) (Nat.le_of_ble_eq_true rfl) (Nat.le_of_ble_eq_true rfl) (w_Im_verifiedMethod hB (by omega) ((σ.2.2.1 (a0) 2)) (a1) c1 hq2 ⟨_, rfl, ?_⟩)
    refine r_astore_O f_TE_start_8 ?_
    refine r_aload_O f_TE_start_10 lk_put ?_
    cases c4 : (q2.1 : Option Nat) with
    | none =>
      simp only [c4] at *
      refine r_ifnullT f_TE_start_12 ?_
      exact w_TE_start_34 hB hd  hQ _ (q2.2) hF
    | some k3 =>
      simp only [c4] at *
      by_cases c4k : isC SHc k3 2 = true
      · rw [if_pos c4k] at hF
        refine r_ifnullF f_TE_start_12 ?_
        refine r_aload f_TE_start_15 lk_put ?_
        cases hq5 : F_Me_takesNumbersAlone (k3) q2.2 with
        | none => simp only [hq5] at hF; cases hF
        | some q5 =>
          simp only [hq5] at hF
          refine t_V0i hB c4k rfl rfl f_TE_start_17 (by decide) (Nat.le_of_ble_eq_true rfl) (Nat.le_of_ble_eq_true rfl) (w_Me_takesNumbersAlone hB  (k3) c4k hq5 ⟨_, rfl, ?_⟩)
          refine r_if_eq f_TE_start_20 (fun c6 => ?_) (fun c6 => ?_)
          · rw [if_neg (bz_nt c6)] at hF
            exact w_TE_start_34 hB hd  hQ _ (q5.2) hF
          · rw [if_pos (bz_t c6)] at hF
            refine r_aload_n f_TE_start_23 (lk_put_ne rfl (by decide) (Or.inl rfl)) ?_
            by_cases c7 : isC SHc ((q5.2.2.2.1 (a0) 2)) 1 = true
            case neg => rw [if_neg c7] at hF; cases hF
            rw [if_pos c7] at hF
            refine t_getm hB ha0 f_TE_start_24 rfl ?_
            refine r_iload_n f_TE_start_27 (lk_put_ne rfl (by decide) (Or.inl rfl)) ?_
            cases hq8 : F_Im_callsVerifiedAlone ((q5.2.2.2.1 (a0) 2)) (a1) q5.2 with
            | none => simp only [hq8] at hF; cases hF
            | some q8 =>
              simp only [hq8] at hF
              refine t_V1i hB c7 rfl rfl f_TE_start_28 (by decide) (Nat.le_of_ble_eq_true rfl) (Nat.le_of_ble_eq_true rfl) (w_Im_callsVerifiedAlone hB  ((q5.2.2.2.1 (a0) 2)) (a1) c7 hq8 ⟨_, rfl, ?_⟩)
              refine r_if_ne f_TE_start_31 (fun c9 => ?_) (fun c9 => ?_)
              · rw [if_pos (bz_t c9)] at hF
                refine r_aload_n f_TE_start_36 (lk_put_ne rfl (by decide) (Or.inl rfl)) ?_
                refine t_getc hB ha0 f_TE_start_37 rfl ?_
                refine r_aload_n f_TE_start_40 (lk_put_ne rfl (by decide) (Or.inl rfl)) ?_
                by_cases c10 : isC SHc ((q8.2.2.2.1 (a0) 2)) 1 = true
                case neg => rw [if_neg c10] at hF; cases hF
                rw [if_pos c10] at hF
                refine t_getm hB ha0 f_TE_start_41 rfl ?_
                refine r_iload_n f_TE_start_44 (lk_put_ne rfl (by decide) (Or.inl rfl)) ?_
                refine r_iload_n f_TE_start_45 (lk_put_ne rfl (by decide) (Or.inl rfl)) ?_
                refine r_iload_n f_TE_start_46 (lk_put_ne rfl (by decide) (Or.inl rfl)) ?_
                cases hq11 : F_Ru_begin ((cref SHc (a0) 6)) ((q8.2.2.2.1 (a0) 2)) (a1) (a2) (a3) q8.2 with
                | none => simp only [hq11] at hF; cases hF
                | some q11 =>
                  simp only [hq11] at hF
                  refine t_V4v hB (cc_7_6 ha0) rfl rfl f_TE_start_47 (by decide) (Nat.le_of_ble_eq_true rfl) (Nat.le_of_ble_eq_true rfl) (w_Ru_begin hB (by omega) ((cref SHc (a0) 6)) ((q8.2.2.2.1 (a0) 2)) (a1) (a2) (a3) (cc_7_6 ha0) c10 hq11 ⟨rfl, ?_⟩)
                  refine r_iconst f_TE_start_50 (v := 1) (by decide) ?_
                  cases hF
                  exact r_zreturn f_TE_start_51 (bz_or (true)) hQ
              · rw [if_neg (bz_nt (Decidable.not_not.mp c9))] at hF
                exact w_TE_start_34 hB hd  hQ _ (q8.2) hF
      · rw [if_neg c4k] at hF; cases hF
theorem f_TE_step_0 : fetch 168 0 = some (.aload_n 0, 1, 0, 0, 0) := rfl
theorem f_TE_step_1 : fetch 168 1 = some (.getfield 46, 3, 7, 6, 133) := rfl
theorem f_TE_step_4 : fetch 168 4 = some (.getfield 101, 3, 5, 9, 136) := rfl
theorem f_TE_step_7 : fetch 168 7 = some (.ifCond .eq 14, 3, 21, 0, 0) := rfl
theorem f_TE_step_10 : fetch 168 10 = some (.iload_n 1, 1, 0, 0, 0) := rfl
theorem f_TE_step_11 : fetch 168 11 = some (.ifCond .lt 10, 3, 21, 0, 0) := rfl
theorem f_TE_step_14 : fetch 168 14 = some (.iload_n 1, 1, 0, 0, 0) := rfl
theorem f_TE_step_15 : fetch 168 15 = some (.sipush 500, 3, 0, 0, 0) := rfl
theorem f_TE_step_18 : fetch 168 18 = some (.if_icmp .le 5, 3, 23, 0, 0) := rfl
theorem f_TE_step_21 : fetch 168 21 = some (.iconst (-1), 1, 0, 0, 0) := rfl
theorem f_TE_step_22 : fetch 168 22 = some (.ireturn, 1, 0, 0, 0) := rfl
theorem f_TE_step_23 : fetch 168 23 = some (.iconst 0, 1, 0, 0, 0) := rfl
theorem f_TE_step_24 : fetch 168 24 = some (.istore_n 2, 1, 0, 0, 0) := rfl
theorem f_TE_step_25 : fetch 168 25 = some (.iload_n 2, 1, 0, 0, 0) := rfl
theorem f_TE_step_26 : fetch 168 26 = some (.iload_n 1, 1, 0, 0, 0) := rfl
theorem f_TE_step_27 : fetch 168 27 = some (.if_icmp .ge 27, 3, 54, 0, 0) := rfl
theorem f_TE_step_30 : fetch 168 30 = some (.aload_n 0, 1, 0, 0, 0) := rfl
theorem f_TE_step_31 : fetch 168 31 = some (.getfield 46, 3, 7, 6, 133) := rfl
theorem f_TE_step_34 : fetch 168 34 = some (.getfield 101, 3, 5, 9, 136) := rfl
theorem f_TE_step_37 : fetch 168 37 = some (.iconst 1, 1, 0, 0, 0) := rfl
theorem f_TE_step_38 : fetch 168 38 = some (.if_icmp .ne 16, 3, 54, 0, 0) := rfl
theorem f_TE_step_41 : fetch 168 41 = some (.aload_n 0, 1, 0, 0, 0) := rfl
theorem f_TE_step_42 : fetch 168 42 = some (.getfield 46, 3, 7, 6, 133) := rfl
theorem f_TE_step_45 : fetch 168 45 = some (.invokevirtual 104, 3, 124, 0, 178) := rfl
theorem f_TE_step_48 : fetch 168 48 = some (.iinc 2 1, 3, 0, 0, 0) := rfl
theorem f_TE_step_51 : fetch 168 51 = some (.goto (-26), 3, 25, 0, 0) := rfl
theorem f_TE_step_54 : fetch 168 54 = some (.iload_n 2, 1, 0, 0, 0) := rfl
theorem f_TE_step_55 : fetch 168 55 = some (.ireturn, 1, 0, 0, 0) := rfl
def F_TE_step_54  (x2 : Int32) (σ : SG) : Option (Int32 × SG) :=
  some (x2, σ)
set_option maxHeartbeats 4000000 in
theorem w_TE_step_54 {b d : Nat} {sc : SC} {pre tl : List PE} {B : Nat} {Q : Option Value → List PE → Prop} {res : Int32 × SG} (hB : B = b + pre.length) (hd : 6 ≤ d)   (hQ : Q (some (.int res.1)) (HH pre tl SHc B res.2)) (lv : LV) (σ : SG) (x2 : Int32) (l2 : lv.lookup 2 = some (.int (x2))) (hF : F_TE_step_54  x2 σ = some res) : Rn b sc d 168 54 lv [] (HH pre tl SHc B σ) Q := by
  obtain ⟨e0, rfl⟩ : ∃ e, d = e + 1 := ⟨d - 1, by omega⟩
  unfold F_TE_step_54 at hF
  refine r_iload_n f_TE_step_54 l2 ?_
  cases hF
  exact r_ireturn f_TE_step_55 hQ
def F_TE_step_25  : Nat → Nat → Int32 → Int32 → SG → Option (Int32 × SG)
  | 0, _, _, _, _ => none
  | n + 1, x0, x1, x2, σ =>
  if x1 ≤ x2 then
  F_TE_step_54 (x2) σ
  else if (σ.1 ((cref SHc (x0) 6)) 9) = (1 : Int32) then
  match F_Ru_doInstruction ((cref SHc (x0) 6)) σ with
  | none => none
  | some q3 =>
  F_TE_step_25  n (x0) (x1) ((x2 + 1)) q3
  else F_TE_step_54 (x2) σ
set_option maxHeartbeats 4000000 in
theorem w_TE_step_25 {b d : Nat} {sc : SC} {pre tl : List PE} {B : Nat} {Q : Option Value → List PE → Prop} {res : Int32 × SG} (hB : B = b + pre.length) (hd : 6 ≤ d)   (hQ : Q (some (.int res.1)) (HH pre tl SHc B res.2)) : ∀ (n : Nat) (lv : LV) (σ : SG) (x0 : Nat) (x1 : Int32) (x2 : Int32), isC SHc (x0) 7 = true → lv.lookup 0 = some (.ref (B + (x0))) → lv.lookup 1 = some (.int (x1)) → lv.lookup 2 = some (.int (x2)) → F_TE_step_25  n x0 x1 x2 σ = some res → Rn b sc d 168 25 lv [] (HH pre tl SHc B σ) Q := by
  obtain ⟨e0, rfl⟩ : ∃ e, d = e + 1 := ⟨d - 1, by omega⟩
  intro n
  induction n with
  | zero => intro lv σ x0 x1 x2 hx0 l0 l1 l2 hF; cases hF
  | succ n ih =>
    intro lv σ x0 x1 x2 hx0 l0 l1 l2 hF
    unfold F_TE_step_25 at hF
    refine r_iload_n f_TE_step_25 l2 ?_
    refine r_iload_n f_TE_step_26 l1 ?_
    refine r_icmp_ge f_TE_step_27 (fun c1 => ?_) (fun c1 => ?_)
    · rw [if_pos c1] at hF
      exact w_TE_step_54 hB hd  hQ _ (σ) (x2) l2 hF
    · rw [if_neg c1] at hF
      refine r_aload_n f_TE_step_30 l0 ?_
      refine t_getc hB hx0 f_TE_step_31 rfl ?_
      refine t_geti hB (cc_7_6 hx0) f_TE_step_34 rfl ?_
      refine r_iconst f_TE_step_37 (v := 1) (by decide) ?_
      refine r_icmp_ne f_TE_step_38 (fun c2 => ?_) (fun c2 => ?_)
      · rw [if_neg c2] at hF
        exact w_TE_step_54 hB hd  hQ _ (σ) (x2) l2 hF
      · rw [if_pos (Decidable.not_not.mp c2)] at hF
        refine r_aload_n f_TE_step_41 l0 ?_
        refine t_getc hB hx0 f_TE_step_42 rfl ?_
        cases hq3 : F_Ru_doInstruction ((cref SHc (x0) 6)) σ with
        | none => simp only [hq3] at hF; cases hF
        | some q3 =>
          simp only [hq3] at hF
          refine t_V0v hB (cc_7_6 hx0) rfl rfl f_TE_step_45 (by decide) (Nat.le_of_ble_eq_true rfl) (Nat.le_of_ble_eq_true rfl) (w_Ru_doInstruction hB (by omega) ((cref SHc (x0) 6)) (cc_7_6 hx0) hq3 ⟨rfl, ?_⟩)
          refine r_iinc f_TE_step_48 l2 (w := x2 + 1) rfl ?_
          refine r_goto f_TE_step_51 ?_
          exact ih _ (q3) (x0) (x1) ((x2 + 1)) hx0 (lk_put_ne l0 (by decide) (Or.inl rfl)) (lk_put_ne l1 (by decide) (Or.inl rfl)) lk_put hF
def F_TE_step_21   (σ : SG) : Option (Int32 × SG) :=
  some (((-1) : Int32), σ)
set_option maxHeartbeats 4000000 in
theorem w_TE_step_21 {b d : Nat} {sc : SC} {pre tl : List PE} {B : Nat} {Q : Option Value → List PE → Prop} {res : Int32 × SG} (hB : B = b + pre.length) (hd : 6 ≤ d)   (hQ : Q (some (.int res.1)) (HH pre tl SHc B res.2)) (lv : LV) (σ : SG)   (hF : F_TE_step_21   σ = some res) : Rn b sc d 168 21 lv [] (HH pre tl SHc B σ) Q := by
  obtain ⟨e0, rfl⟩ : ∃ e, d = e + 1 := ⟨d - 1, by omega⟩
  unfold F_TE_step_21 at hF
  refine r_iconst f_TE_step_21 (v := (-1)) (by decide) ?_
  cases hF
  exact r_ireturn f_TE_step_22 hQ
def F_TE_step (a0 : Nat) (a1 : Int32) (σ : SG) : Option (Int32 × SG) :=
  if (σ.1 ((cref SHc (a0) 6)) 9) = 0 then
  F_TE_step_21 σ
  else if a1 < 0 then
  F_TE_step_21 σ
  else if a1 ≤ (500 : Int32) then
  F_TE_step_25  5000 (a0) (a1) ((0 : Int32)) σ
  else F_TE_step_21 σ
set_option maxHeartbeats 4000000 in
theorem w_TE_step {b d : Nat} {pre tl : List PE} {B : Nat} {Q : Option Value → List PE → Prop} {res : Int32 × SG} (hB : B = b + pre.length) (hd : 6 ≤ d)  {σ : SG} (a0 : Nat) (a1 : Int32) (ha0 : isC SHc (a0) 7 = true) (hF : F_TE_step a0 a1 σ = some res) (hQ : Q (some (.int res.1)) (HH pre tl SHc B res.2)) : Cl b d 168 [.ref (B + (a0)), .int (a1)] (HH pre tl SHc B σ) Q := by
  obtain ⟨e0, rfl⟩ : ∃ e, d = e + 1 := ⟨d - 1, by omega⟩
  unfold Cl
  unfold F_TE_step at hF
  refine r_aload_n f_TE_step_0 rfl ?_
  refine t_getc hB ha0 f_TE_step_1 rfl ?_
  refine t_geti hB (cc_7_6 ha0) f_TE_step_4 rfl ?_
  refine r_if_eq f_TE_step_7 (fun c4 => ?_) (fun c4 => ?_)
  · rw [if_pos c4] at hF
    exact w_TE_step_21 hB hd  hQ _ (σ) hF
  · rw [if_neg c4] at hF
    refine r_iload_n f_TE_step_10 rfl ?_
    refine r_if_lt f_TE_step_11 (fun c5 => ?_) (fun c5 => ?_)
    · rw [if_pos c5] at hF
      exact w_TE_step_21 hB hd  hQ _ (σ) hF
    · rw [if_neg c5] at hF
      refine r_iload_n f_TE_step_14 rfl ?_
      refine r_sipush f_TE_step_15 (v := 500) (by decide) ?_
      refine r_icmp_le f_TE_step_18 (fun c6 => ?_) (fun c6 => ?_)
      · rw [if_pos c6] at hF
        refine r_iconst f_TE_step_23 (v := 0) (by decide) ?_
        refine r_istore_n f_TE_step_24 ?_
        exact w_TE_step_25 hB hd  hQ 5000 _ (σ) (a0) (a1) ((0 : Int32)) ha0 (lk_put_ne rfl (by decide) (Or.inl rfl)) (lk_put_ne rfl (by decide) (Or.inl rfl)) lk_put hF
      · rw [if_neg c6] at hF
        exact w_TE_step_21 hB hd  hQ _ (σ) hF
theorem f_TE_state_0 : fetch 169 0 = some (.aload_n 0, 1, 0, 0, 0) := rfl
theorem f_TE_state_1 : fetch 169 1 = some (.getfield 46, 3, 7, 6, 133) := rfl
theorem f_TE_state_4 : fetch 169 4 = some (.getfield 101, 3, 5, 9, 136) := rfl
theorem f_TE_state_7 : fetch 169 7 = some (.ireturn, 1, 0, 0, 0) := rfl
def F_TE_state (a0 : Nat) (σ : SG) : Option (Int32 × SG) :=
  some ((σ.1 ((cref SHc (a0) 6)) 9), σ)
set_option maxHeartbeats 4000000 in
theorem w_TE_state {b d : Nat} {pre tl : List PE} {B : Nat} {Q : Option Value → List PE → Prop} {res : Int32 × SG} (hB : B = b + pre.length)  {σ : SG} (a0 : Nat) (ha0 : isC SHc (a0) 7 = true) (hF : F_TE_state a0 σ = some res) (hQ : Q (some (.int res.1)) (HH pre tl SHc B res.2)) : Cl b d 169 [.ref (B + (a0))] (HH pre tl SHc B σ) Q := by
  unfold Cl
  unfold F_TE_state at hF
  refine r_aload_n f_TE_state_0 rfl ?_
  refine t_getc hB ha0 f_TE_state_1 rfl ?_
  refine t_geti hB (cc_7_6 ha0) f_TE_state_4 rfl ?_
  cases hF
  exact r_ireturn f_TE_state_7 hQ
theorem f_TE_result_0 : fetch 170 0 = some (.aload_n 0, 1, 0, 0, 0) := rfl
theorem f_TE_result_1 : fetch 170 1 = some (.getfield 46, 3, 7, 6, 133) := rfl
theorem f_TE_result_4 : fetch 170 4 = some (.getfield 107, 3, 5, 10, 137) := rfl
theorem f_TE_result_7 : fetch 170 7 = some (.ireturn, 1, 0, 0, 0) := rfl
def F_TE_result (a0 : Nat) (σ : SG) : Option (Int32 × SG) :=
  some ((σ.1 ((cref SHc (a0) 6)) 10), σ)
set_option maxHeartbeats 4000000 in
theorem w_TE_result {b d : Nat} {pre tl : List PE} {B : Nat} {Q : Option Value → List PE → Prop} {res : Int32 × SG} (hB : B = b + pre.length)  {σ : SG} (a0 : Nat) (ha0 : isC SHc (a0) 7 = true) (hF : F_TE_result a0 σ = some res) (hQ : Q (some (.int res.1)) (HH pre tl SHc B res.2)) : Cl b d 170 [.ref (B + (a0))] (HH pre tl SHc B σ) Q := by
  unfold Cl
  unfold F_TE_result at hF
  refine r_aload_n f_TE_result_0 rfl ?_
  refine t_getc hB ha0 f_TE_result_1 rfl ?_
  refine t_geti hB (cc_7_6 ha0) f_TE_result_4 rfl ?_
  cases hF
  exact r_ireturn f_TE_result_7 hQ
theorem f_TE_look_0 : fetch 171 0 = some (.iload_n 1, 1, 0, 0, 0) := rfl
theorem f_TE_look_1 : fetch 171 1 = some (.iconst 4, 1, 0, 0, 0) := rfl
theorem f_TE_look_2 : fetch 171 2 = some (.if_icmp .ne 25, 3, 27, 0, 0) := rfl
theorem f_TE_look_5 : fetch 171 5 = some (.aload_n 0, 1, 0, 0, 0) := rfl
theorem f_TE_look_6 : fetch 171 6 = some (.getfield 46, 3, 7, 6, 133) := rfl
theorem f_TE_look_9 : fetch 171 9 = some (.getfield 101, 3, 5, 9, 136) := rfl
theorem f_TE_look_12 : fetch 171 12 = some (.ifCond .ne 7, 3, 19, 0, 0) := rfl
theorem f_TE_look_15 : fetch 171 15 = some (.iconst (-1), 1, 0, 0, 0) := rfl
theorem f_TE_look_16 : fetch 171 16 = some (.goto 10, 3, 26, 0, 0) := rfl
theorem f_TE_look_19 : fetch 171 19 = some (.aload_n 0, 1, 0, 0, 0) := rfl
theorem f_TE_look_20 : fetch 171 20 = some (.getfield 46, 3, 7, 6, 133) := rfl
theorem f_TE_look_23 : fetch 171 23 = some (.getfield 110, 3, 5, 12, 138) := rfl
theorem f_TE_look_26 : fetch 171 26 = some (.ireturn, 1, 0, 0, 0) := rfl
theorem f_TE_look_27 : fetch 171 27 = some (.aload_n 0, 1, 0, 0, 0) := rfl
theorem f_TE_look_28 : fetch 171 28 = some (.getfield 46, 3, 7, 6, 133) := rfl
theorem f_TE_look_31 : fetch 171 31 = some (.getfield 101, 3, 5, 9, 136) := rfl
theorem f_TE_look_34 : fetch 171 34 = some (.iconst 1, 1, 0, 0, 0) := rfl
theorem f_TE_look_35 : fetch 171 35 = some (.if_icmp .eq 5, 3, 40, 0, 0) := rfl
theorem f_TE_look_38 : fetch 171 38 = some (.iconst (-1), 1, 0, 0, 0) := rfl
theorem f_TE_look_39 : fetch 171 39 = some (.ireturn, 1, 0, 0, 0) := rfl
theorem f_TE_look_40 : fetch 171 40 = some (.aload_n 0, 1, 0, 0, 0) := rfl
theorem f_TE_look_41 : fetch 171 41 = some (.getfield 46, 3, 7, 6, 133) := rfl
theorem f_TE_look_44 : fetch 171 44 = some (.invokevirtual 113, 3, 122, 0, 179) := rfl
theorem f_TE_look_47 : fetch 171 47 = some (.astore_n 2, 1, 0, 0, 0) := rfl
theorem f_TE_look_48 : fetch 171 48 = some (.iload_n 1, 1, 0, 0, 0) := rfl
theorem f_TE_look_49 : fetch 171 49 = some (.tableswitch 54 0 3 #[31, 36, 41, 49], 31, 103, 0, 0) := rfl
theorem f_TE_look_80 : fetch 171 80 = some (.aload_n 2, 1, 0, 0, 0) := rfl
theorem f_TE_look_81 : fetch 171 81 = some (.getfield 117, 3, 0, 2, 139) := rfl
theorem f_TE_look_84 : fetch 171 84 = some (.ireturn, 1, 0, 0, 0) := rfl
theorem f_TE_look_85 : fetch 171 85 = some (.aload_n 2, 1, 0, 0, 0) := rfl
theorem f_TE_look_86 : fetch 171 86 = some (.getfield 122, 3, 0, 3, 140) := rfl
theorem f_TE_look_89 : fetch 171 89 = some (.ireturn, 1, 0, 0, 0) := rfl
theorem f_TE_look_90 : fetch 171 90 = some (.aload_n 0, 1, 0, 0, 0) := rfl
theorem f_TE_look_91 : fetch 171 91 = some (.getfield 46, 3, 7, 6, 133) := rfl
theorem f_TE_look_94 : fetch 171 94 = some (.getfield 125, 3, 5, 11, 141) := rfl
theorem f_TE_look_97 : fetch 171 97 = some (.ireturn, 1, 0, 0, 0) := rfl
theorem f_TE_look_98 : fetch 171 98 = some (.aload_n 2, 1, 0, 0, 0) := rfl
theorem f_TE_look_99 : fetch 171 99 = some (.getfield 128, 3, 0, 4, 142) := rfl
theorem f_TE_look_102 : fetch 171 102 = some (.ireturn, 1, 0, 0, 0) := rfl
theorem f_TE_look_103 : fetch 171 103 = some (.iconst (-1), 1, 0, 0, 0) := rfl
theorem f_TE_look_104 : fetch 171 104 = some (.ireturn, 1, 0, 0, 0) := rfl
def F_TE_look_26  (y0 : Int32) (σ : SG) : Option (Int32 × SG) :=
  some (y0, σ)
set_option maxHeartbeats 4000000 in
theorem w_TE_look_26 {b d : Nat} {sc : SC} {pre tl : List PE} {B : Nat} {Q : Option Value → List PE → Prop} {res : Int32 × SG} (hB : B = b + pre.length) (hd : 1 ≤ d)   (hQ : Q (some (.int res.1)) (HH pre tl SHc B res.2)) (lv : LV) (σ : SG) (y0 : Int32)  (hF : F_TE_look_26  y0 σ = some res) : Rn b sc d 171 26 lv [.int (y0)] (HH pre tl SHc B σ) Q := by
  obtain ⟨e0, rfl⟩ : ∃ e, d = e + 1 := ⟨d - 1, by omega⟩
  unfold F_TE_look_26 at hF
  cases hF
  exact r_ireturn f_TE_look_26 hQ
def F_TE_look (a0 : Nat) (a1 : Int32) (σ : SG) : Option (Int32 × SG) :=
  if a1 = (4 : Int32) then
  if (σ.1 ((cref SHc (a0) 6)) 9) = 0 then
  F_TE_look_26 (((-1) : Int32)) σ
  else F_TE_look_26 ((σ.1 ((cref SHc (a0) 6)) 12)) σ
  else if (σ.1 ((cref SHc (a0) 6)) 9) = (1 : Int32) then
  match F_Ru_latest ((cref SHc (a0) 6)) σ with
  | none => none
  | some q3 =>
  if a1 = 0 then
  match q3.1 with
  | none => none
  | some k5 => if isC SHc k5 0 = true then
  some ((q3.2.1 (k5) 2), q3.2)
  else none
  else if a1 = 1 then
  match q3.1 with
  | none => none
  | some k8 => if isC SHc k8 0 = true then
  some ((q3.2.1 (k8) 3), q3.2)
  else none
  else if a1 = 2 then
  some ((q3.2.1 ((cref SHc (a0) 6)) 11), q3.2)
  else if a1 = 3 then
  match q3.1 with
  | none => none
  | some k12 => if isC SHc k12 0 = true then
  some ((q3.2.1 (k12) 4), q3.2)
  else none
  else some (((-1) : Int32), q3.2)
  else some (((-1) : Int32), σ)
set_option maxHeartbeats 4000000 in
theorem w_TE_look {b d : Nat} {pre tl : List PE} {B : Nat} {Q : Option Value → List PE → Prop} {res : Int32 × SG} (hB : B = b + pre.length) (hd : 1 ≤ d)  {σ : SG} (a0 : Nat) (a1 : Int32) (ha0 : isC SHc (a0) 7 = true) (hF : F_TE_look a0 a1 σ = some res) (hQ : Q (some (.int res.1)) (HH pre tl SHc B res.2)) : Cl b d 171 [.ref (B + (a0)), .int (a1)] (HH pre tl SHc B σ) Q := by
  obtain ⟨e0, rfl⟩ : ∃ e, d = e + 1 := ⟨d - 1, by omega⟩
  unfold Cl
  unfold F_TE_look at hF
  refine r_iload_n f_TE_look_0 rfl ?_
  refine r_iconst f_TE_look_1 (v := 4) (by decide) ?_
  refine r_icmp_ne f_TE_look_2 (fun c1 => ?_) (fun c1 => ?_)
  · rw [if_neg c1] at hF
    refine r_aload_n f_TE_look_27 rfl ?_
    refine t_getc hB ha0 f_TE_look_28 rfl ?_
    refine t_geti hB (cc_7_6 ha0) f_TE_look_31 rfl ?_
    refine r_iconst f_TE_look_34 (v := 1) (by decide) ?_
    refine r_icmp_eq f_TE_look_35 (fun c2 => ?_) (fun c2 => ?_)
    · rw [if_pos c2] at hF
      refine r_aload_n f_TE_look_40 rfl ?_
      refine t_getc hB ha0 f_TE_look_41 rfl ?_
      cases hq3 : F_Ru_latest ((cref SHc (a0) 6)) σ with
      | none => simp only [hq3] at hF; cases hF
      | some q3 =>
        simp only [hq3] at hF
        refine t_V0o hB (cc_7_6 ha0) rfl rfl f_TE_look_44 (by decide) (Nat.le_of_ble_eq_true rfl) (Nat.le_of_ble_eq_true rfl) (w_Ru_latest hB  ((cref SHc (a0) 6)) (cc_7_6 ha0) hq3 ⟨_, rfl, ?_⟩)
        refine r_astore_n_O f_TE_look_47 ?_
        refine r_iload_n f_TE_look_48 (lk_put_ne rfl (by decide) (Or.inl rfl)) ?_
        by_cases c4 : a1 = 0
        · rw [if_pos c4] at hF
          refine r_tswI (t := 80) (off := 31) 0 f_TE_look_49 (by rw [c4]; decide) (by rw [c4]; decide) (by rfl) (by decide) ?_
          refine r_aload_n_O f_TE_look_80 lk_put ?_
          cases c6 : (q3.1 : Option Nat) with
          | none => simp only [c6] at hF; cases hF
          | some k5 =>
            simp only [c6] at *
            by_cases c6k : isC SHc k5 0 = true
            · rw [if_pos c6k] at hF
              try simp only [ov]
              refine t_geti hB c6k f_TE_look_81 rfl ?_
              cases hF
              exact r_ireturn f_TE_look_84 hQ
            · rw [if_neg c6k] at hF; cases hF
        rw [if_neg c4] at hF
        by_cases c7 : a1 = 1
        · rw [if_pos c7] at hF
          refine r_tswI (t := 85) (off := 36) 1 f_TE_look_49 (by rw [c7]; decide) (by rw [c7]; decide) (by rfl) (by decide) ?_
          refine r_aload_n_O f_TE_look_85 lk_put ?_
          cases c9 : (q3.1 : Option Nat) with
          | none => simp only [c9] at hF; cases hF
          | some k8 =>
            simp only [c9] at *
            by_cases c9k : isC SHc k8 0 = true
            · rw [if_pos c9k] at hF
              try simp only [ov]
              refine t_geti hB c9k f_TE_look_86 rfl ?_
              cases hF
              exact r_ireturn f_TE_look_89 hQ
            · rw [if_neg c9k] at hF; cases hF
        rw [if_neg c7] at hF
        by_cases c10 : a1 = 2
        · rw [if_pos c10] at hF
          refine r_tswI (t := 90) (off := 41) 2 f_TE_look_49 (by rw [c10]; decide) (by rw [c10]; decide) (by rfl) (by decide) ?_
          refine r_aload_n f_TE_look_90 (lk_put_ne rfl (by decide) (Or.inl rfl)) ?_
          refine t_getc hB ha0 f_TE_look_91 rfl ?_
          refine t_geti hB (cc_7_6 ha0) f_TE_look_94 rfl ?_
          cases hF
          exact r_ireturn f_TE_look_97 hQ
        rw [if_neg c10] at hF
        by_cases c11 : a1 = 3
        · rw [if_pos c11] at hF
          refine r_tswI (t := 98) (off := 49) 3 f_TE_look_49 (by rw [c11]; decide) (by rw [c11]; decide) (by rfl) (by decide) ?_
          refine r_aload_n_O f_TE_look_98 lk_put ?_
          cases c13 : (q3.1 : Option Nat) with
          | none => simp only [c13] at hF; cases hF
          | some k12 =>
            simp only [c13] at *
            by_cases c13k : isC SHc k12 0 = true
            · rw [if_pos c13k] at hF
              try simp only [ov]
              refine t_geti hB c13k f_TE_look_99 rfl ?_
              cases hF
              exact r_ireturn f_TE_look_102 hQ
            · rw [if_neg c13k] at hF; cases hF
        rw [if_neg c11] at hF
        refine r_tswO f_TE_look_49 (by have zc4 := lv_neT c4 (by decide : (0 : Int32).toInt = 0); have zc7 := lv_neT c7 (by decide : (1 : Int32).toInt = 1); have zc10 := lv_neT c10 (by decide : (2 : Int32).toInt = 2); have zc11 := lv_neT c11 (by decide : (3 : Int32).toInt = 3); omega) ?_
        refine r_iconst f_TE_look_103 (v := (-1)) (by decide) ?_
        cases hF
        exact r_ireturn f_TE_look_104 hQ
    · rw [if_neg c2] at hF
      refine r_iconst f_TE_look_38 (v := (-1)) (by decide) ?_
      cases hF
      exact r_ireturn f_TE_look_39 hQ
  · rw [if_pos (Decidable.not_not.mp c1)] at hF
    refine r_aload_n f_TE_look_5 rfl ?_
    refine t_getc hB ha0 f_TE_look_6 rfl ?_
    refine t_geti hB (cc_7_6 ha0) f_TE_look_9 rfl ?_
    refine r_if_ne f_TE_look_12 (fun c14 => ?_) (fun c14 => ?_)
    · rw [if_neg c14] at hF
      refine r_aload_n f_TE_look_19 rfl ?_
      refine t_getc hB ha0 f_TE_look_20 rfl ?_
      refine t_geti hB (cc_7_6 ha0) f_TE_look_23 rfl ?_
      exact w_TE_look_26 hB hd  hQ _ (σ) ((σ.1 ((cref SHc (a0) 6)) 12)) hF
    · rw [if_pos (Decidable.not_not.mp c14)] at hF
      refine r_iconst f_TE_look_15 (v := (-1)) (by decide) ?_
      refine r_goto f_TE_look_16 ?_
      exact w_TE_look_26 hB hd  hQ _ (σ) (((-1) : Int32)) hF
theorem f_TE_peek_0 : fetch 172 0 = some (.aload_n 0, 1, 0, 0, 0) := rfl
theorem f_TE_peek_1 : fetch 172 1 = some (.getfield 46, 3, 7, 6, 133) := rfl
theorem f_TE_peek_4 : fetch 172 4 = some (.getfield 101, 3, 5, 9, 136) := rfl
theorem f_TE_peek_7 : fetch 172 7 = some (.iconst 1, 1, 0, 0, 0) := rfl
theorem f_TE_peek_8 : fetch 172 8 = some (.if_icmp .eq 5, 3, 13, 0, 0) := rfl
theorem f_TE_peek_11 : fetch 172 11 = some (.iconst 0, 1, 0, 0, 0) := rfl
theorem f_TE_peek_12 : fetch 172 12 = some (.ireturn, 1, 0, 0, 0) := rfl
theorem f_TE_peek_13 : fetch 172 13 = some (.aload_n 0, 1, 0, 0, 0) := rfl
theorem f_TE_peek_14 : fetch 172 14 = some (.getfield 46, 3, 7, 6, 133) := rfl
theorem f_TE_peek_17 : fetch 172 17 = some (.invokevirtual 113, 3, 122, 0, 179) := rfl
theorem f_TE_peek_20 : fetch 172 20 = some (.astore_n 2, 1, 0, 0, 0) := rfl
theorem f_TE_peek_21 : fetch 172 21 = some (.aload_n 2, 1, 0, 0, 0) := rfl
theorem f_TE_peek_22 : fetch 172 22 = some (.getfield 131, 3, 0, 1, 143) := rfl
theorem f_TE_peek_25 : fetch 172 25 = some (.aload_n 2, 1, 0, 0, 0) := rfl
theorem f_TE_peek_26 : fetch 172 26 = some (.getfield 122, 3, 0, 3, 140) := rfl
theorem f_TE_peek_29 : fetch 172 29 = some (.invokevirtual 74, 3, 20, 1, 172) := rfl
theorem f_TE_peek_32 : fetch 172 32 = some (.istore_n 3, 1, 0, 0, 0) := rfl
theorem f_TE_peek_33 : fetch 172 33 = some (.iload_n 3, 1, 0, 0, 0) := rfl
theorem f_TE_peek_34 : fetch 172 34 = some (.iload_n 1, 1, 0, 0, 0) := rfl
theorem f_TE_peek_35 : fetch 172 35 = some (.invokestatic 85, 3, 158, 2, 174) := rfl
theorem f_TE_peek_38 : fetch 172 38 = some (.iconst 1, 1, 0, 0, 0) := rfl
theorem f_TE_peek_39 : fetch 172 39 = some (.if_icmp .ne 12, 3, 51, 0, 0) := rfl
theorem f_TE_peek_42 : fetch 172 42 = some (.aload_n 2, 1, 0, 0, 0) := rfl
theorem f_TE_peek_43 : fetch 172 43 = some (.iload_n 1, 1, 0, 0, 0) := rfl
theorem f_TE_peek_44 : fetch 172 44 = some (.invokevirtual 137, 3, 8, 1, 180) := rfl
theorem f_TE_peek_47 : fetch 172 47 = some (.l2i, 1, 0, 0, 0) := rfl
theorem f_TE_peek_48 : fetch 172 48 = some (.goto 4, 3, 52, 0, 0) := rfl
theorem f_TE_peek_51 : fetch 172 51 = some (.iconst 0, 1, 0, 0, 0) := rfl
theorem f_TE_peek_52 : fetch 172 52 = some (.ireturn, 1, 0, 0, 0) := rfl
def F_TE_peek_52  (y0 : Int32) (σ : SG) : Option (Int32 × SG) :=
  some (y0, σ)
set_option maxHeartbeats 4000000 in
theorem w_TE_peek_52 {b d : Nat} {sc : SC} {pre tl : List PE} {B : Nat} {Q : Option Value → List PE → Prop} {res : Int32 × SG} (hB : B = b + pre.length) (hd : 1 ≤ d)   (hQ : Q (some (.int res.1)) (HH pre tl SHc B res.2)) (lv : LV) (σ : SG) (y0 : Int32)  (hF : F_TE_peek_52  y0 σ = some res) : Rn b sc d 172 52 lv [.int (y0)] (HH pre tl SHc B σ) Q := by
  obtain ⟨e0, rfl⟩ : ∃ e, d = e + 1 := ⟨d - 1, by omega⟩
  unfold F_TE_peek_52 at hF
  cases hF
  exact r_ireturn f_TE_peek_52 hQ
def F_TE_peek (a0 : Nat) (a1 : Int32) (σ : SG) : Option (Int32 × SG) :=
  if (σ.1 ((cref SHc (a0) 6)) 9) = (1 : Int32) then
  match F_Ru_latest ((cref SHc (a0) 6)) σ with
  | none => none
  | some q2 =>
  match q2.1 with
  | none => none
  | some k3 => if isC SHc k3 0 = true then
  if isC SHc ((q2.2.2.2.1 (k3) 1)) 2 = true then
  match F_Me_rowAt ((q2.2.2.2.1 (k3) 1)) ((q2.2.1 (k3) 3)) q2.2 with
  | none => none
  | some q6 =>
  match F_Rw_typeAt (q6.1) (a1) q6.2 with
  | none => none
  | some q7 =>
  if q7.1 = (1 : Int32) then
  match F_Fr_valueAt (k3) (a1) q7.2 with
  | none => none
  | some q9 =>
  F_TE_peek_52 (((q9.1 : Int64).toInt32)) q9.2
  else F_TE_peek_52 ((0 : Int32)) q7.2
  else none
  else none
  else some ((0 : Int32), σ)
set_option maxHeartbeats 4000000 in
theorem w_TE_peek {b d : Nat} {pre tl : List PE} {B : Nat} {Q : Option Value → List PE → Prop} {res : Int32 × SG} (hB : B = b + pre.length) (hd : 1 ≤ d)  {σ : SG} (a0 : Nat) (a1 : Int32) (ha0 : isC SHc (a0) 7 = true) (hF : F_TE_peek a0 a1 σ = some res) (hQ : Q (some (.int res.1)) (HH pre tl SHc B res.2)) : Cl b d 172 [.ref (B + (a0)), .int (a1)] (HH pre tl SHc B σ) Q := by
  obtain ⟨e0, rfl⟩ : ∃ e, d = e + 1 := ⟨d - 1, by omega⟩
  unfold Cl
  unfold F_TE_peek at hF
  refine r_aload_n f_TE_peek_0 rfl ?_
  refine t_getc hB ha0 f_TE_peek_1 rfl ?_
  refine t_geti hB (cc_7_6 ha0) f_TE_peek_4 rfl ?_
  refine r_iconst f_TE_peek_7 (v := 1) (by decide) ?_
  refine r_icmp_eq f_TE_peek_8 (fun c1 => ?_) (fun c1 => ?_)
  · rw [if_pos c1] at hF
    refine r_aload_n f_TE_peek_13 rfl ?_
    refine t_getc hB ha0 f_TE_peek_14 rfl ?_
    cases hq2 : F_Ru_latest ((cref SHc (a0) 6)) σ with
    | none => simp only [hq2] at hF; cases hF
    | some q2 =>
      simp only [hq2] at hF
      refine t_V0o hB (cc_7_6 ha0) rfl rfl f_TE_peek_17 (by decide) (Nat.le_of_ble_eq_true rfl) (Nat.le_of_ble_eq_true rfl) (w_Ru_latest hB  ((cref SHc (a0) 6)) (cc_7_6 ha0) hq2 ⟨_, rfl, ?_⟩)
      refine r_astore_n_O f_TE_peek_20 ?_
      refine r_aload_n_O f_TE_peek_21 lk_put ?_
      cases c4 : (q2.1 : Option Nat) with
      | none => simp only [c4] at hF; cases hF
      | some k3 =>
        simp only [c4] at *
        by_cases c4k : isC SHc k3 0 = true
        · rw [if_pos c4k] at hF
          try simp only [ov]
          by_cases c5 : isC SHc ((q2.2.2.2.1 (k3) 1)) 2 = true
          case neg => rw [if_neg c5] at hF; cases hF
          rw [if_pos c5] at hF
          refine t_getm hB c4k f_TE_peek_22 rfl ?_
          refine r_aload_n f_TE_peek_25 lk_put ?_
          refine t_geti hB c4k f_TE_peek_26 rfl ?_
          cases hq6 : F_Me_rowAt ((q2.2.2.2.1 (k3) 1)) ((q2.2.1 (k3) 3)) q2.2 with
          | none => simp only [hq6] at hF; cases hF
          | some q6 =>
            simp only [hq6] at hF
            refine t_V1i hB c5 rfl rfl f_TE_peek_29 (by decide) (Nat.le_of_ble_eq_true rfl) (Nat.le_of_ble_eq_true rfl) (w_Me_rowAt hB  ((q2.2.2.2.1 (k3) 1)) ((q2.2.1 (k3) 3)) c5 hq6 ⟨_, rfl, ?_⟩)
            refine r_istore_n f_TE_peek_32 ?_
            refine r_iload_n f_TE_peek_33 lk_put ?_
            refine r_iload_n f_TE_peek_34 (lk_put_ne (lk_put_ne rfl (by decide) (Or.inl rfl)) (by decide) (Or.inl rfl)) ?_
            cases hq7 : F_Rw_typeAt (q6.1) (a1) q6.2 with
            | none => simp only [hq7] at hF; cases hF
            | some q7 =>
              simp only [hq7] at hF
              refine t_S2i f_TE_peek_35 (by decide) (Nat.le_of_ble_eq_true rfl) (Nat.le_of_ble_eq_true rfl) (w_Rw_typeAt hB  (q6.1) (a1)  hq7 ⟨_, rfl, ?_⟩)
              refine r_iconst f_TE_peek_38 (v := 1) (by decide) ?_
              refine r_icmp_ne f_TE_peek_39 (fun c8 => ?_) (fun c8 => ?_)
              · rw [if_neg c8] at hF
                refine r_iconst f_TE_peek_51 (v := 0) (by decide) ?_
                exact w_TE_peek_52 hB hd  hQ _ (q7.2) ((0 : Int32)) hF
              · rw [if_pos (Decidable.not_not.mp c8)] at hF
                refine r_aload_n f_TE_peek_42 (lk_put_ne lk_put (by decide) (Or.inl rfl)) ?_
                refine r_iload_n f_TE_peek_43 (lk_put_ne (lk_put_ne rfl (by decide) (Or.inl rfl)) (by decide) (Or.inl rfl)) ?_
                cases hq9 : F_Fr_valueAt (k3) (a1) q7.2 with
                | none => simp only [hq9] at hF; cases hF
                | some q9 =>
                  simp only [hq9] at hF
                  refine t_V1l hB c4k rfl rfl f_TE_peek_44 (by decide) (Nat.le_of_ble_eq_true rfl) (Nat.le_of_ble_eq_true rfl) (w_Fr_valueAt hB  (k3) (a1) c4k hq9 ⟨_, rfl, ?_⟩)
                  refine r_l2i f_TE_peek_47 ?_
                  refine r_goto f_TE_peek_48 ?_
                  exact w_TE_peek_52 hB hd  hQ _ (q9.2) (((q9.1 : Int64).toInt32)) hF
        · rw [if_neg c4k] at hF; cases hF
  · rw [if_neg c1] at hF
    refine r_iconst f_TE_peek_11 (v := 0) (by decide) ?_
    cases hF
    exact r_ireturn f_TE_peek_12 hQ
theorem f_TE_entered_0 : fetch 173 0 = some (.aload_n 0, 1, 0, 0, 0) := rfl
theorem f_TE_entered_1 : fetch 173 1 = some (.getfield 46, 3, 7, 6, 133) := rfl
theorem f_TE_entered_4 : fetch 173 4 = some (.getfield 101, 3, 5, 9, 136) := rfl
theorem f_TE_entered_7 : fetch 173 7 = some (.ifCond .eq 14, 3, 21, 0, 0) := rfl
theorem f_TE_entered_10 : fetch 173 10 = some (.aload_n 0, 1, 0, 0, 0) := rfl
theorem f_TE_entered_11 : fetch 173 11 = some (.getfield 20, 3, 7, 2, 129) := rfl
theorem f_TE_entered_14 : fetch 173 14 = some (.iload_n 1, 1, 0, 0, 0) := rfl
theorem f_TE_entered_15 : fetch 173 15 = some (.invokevirtual 141, 3, 15, 1, 181) := rfl
theorem f_TE_entered_18 : fetch 173 18 = some (.ifnonnull 5, 3, 23, 0, 0) := rfl
theorem f_TE_entered_21 : fetch 173 21 = some (.iconst 0, 1, 0, 0, 0) := rfl
theorem f_TE_entered_22 : fetch 173 22 = some (.ireturn, 1, 0, 0, 0) := rfl
theorem f_TE_entered_23 : fetch 173 23 = some (.aload_n 0, 1, 0, 0, 0) := rfl
theorem f_TE_entered_24 : fetch 173 24 = some (.getfield 46, 3, 7, 6, 133) := rfl
theorem f_TE_entered_27 : fetch 173 27 = some (.iload_n 1, 1, 0, 0, 0) := rfl
theorem f_TE_entered_28 : fetch 173 28 = some (.iload_n 2, 1, 0, 0, 0) := rfl
theorem f_TE_entered_29 : fetch 173 29 = some (.invokevirtual 143, 3, 154, 2, 182) := rfl
theorem f_TE_entered_32 : fetch 173 32 = some (.ireturn, 1, 0, 0, 0) := rfl
def F_TE_entered_21   (σ : SG) : Option (Int32 × SG) :=
  some ((0 : Int32), σ)
set_option maxHeartbeats 4000000 in
theorem w_TE_entered_21 {b d : Nat} {sc : SC} {pre tl : List PE} {B : Nat} {Q : Option Value → List PE → Prop} {res : Int32 × SG} (hB : B = b + pre.length) (hd : 1 ≤ d)   (hQ : Q (some (.int res.1)) (HH pre tl SHc B res.2)) (lv : LV) (σ : SG)   (hF : F_TE_entered_21   σ = some res) : Rn b sc d 173 21 lv [] (HH pre tl SHc B σ) Q := by
  obtain ⟨e0, rfl⟩ : ∃ e, d = e + 1 := ⟨d - 1, by omega⟩
  unfold F_TE_entered_21 at hF
  refine r_iconst f_TE_entered_21 (v := 0) (by decide) ?_
  cases hF
  exact r_ireturn f_TE_entered_22 hQ
def F_TE_entered (a0 : Nat) (a1 : Int32) (a2 : Int32) (σ : SG) : Option (Int32 × SG) :=
  if (σ.1 ((cref SHc (a0) 6)) 9) = 0 then
  F_TE_entered_21 σ
  else if isC SHc ((σ.2.2.1 (a0) 2)) 1 = true then
  match F_Im_method ((σ.2.2.1 (a0) 2)) (a1) σ with
  | none => none
  | some q3 =>
  match q3.1 with
  | none => F_TE_entered_21 q3.2
  | some k4 => if isC SHc k4 2 = true then
  match F_Ru_entriesOf ((cref SHc (a0) 6)) (a1) (a2) q3.2 with
  | none => none
  | some q6 =>
  some (q6.1, q6.2)
  else none
  else none
set_option maxHeartbeats 4000000 in
theorem w_TE_entered {b d : Nat} {pre tl : List PE} {B : Nat} {Q : Option Value → List PE → Prop} {res : Int32 × SG} (hB : B = b + pre.length) (hd : 1 ≤ d)  {σ : SG} (a0 : Nat) (a1 : Int32) (a2 : Int32) (ha0 : isC SHc (a0) 7 = true) (hF : F_TE_entered a0 a1 a2 σ = some res) (hQ : Q (some (.int res.1)) (HH pre tl SHc B res.2)) : Cl b d 173 [.ref (B + (a0)), .int (a1), .int (a2)] (HH pre tl SHc B σ) Q := by
  obtain ⟨e0, rfl⟩ : ∃ e, d = e + 1 := ⟨d - 1, by omega⟩
  unfold Cl
  unfold F_TE_entered at hF
  refine r_aload_n f_TE_entered_0 rfl ?_
  refine t_getc hB ha0 f_TE_entered_1 rfl ?_
  refine t_geti hB (cc_7_6 ha0) f_TE_entered_4 rfl ?_
  refine r_if_eq f_TE_entered_7 (fun c1 => ?_) (fun c1 => ?_)
  · rw [if_pos c1] at hF
    exact w_TE_entered_21 hB hd  hQ _ (σ) hF
  · rw [if_neg c1] at hF
    refine r_aload_n f_TE_entered_10 rfl ?_
    by_cases c2 : isC SHc ((σ.2.2.1 (a0) 2)) 1 = true
    case neg => rw [if_neg c2] at hF; cases hF
    rw [if_pos c2] at hF
    refine t_getm hB ha0 f_TE_entered_11 rfl ?_
    refine r_iload_n f_TE_entered_14 rfl ?_
    cases hq3 : F_Im_method ((σ.2.2.1 (a0) 2)) (a1) σ with
    | none => simp only [hq3] at hF; cases hF
    | some q3 =>
      simp only [hq3] at hF
      refine t_V1o hB c2 rfl rfl f_TE_entered_15 (by decide) (Nat.le_of_ble_eq_true rfl) (Nat.le_of_ble_eq_true rfl) (w_Im_method hB  ((σ.2.2.1 (a0) 2)) (a1) c2 hq3 ⟨_, rfl, ?_⟩)
      cases c5 : (q3.1 : Option Nat) with
      | none =>
        simp only [c5] at *
        refine r_ifnonnullF f_TE_entered_18 ?_
        exact w_TE_entered_21 hB hd  hQ _ (q3.2) hF
      | some k4 =>
        simp only [c5] at *
        by_cases c5k : isC SHc k4 2 = true
        · rw [if_pos c5k] at hF
          refine r_ifnonnullT f_TE_entered_18 ?_
          refine r_aload_n f_TE_entered_23 rfl ?_
          refine t_getc hB ha0 f_TE_entered_24 rfl ?_
          refine r_iload_n f_TE_entered_27 rfl ?_
          refine r_iload_n f_TE_entered_28 rfl ?_
          cases hq6 : F_Ru_entriesOf ((cref SHc (a0) 6)) (a1) (a2) q3.2 with
          | none => simp only [hq6] at hF; cases hF
          | some q6 =>
            simp only [hq6] at hF
            refine t_V2i hB (cc_7_6 ha0) rfl rfl f_TE_entered_29 (by decide) (Nat.le_of_ble_eq_true rfl) (Nat.le_of_ble_eq_true rfl) (w_Ru_entriesOf hB  ((cref SHc (a0) 6)) (a1) (a2) (cc_7_6 ha0) hq6 ⟨_, rfl, ?_⟩)
            cases hF
            exact r_ireturn f_TE_entered_32 hQ
        · rw [if_neg c5k] at hF; cases hF
