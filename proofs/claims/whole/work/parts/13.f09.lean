theorem f_Rd_readMethod_0 : fetch 111 0 = some (.aload_n 2, 1, 0, 0, 0) := rfl
theorem f_Rd_readMethod_1 : fetch 111 1 = some (.aload_n 0, 1, 0, 0, 0) := rfl
theorem f_Rd_readMethod_2 : fetch 111 2 = some (.iconst 0, 1, 0, 0, 0) := rfl
theorem f_Rd_readMethod_3 : fetch 111 3 = some (.invokevirtual 65, 3, 112, 1, 109) := rfl
theorem f_Rd_readMethod_6 : fetch 111 6 = some (.ifCond .eq 12, 3, 18, 0, 0) := rfl
theorem f_Rd_readMethod_9 : fetch 111 9 = some (.aload_n 0, 1, 0, 0, 0) := rfl
theorem f_Rd_readMethod_10 : fetch 111 10 = some (.iconst 0, 1, 0, 0, 0) := rfl
theorem f_Rd_readMethod_11 : fetch 111 11 = some (.iconst 0, 1, 0, 0, 0) := rfl
theorem f_Rd_readMethod_12 : fetch 111 12 = some (.invokevirtual 30, 3, 108, 2, 104) := rfl
theorem f_Rd_readMethod_15 : fetch 111 15 = some (.goto 8, 3, 23, 0, 0) := rfl
theorem f_Rd_readMethod_18 : fetch 111 18 = some (.aload_n 0, 1, 0, 0, 0) := rfl
theorem f_Rd_readMethod_19 : fetch 111 19 = some (.aload_n 1, 1, 0, 0, 0) := rfl
theorem f_Rd_readMethod_20 : fetch 111 20 = some (.invokevirtual 59, 3, 110, 1, 107) := rfl
theorem f_Rd_readMethod_23 : fetch 111 23 = some (.putfield 69, 3, 2, 0, 83) := rfl
theorem f_Rd_readMethod_26 : fetch 111 26 = some (.aload_n 2, 1, 0, 0, 0) := rfl
theorem f_Rd_readMethod_27 : fetch 111 27 = some (.aload_n 0, 1, 0, 0, 0) := rfl
theorem f_Rd_readMethod_28 : fetch 111 28 = some (.iconst 0, 1, 0, 0, 0) := rfl
theorem f_Rd_readMethod_29 : fetch 111 29 = some (.iconst 3, 1, 0, 0, 0) := rfl
theorem f_Rd_readMethod_30 : fetch 111 30 = some (.invokevirtual 30, 3, 108, 2, 104) := rfl
theorem f_Rd_readMethod_33 : fetch 111 33 = some (.putfield 74, 3, 2, 1, 84) := rfl
theorem f_Rd_readMethod_36 : fetch 111 36 = some (.iconst 0, 1, 0, 0, 0) := rfl
theorem f_Rd_readMethod_37 : fetch 111 37 = some (.istore_n 3, 1, 0, 0, 0) := rfl
theorem f_Rd_readMethod_38 : fetch 111 38 = some (.iload_n 3, 1, 0, 0, 0) := rfl
theorem f_Rd_readMethod_39 : fetch 111 39 = some (.aload_n 2, 1, 0, 0, 0) := rfl
theorem f_Rd_readMethod_40 : fetch 111 40 = some (.getfield 74, 3, 2, 1, 84) := rfl
theorem f_Rd_readMethod_43 : fetch 111 43 = some (.if_icmp .ge 37, 3, 80, 0, 0) := rfl
theorem f_Rd_readMethod_46 : fetch 111 46 = some (.aload_n 2, 1, 0, 0, 0) := rfl
theorem f_Rd_readMethod_47 : fetch 111 47 = some (.getfield 77, 3, 2, 5, 85) := rfl
theorem f_Rd_readMethod_50 : fetch 111 50 = some (.iload_n 3, 1, 0, 0, 0) := rfl
theorem f_Rd_readMethod_51 : fetch 111 51 = some (.aload_n 0, 1, 0, 0, 0) := rfl
theorem f_Rd_readMethod_52 : fetch 111 52 = some (.iconst 3, 1, 0, 0, 0) := rfl
theorem f_Rd_readMethod_53 : fetch 111 53 = some (.invokevirtual 65, 3, 112, 1, 109) := rfl
theorem f_Rd_readMethod_56 : fetch 111 56 = some (.ifCond .eq 12, 3, 68, 0, 0) := rfl
theorem f_Rd_readMethod_59 : fetch 111 59 = some (.aload_n 0, 1, 0, 0, 0) := rfl
theorem f_Rd_readMethod_60 : fetch 111 60 = some (.iconst 3, 1, 0, 0, 0) := rfl
theorem f_Rd_readMethod_61 : fetch 111 61 = some (.iconst 3, 1, 0, 0, 0) := rfl
theorem f_Rd_readMethod_62 : fetch 111 62 = some (.invokevirtual 30, 3, 108, 2, 104) := rfl
theorem f_Rd_readMethod_65 : fetch 111 65 = some (.goto 8, 3, 73, 0, 0) := rfl
theorem f_Rd_readMethod_68 : fetch 111 68 = some (.aload_n 0, 1, 0, 0, 0) := rfl
theorem f_Rd_readMethod_69 : fetch 111 69 = some (.aload_n 1, 1, 0, 0, 0) := rfl
theorem f_Rd_readMethod_70 : fetch 111 70 = some (.invokevirtual 59, 3, 110, 1, 107) := rfl
theorem f_Rd_readMethod_73 : fetch 111 73 = some (.iastore, 1, 0, 0, 0) := rfl
theorem f_Rd_readMethod_74 : fetch 111 74 = some (.iinc 3 1, 3, 0, 0, 0) := rfl
theorem f_Rd_readMethod_77 : fetch 111 77 = some (.goto (-39), 3, 38, 0, 0) := rfl
theorem f_Rd_readMethod_80 : fetch 111 80 = some (.aload_n 2, 1, 0, 0, 0) := rfl
theorem f_Rd_readMethod_81 : fetch 111 81 = some (.aload_n 0, 1, 0, 0, 0) := rfl
theorem f_Rd_readMethod_82 : fetch 111 82 = some (.iconst 0, 1, 0, 0, 0) := rfl
theorem f_Rd_readMethod_83 : fetch 111 83 = some (.iconst 4, 1, 0, 0, 0) := rfl
theorem f_Rd_readMethod_84 : fetch 111 84 = some (.invokevirtual 30, 3, 108, 2, 104) := rfl
theorem f_Rd_readMethod_87 : fetch 111 87 = some (.putfield 80, 3, 2, 2, 86) := rfl
theorem f_Rd_readMethod_90 : fetch 111 90 = some (.iconst 0, 1, 0, 0, 0) := rfl
theorem f_Rd_readMethod_91 : fetch 111 91 = some (.istore_n 3, 1, 0, 0, 0) := rfl
theorem f_Rd_readMethod_92 : fetch 111 92 = some (.iload_n 3, 1, 0, 0, 0) := rfl
theorem f_Rd_readMethod_93 : fetch 111 93 = some (.aload_n 2, 1, 0, 0, 0) := rfl
theorem f_Rd_readMethod_94 : fetch 111 94 = some (.getfield 80, 3, 2, 2, 86) := rfl
theorem f_Rd_readMethod_97 : fetch 111 97 = some (.if_icmp .ge 20, 3, 117, 0, 0) := rfl
theorem f_Rd_readMethod_100 : fetch 111 100 = some (.aload_n 2, 1, 0, 0, 0) := rfl
theorem f_Rd_readMethod_101 : fetch 111 101 = some (.getfield 83, 3, 2, 6, 87) := rfl
theorem f_Rd_readMethod_104 : fetch 111 104 = some (.iload_n 3, 1, 0, 0, 0) := rfl
theorem f_Rd_readMethod_105 : fetch 111 105 = some (.aload_n 0, 1, 0, 0, 0) := rfl
theorem f_Rd_readMethod_106 : fetch 111 106 = some (.aload_n 1, 1, 0, 0, 0) := rfl
theorem f_Rd_readMethod_107 : fetch 111 107 = some (.invokevirtual 59, 3, 110, 1, 107) := rfl
theorem f_Rd_readMethod_110 : fetch 111 110 = some (.iastore, 1, 0, 0, 0) := rfl
theorem f_Rd_readMethod_111 : fetch 111 111 = some (.iinc 3 1, 3, 0, 0, 0) := rfl
theorem f_Rd_readMethod_114 : fetch 111 114 = some (.goto (-22), 3, 92, 0, 0) := rfl
theorem f_Rd_readMethod_117 : fetch 111 117 = some (.aload_n 2, 1, 0, 0, 0) := rfl
theorem f_Rd_readMethod_118 : fetch 111 118 = some (.aload_n 0, 1, 0, 0, 0) := rfl
theorem f_Rd_readMethod_119 : fetch 111 119 = some (.iconst 0, 1, 0, 0, 0) := rfl
theorem f_Rd_readMethod_120 : fetch 111 120 = some (.iconst 3, 1, 0, 0, 0) := rfl
theorem f_Rd_readMethod_121 : fetch 111 121 = some (.invokevirtual 30, 3, 108, 2, 104) := rfl
theorem f_Rd_readMethod_124 : fetch 111 124 = some (.putfield 86, 3, 2, 3, 88) := rfl
theorem f_Rd_readMethod_127 : fetch 111 127 = some (.iconst 0, 1, 0, 0, 0) := rfl
theorem f_Rd_readMethod_128 : fetch 111 128 = some (.istore_n 3, 1, 0, 0, 0) := rfl
theorem f_Rd_readMethod_129 : fetch 111 129 = some (.iload_n 3, 1, 0, 0, 0) := rfl
theorem f_Rd_readMethod_130 : fetch 111 130 = some (.aload_n 2, 1, 0, 0, 0) := rfl
theorem f_Rd_readMethod_131 : fetch 111 131 = some (.getfield 86, 3, 2, 3, 88) := rfl
theorem f_Rd_readMethod_134 : fetch 111 134 = some (.if_icmp .ge 19, 3, 153, 0, 0) := rfl
theorem f_Rd_readMethod_137 : fetch 111 137 = some (.aload_n 0, 1, 0, 0, 0) := rfl
theorem f_Rd_readMethod_138 : fetch 111 138 = some (.aload_n 2, 1, 0, 0, 0) := rfl
theorem f_Rd_readMethod_139 : fetch 111 139 = some (.getfield 89, 3, 2, 7, 89) := rfl
theorem f_Rd_readMethod_142 : fetch 111 142 = some (.iload_n 3, 1, 0, 0, 0) := rfl
theorem f_Rd_readMethod_143 : fetch 111 143 = some (.aaload, 1, 0, 0, 0) := rfl
theorem f_Rd_readMethod_144 : fetch 111 144 = some (.invokevirtual 93, 3, 113, 1, 110) := rfl
theorem f_Rd_readMethod_147 : fetch 111 147 = some (.iinc 3 1, 3, 0, 0, 0) := rfl
theorem f_Rd_readMethod_150 : fetch 111 150 = some (.goto (-21), 3, 129, 0, 0) := rfl
theorem f_Rd_readMethod_153 : fetch 111 153 = some (.aload_n 2, 1, 0, 0, 0) := rfl
theorem f_Rd_readMethod_154 : fetch 111 154 = some (.aload_n 0, 1, 0, 0, 0) := rfl
theorem f_Rd_readMethod_155 : fetch 111 155 = some (.iconst 1, 1, 0, 0, 0) := rfl
theorem f_Rd_readMethod_156 : fetch 111 156 = some (.bipush 100, 2, 0, 0, 0) := rfl
theorem f_Rd_readMethod_158 : fetch 111 158 = some (.invokevirtual 30, 3, 108, 2, 104) := rfl
theorem f_Rd_readMethod_161 : fetch 111 161 = some (.putfield 97, 3, 2, 4, 90) := rfl
theorem f_Rd_readMethod_164 : fetch 111 164 = some (.iconst 0, 1, 0, 0, 0) := rfl
theorem f_Rd_readMethod_165 : fetch 111 165 = some (.istore_n 3, 1, 0, 0, 0) := rfl
theorem f_Rd_readMethod_166 : fetch 111 166 = some (.iload_n 3, 1, 0, 0, 0) := rfl
theorem f_Rd_readMethod_167 : fetch 111 167 = some (.aload_n 2, 1, 0, 0, 0) := rfl
theorem f_Rd_readMethod_168 : fetch 111 168 = some (.getfield 97, 3, 2, 4, 90) := rfl
theorem f_Rd_readMethod_171 : fetch 111 171 = some (.if_icmp .ge 23, 3, 194, 0, 0) := rfl
theorem f_Rd_readMethod_174 : fetch 111 174 = some (.aload_n 2, 1, 0, 0, 0) := rfl
theorem f_Rd_readMethod_175 : fetch 111 175 = some (.getfield 98, 3, 2, 8, 91) := rfl
theorem f_Rd_readMethod_178 : fetch 111 178 = some (.iload_n 3, 1, 0, 0, 0) := rfl
theorem f_Rd_readMethod_179 : fetch 111 179 = some (.aload_n 0, 1, 0, 0, 0) := rfl
theorem f_Rd_readMethod_180 : fetch 111 180 = some (.iconst 0, 1, 0, 0, 0) := rfl
theorem f_Rd_readMethod_181 : fetch 111 181 = some (.sipush 255, 3, 0, 0, 0) := rfl
theorem f_Rd_readMethod_184 : fetch 111 184 = some (.invokevirtual 30, 3, 108, 2, 104) := rfl
theorem f_Rd_readMethod_187 : fetch 111 187 = some (.iastore, 1, 0, 0, 0) := rfl
theorem f_Rd_readMethod_188 : fetch 111 188 = some (.iinc 3 1, 3, 0, 0, 0) := rfl
theorem f_Rd_readMethod_191 : fetch 111 191 = some (.goto (-25), 3, 166, 0, 0) := rfl
theorem f_Rd_readMethod_194 : fetch 111 194 = some (.return_, 1, 0, 0, 0) := rfl
def F_Rd_readMethod_166  : Nat → Nat → Nat → Int32 → SG → Option (SG)
  | 0, _, _, _, _ => none
  | n + 1, x0, x2, x3, σ =>
  if (σ.1 (x2) 4) ≤ x3 then
  some σ
  else match F_Rd_number (x0) ((0 : Int32)) ((255 : Int32)) σ with
  | none => none
  | some q2 =>
  if x3 < 0 ∨ 100 ≤ (x3).toNatClampNeg then none else
  stl (setA q2.2 ((cref SHc (x2) 8)) ((x3).toNatClampNeg) (q2.1)) fun s4 =>
  F_Rd_readMethod_166  n (x0) (x2) ((x3 + 1)) s4
set_option maxHeartbeats 4000000 in
theorem w_Rd_readMethod_166 {b d : Nat} {sc : SC} {pre tl : List PE} {B : Nat} {Q : Option Value → List PE → Prop} {res : SG} (hB : B = b + pre.length) (hd : 3 ≤ d)   (hQ : Q none (HH pre tl SHc B res)) : ∀ (n : Nat) (lv : LV) (σ : SG) (x0 : Nat) (x2 : Nat) (x3 : Int32), isC SHc (x0) 3 = true → isC SHc (x2) 2 = true → lv.lookup 0 = some (.ref (B + (x0))) → lv.lookup 2 = some (.ref (B + (x2))) → lv.lookup 3 = some (.int (x3)) → F_Rd_readMethod_166  n x0 x2 x3 σ = some res → Rn b sc d 111 166 lv [] (HH pre tl SHc B σ) Q := by
  obtain ⟨e0, rfl⟩ : ∃ e, d = e + 1 := ⟨d - 1, by omega⟩
  intro n
  induction n with
  | zero => intro lv σ x0 x2 x3 hx0 hx2 l0 l2 l3 hF; cases hF
  | succ n ih =>
    intro lv σ x0 x2 x3 hx0 hx2 l0 l2 l3 hF
    unfold F_Rd_readMethod_166 at hF
    refine r_iload_n f_Rd_readMethod_166 l3 ?_
    refine r_aload_n f_Rd_readMethod_167 l2 ?_
    refine t_geti hB hx2 f_Rd_readMethod_168 rfl ?_
    refine r_icmp_ge f_Rd_readMethod_171 (fun c1 => ?_) (fun c1 => ?_)
    · rw [if_pos c1] at hF
      cases hF
      exact r_return f_Rd_readMethod_194 hQ
    · rw [if_neg c1] at hF
      refine r_aload_n f_Rd_readMethod_174 l2 ?_
      refine t_getc hB hx2 f_Rd_readMethod_175 rfl ?_
      refine r_iload_n f_Rd_readMethod_178 l3 ?_
      refine r_aload_n f_Rd_readMethod_179 l0 ?_
      refine r_iconst f_Rd_readMethod_180 (v := 0) (by decide) ?_
      refine r_sipush f_Rd_readMethod_181 (v := 255) (by decide) ?_
      cases hq2 : F_Rd_number (x0) ((0 : Int32)) ((255 : Int32)) σ with
      | none => simp only [hq2] at hF; cases hF
      | some q2 =>
        simp only [hq2] at hF
        refine t_V2i hB hx0 rfl rfl f_Rd_readMethod_184 (by decide) (Nat.le_of_ble_eq_true rfl) (Nat.le_of_ble_eq_true rfl) (w_Rd_number hB  (x0) ((0 : Int32)) ((255 : Int32)) hx0 hq2 ⟨_, rfl, ?_⟩)
        by_cases c3 : x3 < 0 ∨ 100 ≤ (x3).toNatClampNeg
        · rw [if_pos c3] at hF; cases hF
        rw [if_neg c3] at hF
        refine t_iast hB (cc_2_8 hx2) f_Rd_readMethod_187 c3 ?_
        generalize hs4 : setA q2.2 ((cref SHc (x2) 8)) ((x3).toNatClampNeg) (q2.1) = s4 at hF ⊢
        rw [stl_eq] at hF
        refine r_iinc f_Rd_readMethod_188 l3 (w := x3 + 1) rfl ?_
        refine r_goto f_Rd_readMethod_191 ?_
        exact ih _ (s4) (x0) (x2) ((x3 + 1)) hx0 hx2 (lk_put_ne l0 (by decide) (Or.inl rfl)) (lk_put_ne l2 (by decide) (Or.inl rfl)) lk_put hF
def F_Rd_readMethod_129  : Nat → Nat → Nat → Int32 → SG → Option (SG)
  | 0, _, _, _, _ => none
  | n + 1, x0, x2, x3, σ =>
  if (σ.1 (x2) 3) ≤ x3 then
  match F_Rd_number (x0) ((1 : Int32)) ((100 : Int32)) σ with
  | none => none
  | some q6 =>
  stl (setI q6.2 (x2) 4 (q6.1)) fun s7 =>
  F_Rd_readMethod_166  5000 (x0) (x2) ((0 : Int32)) s7
  else if x3 < 0 ∨ 3 ≤ (x3).toNatClampNeg then none else
  match F_Rd_readRegion (x0) ((relem SHc ((cref SHc (x2) 7)) ((x3).toNatClampNeg))) σ with
  | none => none
  | some q9 =>
  F_Rd_readMethod_129  n (x0) (x2) ((x3 + 1)) q9
set_option maxHeartbeats 4000000 in
theorem w_Rd_readMethod_129 {b d : Nat} {sc : SC} {pre tl : List PE} {B : Nat} {Q : Option Value → List PE → Prop} {res : SG} (hB : B = b + pre.length) (hd : 3 ≤ d)   (hQ : Q none (HH pre tl SHc B res)) : ∀ (n : Nat) (lv : LV) (σ : SG) (x0 : Nat) (x2 : Nat) (x3 : Int32), isC SHc (x0) 3 = true → isC SHc (x2) 2 = true → lv.lookup 0 = some (.ref (B + (x0))) → lv.lookup 2 = some (.ref (B + (x2))) → lv.lookup 3 = some (.int (x3)) → F_Rd_readMethod_129  n x0 x2 x3 σ = some res → Rn b sc d 111 129 lv [] (HH pre tl SHc B σ) Q := by
  obtain ⟨e0, rfl⟩ : ∃ e, d = e + 1 := ⟨d - 1, by omega⟩
  intro n
  induction n with
  | zero => intro lv σ x0 x2 x3 hx0 hx2 l0 l2 l3 hF; cases hF
  | succ n ih =>
    intro lv σ x0 x2 x3 hx0 hx2 l0 l2 l3 hF
    unfold F_Rd_readMethod_129 at hF
    refine r_iload_n f_Rd_readMethod_129 l3 ?_
    refine r_aload_n f_Rd_readMethod_130 l2 ?_
    refine t_geti hB hx2 f_Rd_readMethod_131 rfl ?_
    refine r_icmp_ge f_Rd_readMethod_134 (fun c5 => ?_) (fun c5 => ?_)
    · rw [if_pos c5] at hF
      refine r_aload_n f_Rd_readMethod_153 l2 ?_
      refine r_aload_n f_Rd_readMethod_154 l0 ?_
      refine r_iconst f_Rd_readMethod_155 (v := 1) (by decide) ?_
      refine r_bipush f_Rd_readMethod_156 (v := 100) (by decide) ?_
      cases hq6 : F_Rd_number (x0) ((1 : Int32)) ((100 : Int32)) σ with
      | none => simp only [hq6] at hF; cases hF
      | some q6 =>
        simp only [hq6] at hF
        refine t_V2i hB hx0 rfl rfl f_Rd_readMethod_158 (by decide) (Nat.le_of_ble_eq_true rfl) (Nat.le_of_ble_eq_true rfl) (w_Rd_number hB  (x0) ((1 : Int32)) ((100 : Int32)) hx0 hq6 ⟨_, rfl, ?_⟩)
        refine t_puti hB hx2 f_Rd_readMethod_161 rfl rfl ?_
        generalize hs7 : setI q6.2 (x2) 4 (q6.1) = s7 at hF ⊢
        rw [stl_eq] at hF
        refine r_iconst f_Rd_readMethod_164 (v := 0) (by decide) ?_
        refine r_istore_n f_Rd_readMethod_165 ?_
        exact w_Rd_readMethod_166 hB hd  hQ 5000 _ (s7) (x0) (x2) ((0 : Int32)) hx0 hx2 (lk_put_ne l0 (by decide) (Or.inl rfl)) (lk_put_ne l2 (by decide) (Or.inl rfl)) lk_put hF
    · rw [if_neg c5] at hF
      refine r_aload_n f_Rd_readMethod_137 l0 ?_
      refine r_aload_n f_Rd_readMethod_138 l2 ?_
      refine t_getc hB hx2 f_Rd_readMethod_139 rfl ?_
      refine r_iload_n f_Rd_readMethod_142 l3 ?_
      by_cases c8 : x3 < 0 ∨ 3 ≤ (x3).toNatClampNeg
      · rw [if_pos c8] at hF; cases hF
      rw [if_neg c8] at hF
      refine t_aald hB (cc_2_7 hx2) (by decide) f_Rd_readMethod_143 c8 ?_
      cases hq9 : F_Rd_readRegion (x0) ((relem SHc ((cref SHc (x2) 7)) ((x3).toNatClampNeg))) σ with
      | none => simp only [hq9] at hF; cases hF
      | some q9 =>
        simp only [hq9] at hF
        refine t_V1v hB hx0 rfl rfl f_Rd_readMethod_144 (by decide) (Nat.le_of_ble_eq_true rfl) (Nat.le_of_ble_eq_true rfl) (w_Rd_readRegion hB (by omega) (x0) ((relem SHc ((cref SHc (x2) 7)) ((x3).toNatClampNeg))) hx0 (re_4 (cc_2_7 hx2) (nlt c8)) hq9 ⟨rfl, ?_⟩)
        refine r_iinc f_Rd_readMethod_147 l3 (w := x3 + 1) rfl ?_
        refine r_goto f_Rd_readMethod_150 ?_
        exact ih _ (q9) (x0) (x2) ((x3 + 1)) hx0 hx2 (lk_put_ne l0 (by decide) (Or.inl rfl)) (lk_put_ne l2 (by decide) (Or.inl rfl)) lk_put hF
def F_Rd_readMethod_92  : Nat → Nat → Nat → Nat → Int32 → SG → Option (SG)
  | 0, _, _, _, _, _ => none
  | n + 1, x0, x1, x2, x3, σ =>
  if (σ.1 (x2) 2) ≤ x3 then
  match F_Rd_number (x0) ((0 : Int32)) ((3 : Int32)) σ with
  | none => none
  | some q11 =>
  stl (setI q11.2 (x2) 3 (q11.1)) fun s12 =>
  F_Rd_readMethod_129  5000 (x0) (x2) ((0 : Int32)) s12
  else match F_Rd_keptType (x0) (x1) σ with
  | none => none
  | some q13 =>
  if x3 < 0 ∨ 4 ≤ (x3).toNatClampNeg then none else
  stl (setA q13.2 ((cref SHc (x2) 6)) ((x3).toNatClampNeg) (q13.1)) fun s15 =>
  F_Rd_readMethod_92  n (x0) (x1) (x2) ((x3 + 1)) s15
set_option maxHeartbeats 4000000 in
theorem w_Rd_readMethod_92 {b d : Nat} {sc : SC} {pre tl : List PE} {B : Nat} {Q : Option Value → List PE → Prop} {res : SG} (hB : B = b + pre.length) (hd : 3 ≤ d)   (hQ : Q none (HH pre tl SHc B res)) : ∀ (n : Nat) (lv : LV) (σ : SG) (x0 : Nat) (x1 : Nat) (x2 : Nat) (x3 : Int32), isC SHc (x0) 3 = true → isC SHc (x1) 1 = true → isC SHc (x2) 2 = true → lv.lookup 0 = some (.ref (B + (x0))) → lv.lookup 1 = some (.ref (B + (x1))) → lv.lookup 2 = some (.ref (B + (x2))) → lv.lookup 3 = some (.int (x3)) → F_Rd_readMethod_92  n x0 x1 x2 x3 σ = some res → Rn b sc d 111 92 lv [] (HH pre tl SHc B σ) Q := by
  obtain ⟨e0, rfl⟩ : ∃ e, d = e + 1 := ⟨d - 1, by omega⟩
  intro n
  induction n with
  | zero => intro lv σ x0 x1 x2 x3 hx0 hx1 hx2 l0 l1 l2 l3 hF; cases hF
  | succ n ih =>
    intro lv σ x0 x1 x2 x3 hx0 hx1 hx2 l0 l1 l2 l3 hF
    unfold F_Rd_readMethod_92 at hF
    refine r_iload_n f_Rd_readMethod_92 l3 ?_
    refine r_aload_n f_Rd_readMethod_93 l2 ?_
    refine t_geti hB hx2 f_Rd_readMethod_94 rfl ?_
    refine r_icmp_ge f_Rd_readMethod_97 (fun c10 => ?_) (fun c10 => ?_)
    · rw [if_pos c10] at hF
      refine r_aload_n f_Rd_readMethod_117 l2 ?_
      refine r_aload_n f_Rd_readMethod_118 l0 ?_
      refine r_iconst f_Rd_readMethod_119 (v := 0) (by decide) ?_
      refine r_iconst f_Rd_readMethod_120 (v := 3) (by decide) ?_
      cases hq11 : F_Rd_number (x0) ((0 : Int32)) ((3 : Int32)) σ with
      | none => simp only [hq11] at hF; cases hF
      | some q11 =>
        simp only [hq11] at hF
        refine t_V2i hB hx0 rfl rfl f_Rd_readMethod_121 (by decide) (Nat.le_of_ble_eq_true rfl) (Nat.le_of_ble_eq_true rfl) (w_Rd_number hB  (x0) ((0 : Int32)) ((3 : Int32)) hx0 hq11 ⟨_, rfl, ?_⟩)
        refine t_puti hB hx2 f_Rd_readMethod_124 rfl rfl ?_
        generalize hs12 : setI q11.2 (x2) 3 (q11.1) = s12 at hF ⊢
        rw [stl_eq] at hF
        refine r_iconst f_Rd_readMethod_127 (v := 0) (by decide) ?_
        refine r_istore_n f_Rd_readMethod_128 ?_
        exact w_Rd_readMethod_129 hB hd  hQ 5000 _ (s12) (x0) (x2) ((0 : Int32)) hx0 hx2 (lk_put_ne l0 (by decide) (Or.inl rfl)) (lk_put_ne l2 (by decide) (Or.inl rfl)) lk_put hF
    · rw [if_neg c10] at hF
      refine r_aload_n f_Rd_readMethod_100 l2 ?_
      refine t_getc hB hx2 f_Rd_readMethod_101 rfl ?_
      refine r_iload_n f_Rd_readMethod_104 l3 ?_
      refine r_aload_n f_Rd_readMethod_105 l0 ?_
      refine r_aload_n f_Rd_readMethod_106 l1 ?_
      cases hq13 : F_Rd_keptType (x0) (x1) σ with
      | none => simp only [hq13] at hF; cases hF
      | some q13 =>
        simp only [hq13] at hF
        refine t_V1i hB hx0 rfl rfl f_Rd_readMethod_107 (by decide) (Nat.le_of_ble_eq_true rfl) (Nat.le_of_ble_eq_true rfl) (w_Rd_keptType hB (by omega) (x0) (x1) hx0 hx1 hq13 ⟨_, rfl, ?_⟩)
        by_cases c14 : x3 < 0 ∨ 4 ≤ (x3).toNatClampNeg
        · rw [if_pos c14] at hF; cases hF
        rw [if_neg c14] at hF
        refine t_iast hB (cc_2_6 hx2) f_Rd_readMethod_110 c14 ?_
        generalize hs15 : setA q13.2 ((cref SHc (x2) 6)) ((x3).toNatClampNeg) (q13.1) = s15 at hF ⊢
        rw [stl_eq] at hF
        refine r_iinc f_Rd_readMethod_111 l3 (w := x3 + 1) rfl ?_
        refine r_goto f_Rd_readMethod_114 ?_
        exact ih _ (s15) (x0) (x1) (x2) ((x3 + 1)) hx0 hx1 hx2 (lk_put_ne l0 (by decide) (Or.inl rfl)) (lk_put_ne l1 (by decide) (Or.inl rfl)) (lk_put_ne l2 (by decide) (Or.inl rfl)) lk_put hF
def F_Rd_readMethod_73 (rec38 : Nat → Nat → Nat → Int32 → SG → Option (SG)) (x0 : Nat) (x1 : Nat) (x2 : Nat) (x3 : Int32) (y0 : Nat) (y1 : Int32) (y2 : Int32) (σ : SG) : Option (SG) :=
  if y1 < 0 ∨ 3 ≤ (y1).toNatClampNeg then none else
  stl (setA σ (y0) ((y1).toNatClampNeg) (y2)) fun s17 =>
  rec38 (x0) (x1) (x2) ((x3 + 1)) s17
set_option maxHeartbeats 4000000 in
theorem w_Rd_readMethod_73 {b d : Nat} {sc : SC} {pre tl : List PE} {B : Nat} {Q : Option Value → List PE → Prop} {res : SG} (hB : B = b + pre.length) (hd : 3 ≤ d) {rec38 : Nat → Nat → Nat → Int32 → SG → Option (SG)} (hr38 : ∀ (lv : LV) (σ : SG) (x0 : Nat) (x1 : Nat) (x2 : Nat) (x3 : Int32), isC SHc (x0) 3 = true → isC SHc (x1) 1 = true → isC SHc (x2) 2 = true → lv.lookup 0 = some (.ref (B + (x0))) → lv.lookup 1 = some (.ref (B + (x1))) → lv.lookup 2 = some (.ref (B + (x2))) → lv.lookup 3 = some (.int (x3)) →  rec38 x0 x1 x2 x3 σ = some res → Rn b sc d 111 38 lv [] (HH pre tl SHc B σ) Q) (hQ : Q none (HH pre tl SHc B res)) (lv : LV) (σ : SG) (x0 : Nat) (x1 : Nat) (x2 : Nat) (x3 : Int32) (y0 : Nat) (y1 : Int32) (y2 : Int32) (hx0 : isC SHc (x0) 3 = true) (hx1 : isC SHc (x1) 1 = true) (hx2 : isC SHc (x2) 2 = true) (hy0 : isA SHc (y0) 0 3 = true) (l0 : lv.lookup 0 = some (.ref (B + (x0)))) (l1 : lv.lookup 1 = some (.ref (B + (x1)))) (l2 : lv.lookup 2 = some (.ref (B + (x2)))) (l3 : lv.lookup 3 = some (.int (x3))) (hF : F_Rd_readMethod_73 rec38 x0 x1 x2 x3 y0 y1 y2 σ = some res) : Rn b sc d 111 73 lv [.int (y2), .int (y1), .ref (B + (y0))] (HH pre tl SHc B σ) Q := by
  obtain ⟨e0, rfl⟩ : ∃ e, d = e + 1 := ⟨d - 1, by omega⟩
  unfold F_Rd_readMethod_73 at hF
  by_cases c16 : y1 < 0 ∨ 3 ≤ (y1).toNatClampNeg
  · rw [if_pos c16] at hF; cases hF
  rw [if_neg c16] at hF
  refine t_iast hB hy0 f_Rd_readMethod_73 c16 ?_
  generalize hs17 : setA σ (y0) ((y1).toNatClampNeg) (y2) = s17 at hF ⊢
  rw [stl_eq] at hF
  refine r_iinc f_Rd_readMethod_74 l3 (w := x3 + 1) rfl ?_
  refine r_goto f_Rd_readMethod_77 ?_
  exact hr38 _ (s17) (x0) (x1) (x2) ((x3 + 1)) hx0 hx1 hx2 (lk_put_ne l0 (by decide) (Or.inl rfl)) (lk_put_ne l1 (by decide) (Or.inl rfl)) (lk_put_ne l2 (by decide) (Or.inl rfl)) lk_put hF
def F_Rd_readMethod_38  : Nat → Nat → Nat → Nat → Int32 → SG → Option (SG)
  | 0, _, _, _, _, _ => none
  | n + 1, x0, x1, x2, x3, σ =>
  if (σ.1 (x2) 1) ≤ x3 then
  match F_Rd_number (x0) ((0 : Int32)) ((4 : Int32)) σ with
  | none => none
  | some q19 =>
  stl (setI q19.2 (x2) 2 (q19.1)) fun s20 =>
  F_Rd_readMethod_92  5000 (x0) (x1) (x2) ((0 : Int32)) s20
  else match F_Rd_nextIs (x0) ((3 : Int32)) σ with
  | none => none
  | some q21 =>
  if q21.1 = true then
  match F_Rd_number (x0) ((3 : Int32)) ((3 : Int32)) q21.2 with
  | none => none
  | some q24 =>
  F_Rd_readMethod_73 (F_Rd_readMethod_38  n) (x0) (x1) (x2) (x3) ((cref SHc (x2) 5)) (x3) (q24.1) q24.2
  else match F_Rd_keptType (x0) (x1) q21.2 with
  | none => none
  | some q23 =>
  F_Rd_readMethod_73 (F_Rd_readMethod_38  n) (x0) (x1) (x2) (x3) ((cref SHc (x2) 5)) (x3) (q23.1) q23.2
set_option maxHeartbeats 4000000 in
theorem w_Rd_readMethod_38 {b d : Nat} {sc : SC} {pre tl : List PE} {B : Nat} {Q : Option Value → List PE → Prop} {res : SG} (hB : B = b + pre.length) (hd : 3 ≤ d)   (hQ : Q none (HH pre tl SHc B res)) : ∀ (n : Nat) (lv : LV) (σ : SG) (x0 : Nat) (x1 : Nat) (x2 : Nat) (x3 : Int32), isC SHc (x0) 3 = true → isC SHc (x1) 1 = true → isC SHc (x2) 2 = true → lv.lookup 0 = some (.ref (B + (x0))) → lv.lookup 1 = some (.ref (B + (x1))) → lv.lookup 2 = some (.ref (B + (x2))) → lv.lookup 3 = some (.int (x3)) → F_Rd_readMethod_38  n x0 x1 x2 x3 σ = some res → Rn b sc d 111 38 lv [] (HH pre tl SHc B σ) Q := by
  obtain ⟨e0, rfl⟩ : ∃ e, d = e + 1 := ⟨d - 1, by omega⟩
  intro n
  induction n with
  | zero => intro lv σ x0 x1 x2 x3 hx0 hx1 hx2 l0 l1 l2 l3 hF; cases hF
  | succ n ih =>
    intro lv σ x0 x1 x2 x3 hx0 hx1 hx2 l0 l1 l2 l3 hF
    unfold F_Rd_readMethod_38 at hF
    refine r_iload_n f_Rd_readMethod_38 l3 ?_
    refine r_aload_n f_Rd_readMethod_39 l2 ?_
    refine t_geti hB hx2 f_Rd_readMethod_40 rfl ?_
    refine r_icmp_ge f_Rd_readMethod_43 (fun c18 => ?_) (fun c18 => ?_)
    · rw [if_pos c18] at hF
      refine r_aload_n f_Rd_readMethod_80 l2 ?_
      refine r_aload_n f_Rd_readMethod_81 l0 ?_
      refine r_iconst f_Rd_readMethod_82 (v := 0) (by decide) ?_
      refine r_iconst f_Rd_readMethod_83 (v := 4) (by decide) ?_
      cases hq19 : F_Rd_number (x0) ((0 : Int32)) ((4 : Int32)) σ with
      | none => simp only [hq19] at hF; cases hF
      | some q19 =>
        simp only [hq19] at hF
        refine t_V2i hB hx0 rfl rfl f_Rd_readMethod_84 (by decide) (Nat.le_of_ble_eq_true rfl) (Nat.le_of_ble_eq_true rfl) (w_Rd_number hB  (x0) ((0 : Int32)) ((4 : Int32)) hx0 hq19 ⟨_, rfl, ?_⟩)
        refine t_puti hB hx2 f_Rd_readMethod_87 rfl rfl ?_
        generalize hs20 : setI q19.2 (x2) 2 (q19.1) = s20 at hF ⊢
        rw [stl_eq] at hF
        refine r_iconst f_Rd_readMethod_90 (v := 0) (by decide) ?_
        refine r_istore_n f_Rd_readMethod_91 ?_
        exact w_Rd_readMethod_92 hB hd  hQ 5000 _ (s20) (x0) (x1) (x2) ((0 : Int32)) hx0 hx1 hx2 (lk_put_ne l0 (by decide) (Or.inl rfl)) (lk_put_ne l1 (by decide) (Or.inl rfl)) (lk_put_ne l2 (by decide) (Or.inl rfl)) lk_put hF
    · rw [if_neg c18] at hF
      refine r_aload_n f_Rd_readMethod_46 l2 ?_
      refine t_getc hB hx2 f_Rd_readMethod_47 rfl ?_
      refine r_iload_n f_Rd_readMethod_50 l3 ?_
      refine r_aload_n f_Rd_readMethod_51 l0 ?_
      refine r_iconst f_Rd_readMethod_52 (v := 3) (by decide) ?_
      cases hq21 : F_Rd_nextIs (x0) ((3 : Int32)) σ with
      | none => simp only [hq21] at hF; cases hF
      | some q21 =>
        simp only [hq21] at hF
        refine t_V1i hB hx0 rfl rfl f_Rd_readMethod_53 (by decide) (Nat.le_of_ble_eq_true rfl) (Nat.le_of_ble_eq_true rfl) (w_Rd_nextIs hB  (x0) ((3 : Int32)) hx0 hq21 ⟨_, rfl, ?_⟩)
        refine r_if_eq f_Rd_readMethod_56 (fun c22 => ?_) (fun c22 => ?_)
        · rw [if_neg (bz_nt c22)] at hF
          refine r_aload_n f_Rd_readMethod_68 l0 ?_
          refine r_aload_n f_Rd_readMethod_69 l1 ?_
          cases hq23 : F_Rd_keptType (x0) (x1) q21.2 with
          | none => simp only [hq23] at hF; cases hF
          | some q23 =>
            simp only [hq23] at hF
            refine t_V1i hB hx0 rfl rfl f_Rd_readMethod_70 (by decide) (Nat.le_of_ble_eq_true rfl) (Nat.le_of_ble_eq_true rfl) (w_Rd_keptType hB (by omega) (x0) (x1) hx0 hx1 hq23 ⟨_, rfl, ?_⟩)
            exact w_Rd_readMethod_73 hB hd (ih) hQ _ (q23.2) (x0) (x1) (x2) (x3) ((cref SHc (x2) 5)) (x3) (q23.1) hx0 hx1 hx2 (cc_2_5 hx2) l0 l1 l2 l3 hF
        · rw [if_pos (bz_t c22)] at hF
          refine r_aload_n f_Rd_readMethod_59 l0 ?_
          refine r_iconst f_Rd_readMethod_60 (v := 3) (by decide) ?_
          refine r_iconst f_Rd_readMethod_61 (v := 3) (by decide) ?_
          cases hq24 : F_Rd_number (x0) ((3 : Int32)) ((3 : Int32)) q21.2 with
          | none => simp only [hq24] at hF; cases hF
          | some q24 =>
            simp only [hq24] at hF
            refine t_V2i hB hx0 rfl rfl f_Rd_readMethod_62 (by decide) (Nat.le_of_ble_eq_true rfl) (Nat.le_of_ble_eq_true rfl) (w_Rd_number hB  (x0) ((3 : Int32)) ((3 : Int32)) hx0 hq24 ⟨_, rfl, ?_⟩)
            refine r_goto f_Rd_readMethod_65 ?_
            exact w_Rd_readMethod_73 hB hd (ih) hQ _ (q24.2) (x0) (x1) (x2) (x3) ((cref SHc (x2) 5)) (x3) (q24.1) hx0 hx1 hx2 (cc_2_5 hx2) l0 l1 l2 l3 hF
def F_Rd_readMethod_23  (x0 : Nat) (x1 : Nat) (x2 : Nat) (y0 : Nat) (y1 : Int32) (σ : SG) : Option (SG) :=
  stl (setI σ (y0) 0 (y1)) fun s25 =>
  match F_Rd_number (x0) ((0 : Int32)) ((3 : Int32)) s25 with
  | none => none
  | some q26 =>
  stl (setI q26.2 (x2) 1 (q26.1)) fun s27 =>
  F_Rd_readMethod_38  5000 (x0) (x1) (x2) ((0 : Int32)) s27
set_option maxHeartbeats 4000000 in
theorem w_Rd_readMethod_23 {b d : Nat} {sc : SC} {pre tl : List PE} {B : Nat} {Q : Option Value → List PE → Prop} {res : SG} (hB : B = b + pre.length) (hd : 3 ≤ d)   (hQ : Q none (HH pre tl SHc B res)) (lv : LV) (σ : SG) (x0 : Nat) (x1 : Nat) (x2 : Nat) (y0 : Nat) (y1 : Int32) (hx0 : isC SHc (x0) 3 = true) (hx1 : isC SHc (x1) 1 = true) (hx2 : isC SHc (x2) 2 = true) (hy0 : isC SHc (y0) 2 = true) (l0 : lv.lookup 0 = some (.ref (B + (x0)))) (l1 : lv.lookup 1 = some (.ref (B + (x1)))) (l2 : lv.lookup 2 = some (.ref (B + (x2)))) (hF : F_Rd_readMethod_23  x0 x1 x2 y0 y1 σ = some res) : Rn b sc d 111 23 lv [.int (y1), .ref (B + (y0))] (HH pre tl SHc B σ) Q := by
  obtain ⟨e0, rfl⟩ : ∃ e, d = e + 1 := ⟨d - 1, by omega⟩
  unfold F_Rd_readMethod_23 at hF
  refine t_puti hB hy0 f_Rd_readMethod_23 rfl rfl ?_
  generalize hs25 : setI σ (y0) 0 (y1) = s25 at hF ⊢
  rw [stl_eq] at hF
  refine r_aload_n f_Rd_readMethod_26 l2 ?_
  refine r_aload_n f_Rd_readMethod_27 l0 ?_
  refine r_iconst f_Rd_readMethod_28 (v := 0) (by decide) ?_
  refine r_iconst f_Rd_readMethod_29 (v := 3) (by decide) ?_
  cases hq26 : F_Rd_number (x0) ((0 : Int32)) ((3 : Int32)) s25 with
  | none => simp only [hq26] at hF; cases hF
  | some q26 =>
    simp only [hq26] at hF
    refine t_V2i hB hx0 rfl rfl f_Rd_readMethod_30 (by decide) (Nat.le_of_ble_eq_true rfl) (Nat.le_of_ble_eq_true rfl) (w_Rd_number hB  (x0) ((0 : Int32)) ((3 : Int32)) hx0 hq26 ⟨_, rfl, ?_⟩)
    refine t_puti hB hx2 f_Rd_readMethod_33 rfl rfl ?_
    generalize hs27 : setI q26.2 (x2) 1 (q26.1) = s27 at hF ⊢
    rw [stl_eq] at hF
    refine r_iconst f_Rd_readMethod_36 (v := 0) (by decide) ?_
    refine r_istore_n f_Rd_readMethod_37 ?_
    exact w_Rd_readMethod_38 hB hd  hQ 5000 _ (s27) (x0) (x1) (x2) ((0 : Int32)) hx0 hx1 hx2 (lk_put_ne l0 (by decide) (Or.inl rfl)) (lk_put_ne l1 (by decide) (Or.inl rfl)) (lk_put_ne l2 (by decide) (Or.inl rfl)) lk_put hF
def F_Rd_readMethod (a0 : Nat) (a1 : Nat) (a2 : Nat) (σ : SG) : Option (SG) :=
  match F_Rd_nextIs (a0) ((0 : Int32)) σ with
  | none => none
  | some q28 =>
  if q28.1 = true then
  match F_Rd_number (a0) ((0 : Int32)) ((0 : Int32)) q28.2 with
  | none => none
  | some q31 =>
  F_Rd_readMethod_23 (a0) (a1) (a2) (a2) (q31.1) q31.2
  else match F_Rd_keptType (a0) (a1) q28.2 with
  | none => none
  | some q30 =>
  F_Rd_readMethod_23 (a0) (a1) (a2) (a2) (q30.1) q30.2
set_option maxHeartbeats 4000000 in
theorem w_Rd_readMethod {b d : Nat} {pre tl : List PE} {B : Nat} {Q : Option Value → List PE → Prop} {res : SG} (hB : B = b + pre.length) (hd : 3 ≤ d)  {σ : SG} (a0 : Nat) (a1 : Nat) (a2 : Nat) (ha0 : isC SHc (a0) 3 = true) (ha1 : isC SHc (a1) 1 = true) (ha2 : isC SHc (a2) 2 = true) (hF : F_Rd_readMethod a0 a1 a2 σ = some res) (hQ : Q none (HH pre tl SHc B res)) : Cl b d 111 [.ref (B + (a0)), .ref (B + (a1)), .ref (B + (a2))] (HH pre tl SHc B σ) Q := by
  obtain ⟨e0, rfl⟩ : ∃ e, d = e + 1 := ⟨d - 1, by omega⟩
  unfold Cl
  unfold F_Rd_readMethod at hF
  refine r_aload_n f_Rd_readMethod_0 rfl ?_
  refine r_aload_n f_Rd_readMethod_1 rfl ?_
  refine r_iconst f_Rd_readMethod_2 (v := 0) (by decide) ?_
  cases hq28 : F_Rd_nextIs (a0) ((0 : Int32)) σ with
  | none => simp only [hq28] at hF; cases hF
  | some q28 =>
    simp only [hq28] at hF
    refine t_V1i hB ha0 rfl rfl f_Rd_readMethod_3 (by decide) (Nat.le_of_ble_eq_true rfl) (Nat.le_of_ble_eq_true rfl) (w_Rd_nextIs hB  (a0) ((0 : Int32)) ha0 hq28 ⟨_, rfl, ?_⟩)
    refine r_if_eq f_Rd_readMethod_6 (fun c29 => ?_) (fun c29 => ?_)
    · rw [if_neg (bz_nt c29)] at hF
      refine r_aload_n f_Rd_readMethod_18 rfl ?_
      refine r_aload_n f_Rd_readMethod_19 rfl ?_
      cases hq30 : F_Rd_keptType (a0) (a1) q28.2 with
      | none => simp only [hq30] at hF; cases hF
      | some q30 =>
        simp only [hq30] at hF
        refine t_V1i hB ha0 rfl rfl f_Rd_readMethod_20 (by decide) (Nat.le_of_ble_eq_true rfl) (Nat.le_of_ble_eq_true rfl) (w_Rd_keptType hB (by omega) (a0) (a1) ha0 ha1 hq30 ⟨_, rfl, ?_⟩)
        exact w_Rd_readMethod_23 hB hd  hQ _ (q30.2) (a0) (a1) (a2) (a2) (q30.1) ha0 ha1 ha2 ha2 rfl rfl rfl hF
    · rw [if_pos (bz_t c29)] at hF
      refine r_aload_n f_Rd_readMethod_9 rfl ?_
      refine r_iconst f_Rd_readMethod_10 (v := 0) (by decide) ?_
      refine r_iconst f_Rd_readMethod_11 (v := 0) (by decide) ?_
      cases hq31 : F_Rd_number (a0) ((0 : Int32)) ((0 : Int32)) q28.2 with
      | none => simp only [hq31] at hF; cases hF
      | some q31 =>
        simp only [hq31] at hF
        refine t_V2i hB ha0 rfl rfl f_Rd_readMethod_12 (by decide) (Nat.le_of_ble_eq_true rfl) (Nat.le_of_ble_eq_true rfl) (w_Rd_number hB  (a0) ((0 : Int32)) ((0 : Int32)) ha0 hq31 ⟨_, rfl, ?_⟩)
        refine r_goto f_Rd_readMethod_15 ?_
        exact w_Rd_readMethod_23 hB hd  hQ _ (q31.2) (a0) (a1) (a2) (a2) (q31.1) ha0 ha1 ha2 ha2 rfl rfl rfl hF
theorem f_Rd_readInto_0 : fetch 107 0 = some (.aload_n 0, 1, 0, 0, 0) := rfl
theorem f_Rd_readInto_1 : fetch 107 1 = some (.aload_n 2, 1, 0, 0, 0) := rfl
theorem f_Rd_readInto_2 : fetch 107 2 = some (.putfield 7, 3, 3, 0, 74) := rfl
theorem f_Rd_readInto_5 : fetch 107 5 = some (.aload_n 0, 1, 0, 0, 0) := rfl
theorem f_Rd_readInto_6 : fetch 107 6 = some (.iload_n 3, 1, 0, 0, 0) := rfl
theorem f_Rd_readInto_7 : fetch 107 7 = some (.aload_n 2, 1, 0, 0, 0) := rfl
theorem f_Rd_readInto_8 : fetch 107 8 = some (.arraylength, 1, 0, 0, 0) := rfl
theorem f_Rd_readInto_9 : fetch 107 9 = some (.invokestatic 13, 3, 9998, 2, 103) := rfl
theorem f_Rd_readInto_12 : fetch 107 12 = some (.putfield 19, 3, 3, 1, 75) := rfl
theorem f_Rd_readInto_15 : fetch 107 15 = some (.aload_n 0, 1, 0, 0, 0) := rfl
theorem f_Rd_readInto_16 : fetch 107 16 = some (.iconst 0, 1, 0, 0, 0) := rfl
theorem f_Rd_readInto_17 : fetch 107 17 = some (.putfield 23, 3, 3, 2, 76) := rfl
theorem f_Rd_readInto_20 : fetch 107 20 = some (.aload_n 0, 1, 0, 0, 0) := rfl
theorem f_Rd_readInto_21 : fetch 107 21 = some (.iconst 1, 1, 0, 0, 0) := rfl
theorem f_Rd_readInto_22 : fetch 107 22 = some (.putfield 26, 3, 3, 3, 77) := rfl
theorem f_Rd_readInto_25 : fetch 107 25 = some (.aload_n 0, 1, 0, 0, 0) := rfl
theorem f_Rd_readInto_26 : fetch 107 26 = some (.bipush 77, 2, 0, 0, 0) := rfl
theorem f_Rd_readInto_28 : fetch 107 28 = some (.bipush 77, 2, 0, 0, 0) := rfl
theorem f_Rd_readInto_30 : fetch 107 30 = some (.invokevirtual 30, 3, 108, 2, 104) := rfl
theorem f_Rd_readInto_33 : fetch 107 33 = some (.pop, 1, 0, 0, 0) := rfl
theorem f_Rd_readInto_34 : fetch 107 34 = some (.aload_n 0, 1, 0, 0, 0) := rfl
theorem f_Rd_readInto_35 : fetch 107 35 = some (.aload_n 1, 1, 0, 0, 0) := rfl
theorem f_Rd_readInto_36 : fetch 107 36 = some (.invokevirtual 33, 3, 109, 1, 105) := rfl
theorem f_Rd_readInto_39 : fetch 107 39 = some (.aload_n 1, 1, 0, 0, 0) := rfl
theorem f_Rd_readInto_40 : fetch 107 40 = some (.aload_n 0, 1, 0, 0, 0) := rfl
theorem f_Rd_readInto_41 : fetch 107 41 = some (.iconst 1, 1, 0, 0, 0) := rfl
theorem f_Rd_readInto_42 : fetch 107 42 = some (.bipush 6, 2, 0, 0, 0) := rfl
theorem f_Rd_readInto_44 : fetch 107 44 = some (.invokevirtual 30, 3, 108, 2, 104) := rfl
theorem f_Rd_readInto_47 : fetch 107 47 = some (.putfield 39, 3, 1, 1, 78) := rfl
theorem f_Rd_readInto_50 : fetch 107 50 = some (.iconst 0, 1, 0, 0, 0) := rfl
theorem f_Rd_readInto_51 : fetch 107 51 = some (.istore 4, 2, 0, 0, 0) := rfl
theorem f_Rd_readInto_53 : fetch 107 53 = some (.iload 4, 2, 0, 0, 0) := rfl
theorem f_Rd_readInto_55 : fetch 107 55 = some (.aload_n 1, 1, 0, 0, 0) := rfl
theorem f_Rd_readInto_56 : fetch 107 56 = some (.getfield 39, 3, 1, 1, 78) := rfl
theorem f_Rd_readInto_59 : fetch 107 59 = some (.if_icmp .ge 21, 3, 80, 0, 0) := rfl
theorem f_Rd_readInto_62 : fetch 107 62 = some (.aload_n 0, 1, 0, 0, 0) := rfl
theorem f_Rd_readInto_63 : fetch 107 63 = some (.aload_n 1, 1, 0, 0, 0) := rfl
theorem f_Rd_readInto_64 : fetch 107 64 = some (.aload_n 1, 1, 0, 0, 0) := rfl
theorem f_Rd_readInto_65 : fetch 107 65 = some (.getfield 42, 3, 1, 4, 79) := rfl
theorem f_Rd_readInto_68 : fetch 107 68 = some (.iload 4, 2, 0, 0, 0) := rfl
theorem f_Rd_readInto_70 : fetch 107 70 = some (.aaload, 1, 0, 0, 0) := rfl
theorem f_Rd_readInto_71 : fetch 107 71 = some (.invokevirtual 46, 3, 111, 2, 106) := rfl
theorem f_Rd_readInto_74 : fetch 107 74 = some (.iinc 4 1, 3, 0, 0, 0) := rfl
theorem f_Rd_readInto_77 : fetch 107 77 = some (.goto (-24), 3, 53, 0, 0) := rfl
theorem f_Rd_readInto_80 : fetch 107 80 = some (.aload_n 0, 1, 0, 0, 0) := rfl
theorem f_Rd_readInto_81 : fetch 107 81 = some (.getfield 26, 3, 3, 3, 77) := rfl
theorem f_Rd_readInto_84 : fetch 107 84 = some (.ifCond .eq 18, 3, 102, 0, 0) := rfl
theorem f_Rd_readInto_87 : fetch 107 87 = some (.aload_n 0, 1, 0, 0, 0) := rfl
theorem f_Rd_readInto_88 : fetch 107 88 = some (.getfield 23, 3, 3, 2, 76) := rfl
theorem f_Rd_readInto_91 : fetch 107 91 = some (.aload_n 0, 1, 0, 0, 0) := rfl
theorem f_Rd_readInto_92 : fetch 107 92 = some (.getfield 19, 3, 3, 1, 75) := rfl
theorem f_Rd_readInto_95 : fetch 107 95 = some (.if_icmp .ne 7, 3, 102, 0, 0) := rfl
theorem f_Rd_readInto_98 : fetch 107 98 = some (.iconst 1, 1, 0, 0, 0) := rfl
theorem f_Rd_readInto_99 : fetch 107 99 = some (.goto 4, 3, 103, 0, 0) := rfl
theorem f_Rd_readInto_102 : fetch 107 102 = some (.iconst 0, 1, 0, 0, 0) := rfl
theorem f_Rd_readInto_103 : fetch 107 103 = some (.ireturn, 1, 2, 0, 0) := rfl
def F_Rd_readInto_103  (y0 : Bool) (σ : SG) : Option (Bool × SG) :=
  some (y0, σ)
set_option maxHeartbeats 4000000 in
theorem w_Rd_readInto_103 {b d : Nat} {sc : SC} {pre tl : List PE} {B : Nat} {Q : Option Value → List PE → Prop} {res : Bool × SG} (hB : B = b + pre.length) (hd : 4 ≤ d)   (hQ : Q (some (.int (bz res.1))) (HH pre tl SHc B res.2)) (lv : LV) (σ : SG) (y0 : Bool)  (hF : F_Rd_readInto_103  y0 σ = some res) : Rn b sc d 107 103 lv [.int (bz (y0))] (HH pre tl SHc B σ) Q := by
  obtain ⟨e0, rfl⟩ : ∃ e, d = e + 1 := ⟨d - 1, by omega⟩
  unfold F_Rd_readInto_103 at hF
  cases hF
  exact r_zreturn f_Rd_readInto_103 (bz_or (y0)) hQ
def F_Rd_readInto_102   (σ : SG) : Option (Bool × SG) :=
  F_Rd_readInto_103 (false) σ
set_option maxHeartbeats 4000000 in
theorem w_Rd_readInto_102 {b d : Nat} {sc : SC} {pre tl : List PE} {B : Nat} {Q : Option Value → List PE → Prop} {res : Bool × SG} (hB : B = b + pre.length) (hd : 4 ≤ d)   (hQ : Q (some (.int (bz res.1))) (HH pre tl SHc B res.2)) (lv : LV) (σ : SG)   (hF : F_Rd_readInto_102   σ = some res) : Rn b sc d 107 102 lv [] (HH pre tl SHc B σ) Q := by
  obtain ⟨e0, rfl⟩ : ∃ e, d = e + 1 := ⟨d - 1, by omega⟩
  unfold F_Rd_readInto_102 at hF
  refine r_iconst f_Rd_readInto_102 (v := 0) (by decide) ?_
  exact w_Rd_readInto_103 hB hd  hQ _ (σ) (false) hF
def F_Rd_readInto_53  : Nat → Nat → Nat → Int32 → SG → Option (Bool × SG)
  | 0, _, _, _, _ => none
  | n + 1, x0, x1, x4, σ =>
  if (σ.1 (x1) 1) ≤ x4 then
  if (zb (σ.1 (x0) 3)) = true then
  if (σ.1 (x0) 2) = (σ.1 (x0) 1) then
  F_Rd_readInto_103 (true) σ
  else F_Rd_readInto_102 σ
  else F_Rd_readInto_102 σ
  else if x4 < 0 ∨ 6 ≤ (x4).toNatClampNeg then none else
  match F_Rd_readMethod (x0) (x1) ((relem SHc ((cref SHc (x1) 4)) ((x4).toNatClampNeg))) σ with
  | none => none
  | some q5 =>
  F_Rd_readInto_53  n (x0) (x1) ((x4 + 1)) q5
set_option maxHeartbeats 4000000 in
theorem w_Rd_readInto_53 {b d : Nat} {sc : SC} {pre tl : List PE} {B : Nat} {Q : Option Value → List PE → Prop} {res : Bool × SG} (hB : B = b + pre.length) (hd : 4 ≤ d)   (hQ : Q (some (.int (bz res.1))) (HH pre tl SHc B res.2)) : ∀ (n : Nat) (lv : LV) (σ : SG) (x0 : Nat) (x1 : Nat) (x4 : Int32), isC SHc (x0) 3 = true → isC SHc (x1) 1 = true → lv.lookup 0 = some (.ref (B + (x0))) → lv.lookup 1 = some (.ref (B + (x1))) → lv.lookup 4 = some (.int (x4)) → F_Rd_readInto_53  n x0 x1 x4 σ = some res → Rn b sc d 107 53 lv [] (HH pre tl SHc B σ) Q := by
  obtain ⟨e0, rfl⟩ : ∃ e, d = e + 1 := ⟨d - 1, by omega⟩
  intro n
  induction n with
  | zero => intro lv σ x0 x1 x4 hx0 hx1 l0 l1 l4 hF; cases hF
  | succ n ih =>
    intro lv σ x0 x1 x4 hx0 hx1 l0 l1 l4 hF
    unfold F_Rd_readInto_53 at hF
    refine r_iload f_Rd_readInto_53 l4 ?_
    refine r_aload_n f_Rd_readInto_55 l1 ?_
    refine t_geti hB hx1 f_Rd_readInto_56 rfl ?_
    refine r_icmp_ge f_Rd_readInto_59 (fun c1 => ?_) (fun c1 => ?_)
    · rw [if_pos c1] at hF
      refine r_aload_n f_Rd_readInto_80 l0 ?_
      refine t_getz hB hx0 f_Rd_readInto_81 rfl ?_
      refine r_if_eq f_Rd_readInto_84 (fun c2 => ?_) (fun c2 => ?_)
      · rw [if_neg (bz_nt c2)] at hF
        exact w_Rd_readInto_102 hB hd  hQ _ (σ) hF
      · rw [if_pos (bz_t c2)] at hF
        refine r_aload_n f_Rd_readInto_87 l0 ?_
        refine t_geti hB hx0 f_Rd_readInto_88 rfl ?_
        refine r_aload_n f_Rd_readInto_91 l0 ?_
        refine t_geti hB hx0 f_Rd_readInto_92 rfl ?_
        refine r_icmp_ne f_Rd_readInto_95 (fun c3 => ?_) (fun c3 => ?_)
        · rw [if_neg c3] at hF
          exact w_Rd_readInto_102 hB hd  hQ _ (σ) hF
        · rw [if_pos (Decidable.not_not.mp c3)] at hF
          refine r_iconst f_Rd_readInto_98 (v := 1) (by decide) ?_
          refine r_goto f_Rd_readInto_99 ?_
          exact w_Rd_readInto_103 hB hd  hQ _ (σ) (true) hF
    · rw [if_neg c1] at hF
      refine r_aload_n f_Rd_readInto_62 l0 ?_
      refine r_aload_n f_Rd_readInto_63 l1 ?_
      refine r_aload_n f_Rd_readInto_64 l1 ?_
      refine t_getc hB hx1 f_Rd_readInto_65 rfl ?_
      refine r_iload f_Rd_readInto_68 l4 ?_
      by_cases c4 : x4 < 0 ∨ 6 ≤ (x4).toNatClampNeg
      · rw [if_pos c4] at hF; cases hF
      rw [if_neg c4] at hF
      refine t_aald hB (cc_1_4 hx1) (by decide) f_Rd_readInto_70 c4 ?_
      cases hq5 : F_Rd_readMethod (x0) (x1) ((relem SHc ((cref SHc (x1) 4)) ((x4).toNatClampNeg))) σ with
      | none => simp only [hq5] at hF; cases hF
      | some q5 =>
        simp only [hq5] at hF
        refine t_V2v hB hx0 rfl rfl f_Rd_readInto_71 (by decide) (Nat.le_of_ble_eq_true rfl) (Nat.le_of_ble_eq_true rfl) (w_Rd_readMethod hB (by omega) (x0) (x1) ((relem SHc ((cref SHc (x1) 4)) ((x4).toNatClampNeg))) hx0 hx1 (re_3 (cc_1_4 hx1) (nlt c4)) hq5 ⟨rfl, ?_⟩)
        refine r_iinc f_Rd_readInto_74 l4 (w := x4 + 1) rfl ?_
        refine r_goto f_Rd_readInto_77 ?_
        exact ih _ (q5) (x0) (x1) ((x4 + 1)) hx0 hx1 (lk_put_ne l0 (by decide) (Or.inl rfl)) (lk_put_ne l1 (by decide) (Or.inl rfl)) lk_put hF
def F_Rd_readInto (a0 : Nat) (a1 : Nat) (a2 : Nat) (a3 : Int32) (σ : SG) : Option (Bool × SG) :=
  stl (setP σ (a0) 0 (a2)) fun s6 =>
  stl (setI s6 (a0) 1 ((if (Int32.ofNat (alen SHc (a2))) < a3 then (Int32.ofNat (alen SHc (a2))) else a3))) fun s7 =>
  stl (setI s7 (a0) 2 ((0 : Int32))) fun s8 =>
  stl (setI s8 (a0) 3 (bz (true))) fun s9 =>
  match F_Rd_number (a0) ((77 : Int32)) ((77 : Int32)) s9 with
  | none => none
  | some q10 =>
  match F_Rd_readClasses (a0) (a1) q10.2 with
  | none => none
  | some q11 =>
  match F_Rd_number (a0) ((1 : Int32)) ((6 : Int32)) q11 with
  | none => none
  | some q12 =>
  stl (setI q12.2 (a1) 1 (q12.1)) fun s13 =>
  F_Rd_readInto_53  5000 (a0) (a1) ((0 : Int32)) s13
set_option maxHeartbeats 4000000 in
theorem w_Rd_readInto {b d : Nat} {pre tl : List PE} {B : Nat} {Q : Option Value → List PE → Prop} {res : Bool × SG} (hB : B = b + pre.length) (hd : 4 ≤ d)  {σ : SG} (a0 : Nat) (a1 : Nat) (a2 : Nat) (a3 : Int32) (ha0 : isC SHc (a0) 3 = true) (ha1 : isC SHc (a1) 1 = true) (ha2 : isA SHc (a2) 0 (alen SHc (a2)) = true) (hF : F_Rd_readInto a0 a1 a2 a3 σ = some res) (hQ : Q (some (.int (bz res.1))) (HH pre tl SHc B res.2)) : Cl b d 107 [.ref (B + (a0)), .ref (B + (a1)), .ref (B + (a2)), .int (a3)] (HH pre tl SHc B σ) Q := by
  obtain ⟨e0, rfl⟩ : ∃ e, d = e + 1 := ⟨d - 1, by omega⟩
  unfold Cl
  unfold F_Rd_readInto at hF
  refine r_aload_n f_Rd_readInto_0 rfl ?_
  refine r_aload_n f_Rd_readInto_1 rfl ?_
  refine t_putm hB ha0 f_Rd_readInto_2 rfl rfl ?_
  generalize hs6 : setP σ (a0) 0 (a2) = s6 at hF ⊢
  rw [stl_eq] at hF
  refine r_aload_n f_Rd_readInto_5 rfl ?_
  refine r_iload_n f_Rd_readInto_6 rfl ?_
  refine r_aload_n f_Rd_readInto_7 rfl ?_
  refine t_len hB ha2 (by decide) f_Rd_readInto_8 (v := (Int32.ofNat (alen SHc (a2)))) (by rfl) ?_
  refine t_min f_Rd_readInto_9 (Nat.le_of_ble_eq_true rfl) ?_
  refine t_puti hB ha0 f_Rd_readInto_12 rfl rfl ?_
  generalize hs7 : setI s6 (a0) 1 ((if (Int32.ofNat (alen SHc (a2))) < a3 then (Int32.ofNat (alen SHc (a2))) else a3)) = s7 at hF ⊢
  rw [stl_eq] at hF
  refine r_aload_n f_Rd_readInto_15 rfl ?_
  refine r_iconst f_Rd_readInto_16 (v := 0) (by decide) ?_
  refine t_puti hB ha0 f_Rd_readInto_17 rfl rfl ?_
  generalize hs8 : setI s7 (a0) 2 ((0 : Int32)) = s8 at hF ⊢
  rw [stl_eq] at hF
  refine r_aload_n f_Rd_readInto_20 rfl ?_
  refine r_iconst f_Rd_readInto_21 (v := 1) (by decide) ?_
  refine t_putz (v := true) hB ha0 f_Rd_readInto_22 rfl rfl ?_
  generalize hs9 : setI s8 (a0) 3 (bz (true)) = s9 at hF ⊢
  rw [stl_eq] at hF
  refine r_aload_n f_Rd_readInto_25 rfl ?_
  refine r_bipush f_Rd_readInto_26 (v := 77) (by decide) ?_
  refine r_bipush f_Rd_readInto_28 (v := 77) (by decide) ?_
  cases hq10 : F_Rd_number (a0) ((77 : Int32)) ((77 : Int32)) s9 with
  | none => simp only [hq10] at hF; cases hF
  | some q10 =>
    simp only [hq10] at hF
    refine t_V2i hB ha0 rfl rfl f_Rd_readInto_30 (by decide) (Nat.le_of_ble_eq_true rfl) (Nat.le_of_ble_eq_true rfl) (w_Rd_number hB  (a0) ((77 : Int32)) ((77 : Int32)) ha0 hq10 ⟨_, rfl, ?_⟩)
    refine r_pop f_Rd_readInto_33 rfl ?_
    refine r_aload_n f_Rd_readInto_34 rfl ?_
    refine r_aload_n f_Rd_readInto_35 rfl ?_
    cases hq11 : F_Rd_readClasses (a0) (a1) q10.2 with
    | none => simp only [hq11] at hF; cases hF
    | some q11 =>
      simp only [hq11] at hF
      refine t_V1v hB ha0 rfl rfl f_Rd_readInto_36 (by decide) (Nat.le_of_ble_eq_true rfl) (Nat.le_of_ble_eq_true rfl) (w_Rd_readClasses hB (by omega) (a0) (a1) ha0 ha1 hq11 ⟨rfl, ?_⟩)
      refine r_aload_n f_Rd_readInto_39 rfl ?_
      refine r_aload_n f_Rd_readInto_40 rfl ?_
      refine r_iconst f_Rd_readInto_41 (v := 1) (by decide) ?_
      refine r_bipush f_Rd_readInto_42 (v := 6) (by decide) ?_
      cases hq12 : F_Rd_number (a0) ((1 : Int32)) ((6 : Int32)) q11 with
      | none => simp only [hq12] at hF; cases hF
      | some q12 =>
        simp only [hq12] at hF
        refine t_V2i hB ha0 rfl rfl f_Rd_readInto_44 (by decide) (Nat.le_of_ble_eq_true rfl) (Nat.le_of_ble_eq_true rfl) (w_Rd_number hB  (a0) ((1 : Int32)) ((6 : Int32)) ha0 hq12 ⟨_, rfl, ?_⟩)
        refine t_puti hB ha1 f_Rd_readInto_47 rfl rfl ?_
        generalize hs13 : setI q12.2 (a1) 1 (q12.1) = s13 at hF ⊢
        rw [stl_eq] at hF
        refine r_iconst f_Rd_readInto_50 (v := 0) (by decide) ?_
        refine r_istore f_Rd_readInto_51 ?_
        exact w_Rd_readInto_53 hB hd  hQ 5000 _ (s13) (a0) (a1) ((0 : Int32)) ha0 ha1 (lk_put_ne rfl (by decide) (Or.inl rfl)) (lk_put_ne rfl (by decide) (Or.inl rfl)) lk_put hF
theorem f_Rg_isApartFromOrWithin_0 : fetch 115 0 = some (.aload_n 0, 1, 0, 0, 0) := rfl
theorem f_Rg_isApartFromOrWithin_1 : fetch 115 1 = some (.getfield 16, 3, 4, 2, 96) := rfl
theorem f_Rg_isApartFromOrWithin_4 : fetch 115 4 = some (.aload_n 1, 1, 0, 0, 0) := rfl
theorem f_Rg_isApartFromOrWithin_5 : fetch 115 5 = some (.getfield 7, 3, 4, 0, 97) := rfl
theorem f_Rg_isApartFromOrWithin_8 : fetch 115 8 = some (.if_icmp .le 14, 3, 22, 0, 0) := rfl
theorem f_Rg_isApartFromOrWithin_11 : fetch 115 11 = some (.aload_n 1, 1, 0, 0, 0) := rfl
theorem f_Rg_isApartFromOrWithin_12 : fetch 115 12 = some (.getfield 16, 3, 4, 2, 96) := rfl
theorem f_Rg_isApartFromOrWithin_15 : fetch 115 15 = some (.aload_n 0, 1, 0, 0, 0) := rfl
theorem f_Rg_isApartFromOrWithin_16 : fetch 115 16 = some (.getfield 7, 3, 4, 0, 97) := rfl
theorem f_Rg_isApartFromOrWithin_19 : fetch 115 19 = some (.if_icmp .gt 7, 3, 26, 0, 0) := rfl
theorem f_Rg_isApartFromOrWithin_22 : fetch 115 22 = some (.iconst 1, 1, 0, 0, 0) := rfl
theorem f_Rg_isApartFromOrWithin_23 : fetch 115 23 = some (.goto 4, 3, 27, 0, 0) := rfl
theorem f_Rg_isApartFromOrWithin_26 : fetch 115 26 = some (.iconst 0, 1, 0, 0, 0) := rfl
theorem f_Rg_isApartFromOrWithin_27 : fetch 115 27 = some (.istore_n 2, 1, 0, 0, 0) := rfl
theorem f_Rg_isApartFromOrWithin_28 : fetch 115 28 = some (.aload_n 0, 1, 0, 0, 0) := rfl
theorem f_Rg_isApartFromOrWithin_29 : fetch 115 29 = some (.getfield 7, 3, 4, 0, 97) := rfl
theorem f_Rg_isApartFromOrWithin_32 : fetch 115 32 = some (.aload_n 1, 1, 0, 0, 0) := rfl
theorem f_Rg_isApartFromOrWithin_33 : fetch 115 33 = some (.getfield 7, 3, 4, 0, 97) := rfl
theorem f_Rg_isApartFromOrWithin_36 : fetch 115 36 = some (.if_icmp .lt 18, 3, 54, 0, 0) := rfl
theorem f_Rg_isApartFromOrWithin_39 : fetch 115 39 = some (.aload_n 0, 1, 0, 0, 0) := rfl
theorem f_Rg_isApartFromOrWithin_40 : fetch 115 40 = some (.getfield 16, 3, 4, 2, 96) := rfl
theorem f_Rg_isApartFromOrWithin_43 : fetch 115 43 = some (.aload_n 1, 1, 0, 0, 0) := rfl
theorem f_Rg_isApartFromOrWithin_44 : fetch 115 44 = some (.getfield 13, 3, 4, 1, 98) := rfl
theorem f_Rg_isApartFromOrWithin_47 : fetch 115 47 = some (.if_icmp .gt 7, 3, 54, 0, 0) := rfl
theorem f_Rg_isApartFromOrWithin_50 : fetch 115 50 = some (.iconst 1, 1, 0, 0, 0) := rfl
theorem f_Rg_isApartFromOrWithin_51 : fetch 115 51 = some (.goto 4, 3, 55, 0, 0) := rfl
theorem f_Rg_isApartFromOrWithin_54 : fetch 115 54 = some (.iconst 0, 1, 0, 0, 0) := rfl
theorem f_Rg_isApartFromOrWithin_55 : fetch 115 55 = some (.istore_n 3, 1, 0, 0, 0) := rfl
theorem f_Rg_isApartFromOrWithin_56 : fetch 115 56 = some (.aload_n 0, 1, 0, 0, 0) := rfl
theorem f_Rg_isApartFromOrWithin_57 : fetch 115 57 = some (.getfield 7, 3, 4, 0, 97) := rfl
theorem f_Rg_isApartFromOrWithin_60 : fetch 115 60 = some (.aload_n 1, 1, 0, 0, 0) := rfl
theorem f_Rg_isApartFromOrWithin_61 : fetch 115 61 = some (.getfield 13, 3, 4, 1, 98) := rfl
theorem f_Rg_isApartFromOrWithin_64 : fetch 115 64 = some (.if_icmp .lt 18, 3, 82, 0, 0) := rfl
theorem f_Rg_isApartFromOrWithin_67 : fetch 115 67 = some (.aload_n 0, 1, 0, 0, 0) := rfl
theorem f_Rg_isApartFromOrWithin_68 : fetch 115 68 = some (.getfield 16, 3, 4, 2, 96) := rfl
theorem f_Rg_isApartFromOrWithin_71 : fetch 115 71 = some (.aload_n 1, 1, 0, 0, 0) := rfl
theorem f_Rg_isApartFromOrWithin_72 : fetch 115 72 = some (.getfield 16, 3, 4, 2, 96) := rfl
theorem f_Rg_isApartFromOrWithin_75 : fetch 115 75 = some (.if_icmp .gt 7, 3, 82, 0, 0) := rfl
theorem f_Rg_isApartFromOrWithin_78 : fetch 115 78 = some (.iconst 1, 1, 0, 0, 0) := rfl
theorem f_Rg_isApartFromOrWithin_79 : fetch 115 79 = some (.goto 4, 3, 83, 0, 0) := rfl
theorem f_Rg_isApartFromOrWithin_82 : fetch 115 82 = some (.iconst 0, 1, 0, 0, 0) := rfl
theorem f_Rg_isApartFromOrWithin_83 : fetch 115 83 = some (.istore 4, 2, 0, 0, 0) := rfl
theorem f_Rg_isApartFromOrWithin_85 : fetch 115 85 = some (.iload_n 2, 1, 0, 0, 0) := rfl
theorem f_Rg_isApartFromOrWithin_86 : fetch 115 86 = some (.ifCond .ne 12, 3, 98, 0, 0) := rfl
theorem f_Rg_isApartFromOrWithin_89 : fetch 115 89 = some (.iload_n 3, 1, 0, 0, 0) := rfl
theorem f_Rg_isApartFromOrWithin_90 : fetch 115 90 = some (.ifCond .ne 8, 3, 98, 0, 0) := rfl
theorem f_Rg_isApartFromOrWithin_93 : fetch 115 93 = some (.iload 4, 2, 0, 0, 0) := rfl
theorem f_Rg_isApartFromOrWithin_95 : fetch 115 95 = some (.ifCond .eq 7, 3, 102, 0, 0) := rfl
theorem f_Rg_isApartFromOrWithin_98 : fetch 115 98 = some (.iconst 1, 1, 0, 0, 0) := rfl
theorem f_Rg_isApartFromOrWithin_99 : fetch 115 99 = some (.goto 4, 3, 103, 0, 0) := rfl
theorem f_Rg_isApartFromOrWithin_102 : fetch 115 102 = some (.iconst 0, 1, 0, 0, 0) := rfl
theorem f_Rg_isApartFromOrWithin_103 : fetch 115 103 = some (.ireturn, 1, 2, 0, 0) := rfl
def F_Rg_isApartFromOrWithin_103  (y0 : Bool) (σ : SG) : Option (Bool × SG) :=
  some (y0, σ)
set_option maxHeartbeats 4000000 in
theorem w_Rg_isApartFromOrWithin_103 {b d : Nat} {sc : SC} {pre tl : List PE} {B : Nat} {Q : Option Value → List PE → Prop} {res : Bool × SG} (hB : B = b + pre.length)   (hQ : Q (some (.int (bz res.1))) (HH pre tl SHc B res.2)) (lv : LV) (σ : SG) (y0 : Bool)  (hF : F_Rg_isApartFromOrWithin_103  y0 σ = some res) : Rn b sc d 115 103 lv [.int (bz (y0))] (HH pre tl SHc B σ) Q := by
  unfold F_Rg_isApartFromOrWithin_103 at hF
  cases hF
  exact r_zreturn f_Rg_isApartFromOrWithin_103 (bz_or (y0)) hQ
def F_Rg_isApartFromOrWithin_98   (σ : SG) : Option (Bool × SG) :=
  F_Rg_isApartFromOrWithin_103 (true) σ
set_option maxHeartbeats 4000000 in
theorem w_Rg_isApartFromOrWithin_98 {b d : Nat} {sc : SC} {pre tl : List PE} {B : Nat} {Q : Option Value → List PE → Prop} {res : Bool × SG} (hB : B = b + pre.length)   (hQ : Q (some (.int (bz res.1))) (HH pre tl SHc B res.2)) (lv : LV) (σ : SG)   (hF : F_Rg_isApartFromOrWithin_98   σ = some res) : Rn b sc d 115 98 lv [] (HH pre tl SHc B σ) Q := by
  unfold F_Rg_isApartFromOrWithin_98 at hF
  refine r_iconst f_Rg_isApartFromOrWithin_98 (v := 1) (by decide) ?_
  refine r_goto f_Rg_isApartFromOrWithin_99 ?_
  exact w_Rg_isApartFromOrWithin_103 hB   hQ _ (σ) (true) hF
def F_Rg_isApartFromOrWithin_83  (x2 : Bool) (x3 : Bool) (y0 : Bool) (σ : SG) : Option (Bool × SG) :=
  if x2 = true then
  F_Rg_isApartFromOrWithin_98 σ
  else if x3 = true then
  F_Rg_isApartFromOrWithin_98 σ
  else if y0 = true then
  F_Rg_isApartFromOrWithin_98 σ
  else F_Rg_isApartFromOrWithin_103 (false) σ
set_option maxHeartbeats 4000000 in
theorem w_Rg_isApartFromOrWithin_83 {b d : Nat} {sc : SC} {pre tl : List PE} {B : Nat} {Q : Option Value → List PE → Prop} {res : Bool × SG} (hB : B = b + pre.length)   (hQ : Q (some (.int (bz res.1))) (HH pre tl SHc B res.2)) (lv : LV) (σ : SG) (x2 : Bool) (x3 : Bool) (y0 : Bool) (l2 : lv.lookup 2 = some (.int (bz (x2)))) (l3 : lv.lookup 3 = some (.int (bz (x3)))) (hF : F_Rg_isApartFromOrWithin_83  x2 x3 y0 σ = some res) : Rn b sc d 115 83 lv [.int (bz (y0))] (HH pre tl SHc B σ) Q := by
  unfold F_Rg_isApartFromOrWithin_83 at hF
  refine r_istore f_Rg_isApartFromOrWithin_83 ?_
  refine r_iload_n f_Rg_isApartFromOrWithin_85 (lk_put_ne l2 (by decide) (Or.inl rfl)) ?_
  refine r_if_ne f_Rg_isApartFromOrWithin_86 (fun c1 => ?_) (fun c1 => ?_)
  · rw [if_pos (bz_t c1)] at hF
    exact w_Rg_isApartFromOrWithin_98 hB   hQ _ (σ) hF
  · rw [if_neg (bz_nt (Decidable.not_not.mp c1))] at hF
    refine r_iload_n f_Rg_isApartFromOrWithin_89 (lk_put_ne l3 (by decide) (Or.inl rfl)) ?_
    refine r_if_ne f_Rg_isApartFromOrWithin_90 (fun c2 => ?_) (fun c2 => ?_)
    · rw [if_pos (bz_t c2)] at hF
      exact w_Rg_isApartFromOrWithin_98 hB   hQ _ (σ) hF
    · rw [if_neg (bz_nt (Decidable.not_not.mp c2))] at hF
      refine r_iload f_Rg_isApartFromOrWithin_93 lk_put ?_
      refine r_if_eq f_Rg_isApartFromOrWithin_95 (fun c3 => ?_) (fun c3 => ?_)
      · rw [if_neg (bz_nt c3)] at hF
        refine r_iconst f_Rg_isApartFromOrWithin_102 (v := 0) (by decide) ?_
        exact w_Rg_isApartFromOrWithin_103 hB   hQ _ (σ) (false) hF
      · rw [if_pos (bz_t c3)] at hF
        exact w_Rg_isApartFromOrWithin_98 hB   hQ _ (σ) hF
def F_Rg_isApartFromOrWithin_82  (x2 : Bool) (x3 : Bool) (σ : SG) : Option (Bool × SG) :=
  F_Rg_isApartFromOrWithin_83 (x2) (x3) (false) σ
set_option maxHeartbeats 4000000 in
theorem w_Rg_isApartFromOrWithin_82 {b d : Nat} {sc : SC} {pre tl : List PE} {B : Nat} {Q : Option Value → List PE → Prop} {res : Bool × SG} (hB : B = b + pre.length)   (hQ : Q (some (.int (bz res.1))) (HH pre tl SHc B res.2)) (lv : LV) (σ : SG) (x2 : Bool) (x3 : Bool) (l2 : lv.lookup 2 = some (.int (bz (x2)))) (l3 : lv.lookup 3 = some (.int (bz (x3)))) (hF : F_Rg_isApartFromOrWithin_82  x2 x3 σ = some res) : Rn b sc d 115 82 lv [] (HH pre tl SHc B σ) Q := by
  unfold F_Rg_isApartFromOrWithin_82 at hF
  refine r_iconst f_Rg_isApartFromOrWithin_82 (v := 0) (by decide) ?_
  exact w_Rg_isApartFromOrWithin_83 hB   hQ _ (σ) (x2) (x3) (false) l2 l3 hF
def F_Rg_isApartFromOrWithin_55  (x0 : Nat) (x1 : Nat) (x2 : Bool) (y0 : Bool) (σ : SG) : Option (Bool × SG) :=
  if (σ.1 (x0) 0) < (σ.1 (x1) 1) then
  F_Rg_isApartFromOrWithin_82 (x2) (y0) σ
  else if (σ.1 (x1) 2) < (σ.1 (x0) 2) then
  F_Rg_isApartFromOrWithin_82 (x2) (y0) σ
  else F_Rg_isApartFromOrWithin_83 (x2) (y0) (true) σ
set_option maxHeartbeats 4000000 in
theorem w_Rg_isApartFromOrWithin_55 {b d : Nat} {sc : SC} {pre tl : List PE} {B : Nat} {Q : Option Value → List PE → Prop} {res : Bool × SG} (hB : B = b + pre.length)   (hQ : Q (some (.int (bz res.1))) (HH pre tl SHc B res.2)) (lv : LV) (σ : SG) (x0 : Nat) (x1 : Nat) (x2 : Bool) (y0 : Bool) (hx0 : isC SHc (x0) 4 = true) (hx1 : isC SHc (x1) 4 = true) (l0 : lv.lookup 0 = some (.ref (B + (x0)))) (l1 : lv.lookup 1 = some (.ref (B + (x1)))) (l2 : lv.lookup 2 = some (.int (bz (x2)))) (hF : F_Rg_isApartFromOrWithin_55  x0 x1 x2 y0 σ = some res) : Rn b sc d 115 55 lv [.int (bz (y0))] (HH pre tl SHc B σ) Q := by
  unfold F_Rg_isApartFromOrWithin_55 at hF
  refine r_istore_n f_Rg_isApartFromOrWithin_55 ?_
  refine r_aload_n f_Rg_isApartFromOrWithin_56 (lk_put_ne l0 (by decide) (Or.inl rfl)) ?_
  refine t_geti hB hx0 f_Rg_isApartFromOrWithin_57 rfl ?_
  refine r_aload_n f_Rg_isApartFromOrWithin_60 (lk_put_ne l1 (by decide) (Or.inl rfl)) ?_
  refine t_geti hB hx1 f_Rg_isApartFromOrWithin_61 rfl ?_
  refine r_icmp_lt f_Rg_isApartFromOrWithin_64 (fun c4 => ?_) (fun c4 => ?_)
  · rw [if_pos c4] at hF
    exact w_Rg_isApartFromOrWithin_82 hB   hQ _ (σ) (x2) (y0) (lk_put_ne l2 (by decide) (Or.inl rfl)) lk_put hF
  · rw [if_neg c4] at hF
    refine r_aload_n f_Rg_isApartFromOrWithin_67 (lk_put_ne l0 (by decide) (Or.inl rfl)) ?_
    refine t_geti hB hx0 f_Rg_isApartFromOrWithin_68 rfl ?_
    refine r_aload_n f_Rg_isApartFromOrWithin_71 (lk_put_ne l1 (by decide) (Or.inl rfl)) ?_
    refine t_geti hB hx1 f_Rg_isApartFromOrWithin_72 rfl ?_
    refine r_icmp_gt f_Rg_isApartFromOrWithin_75 (fun c5 => ?_) (fun c5 => ?_)
    · rw [if_pos c5] at hF
      exact w_Rg_isApartFromOrWithin_82 hB   hQ _ (σ) (x2) (y0) (lk_put_ne l2 (by decide) (Or.inl rfl)) lk_put hF
    · rw [if_neg c5] at hF
      refine r_iconst f_Rg_isApartFromOrWithin_78 (v := 1) (by decide) ?_
      refine r_goto f_Rg_isApartFromOrWithin_79 ?_
      exact w_Rg_isApartFromOrWithin_83 hB   hQ _ (σ) (x2) (y0) (true) (lk_put_ne l2 (by decide) (Or.inl rfl)) lk_put hF
def F_Rg_isApartFromOrWithin_54  (x0 : Nat) (x1 : Nat) (x2 : Bool) (σ : SG) : Option (Bool × SG) :=
  F_Rg_isApartFromOrWithin_55 (x0) (x1) (x2) (false) σ
set_option maxHeartbeats 4000000 in
theorem w_Rg_isApartFromOrWithin_54 {b d : Nat} {sc : SC} {pre tl : List PE} {B : Nat} {Q : Option Value → List PE → Prop} {res : Bool × SG} (hB : B = b + pre.length)   (hQ : Q (some (.int (bz res.1))) (HH pre tl SHc B res.2)) (lv : LV) (σ : SG) (x0 : Nat) (x1 : Nat) (x2 : Bool) (hx0 : isC SHc (x0) 4 = true) (hx1 : isC SHc (x1) 4 = true) (l0 : lv.lookup 0 = some (.ref (B + (x0)))) (l1 : lv.lookup 1 = some (.ref (B + (x1)))) (l2 : lv.lookup 2 = some (.int (bz (x2)))) (hF : F_Rg_isApartFromOrWithin_54  x0 x1 x2 σ = some res) : Rn b sc d 115 54 lv [] (HH pre tl SHc B σ) Q := by
  unfold F_Rg_isApartFromOrWithin_54 at hF
  refine r_iconst f_Rg_isApartFromOrWithin_54 (v := 0) (by decide) ?_
  exact w_Rg_isApartFromOrWithin_55 hB   hQ _ (σ) (x0) (x1) (x2) (false) hx0 hx1 l0 l1 l2 hF
def F_Rg_isApartFromOrWithin_27  (x0 : Nat) (x1 : Nat) (y0 : Bool) (σ : SG) : Option (Bool × SG) :=
  if (σ.1 (x0) 0) < (σ.1 (x1) 0) then
  F_Rg_isApartFromOrWithin_54 (x0) (x1) (y0) σ
  else if (σ.1 (x1) 1) < (σ.1 (x0) 2) then
  F_Rg_isApartFromOrWithin_54 (x0) (x1) (y0) σ
  else F_Rg_isApartFromOrWithin_55 (x0) (x1) (y0) (true) σ
set_option maxHeartbeats 4000000 in
theorem w_Rg_isApartFromOrWithin_27 {b d : Nat} {sc : SC} {pre tl : List PE} {B : Nat} {Q : Option Value → List PE → Prop} {res : Bool × SG} (hB : B = b + pre.length)   (hQ : Q (some (.int (bz res.1))) (HH pre tl SHc B res.2)) (lv : LV) (σ : SG) (x0 : Nat) (x1 : Nat) (y0 : Bool) (hx0 : isC SHc (x0) 4 = true) (hx1 : isC SHc (x1) 4 = true) (l0 : lv.lookup 0 = some (.ref (B + (x0)))) (l1 : lv.lookup 1 = some (.ref (B + (x1)))) (hF : F_Rg_isApartFromOrWithin_27  x0 x1 y0 σ = some res) : Rn b sc d 115 27 lv [.int (bz (y0))] (HH pre tl SHc B σ) Q := by
  unfold F_Rg_isApartFromOrWithin_27 at hF
  refine r_istore_n f_Rg_isApartFromOrWithin_27 ?_
  refine r_aload_n f_Rg_isApartFromOrWithin_28 (lk_put_ne l0 (by decide) (Or.inl rfl)) ?_
  refine t_geti hB hx0 f_Rg_isApartFromOrWithin_29 rfl ?_
  refine r_aload_n f_Rg_isApartFromOrWithin_32 (lk_put_ne l1 (by decide) (Or.inl rfl)) ?_
  refine t_geti hB hx1 f_Rg_isApartFromOrWithin_33 rfl ?_
  refine r_icmp_lt f_Rg_isApartFromOrWithin_36 (fun c6 => ?_) (fun c6 => ?_)
  · rw [if_pos c6] at hF
    exact w_Rg_isApartFromOrWithin_54 hB   hQ _ (σ) (x0) (x1) (y0) hx0 hx1 (lk_put_ne l0 (by decide) (Or.inl rfl)) (lk_put_ne l1 (by decide) (Or.inl rfl)) lk_put hF
  · rw [if_neg c6] at hF
    refine r_aload_n f_Rg_isApartFromOrWithin_39 (lk_put_ne l0 (by decide) (Or.inl rfl)) ?_
    refine t_geti hB hx0 f_Rg_isApartFromOrWithin_40 rfl ?_
    refine r_aload_n f_Rg_isApartFromOrWithin_43 (lk_put_ne l1 (by decide) (Or.inl rfl)) ?_
    refine t_geti hB hx1 f_Rg_isApartFromOrWithin_44 rfl ?_
    refine r_icmp_gt f_Rg_isApartFromOrWithin_47 (fun c7 => ?_) (fun c7 => ?_)
    · rw [if_pos c7] at hF
      exact w_Rg_isApartFromOrWithin_54 hB   hQ _ (σ) (x0) (x1) (y0) hx0 hx1 (lk_put_ne l0 (by decide) (Or.inl rfl)) (lk_put_ne l1 (by decide) (Or.inl rfl)) lk_put hF
    · rw [if_neg c7] at hF
      refine r_iconst f_Rg_isApartFromOrWithin_50 (v := 1) (by decide) ?_
      refine r_goto f_Rg_isApartFromOrWithin_51 ?_
      exact w_Rg_isApartFromOrWithin_55 hB   hQ _ (σ) (x0) (x1) (y0) (true) hx0 hx1 (lk_put_ne l0 (by decide) (Or.inl rfl)) (lk_put_ne l1 (by decide) (Or.inl rfl)) lk_put hF
def F_Rg_isApartFromOrWithin_22  (x0 : Nat) (x1 : Nat) (σ : SG) : Option (Bool × SG) :=
  F_Rg_isApartFromOrWithin_27 (x0) (x1) (true) σ
set_option maxHeartbeats 4000000 in
theorem w_Rg_isApartFromOrWithin_22 {b d : Nat} {sc : SC} {pre tl : List PE} {B : Nat} {Q : Option Value → List PE → Prop} {res : Bool × SG} (hB : B = b + pre.length)   (hQ : Q (some (.int (bz res.1))) (HH pre tl SHc B res.2)) (lv : LV) (σ : SG) (x0 : Nat) (x1 : Nat) (hx0 : isC SHc (x0) 4 = true) (hx1 : isC SHc (x1) 4 = true) (l0 : lv.lookup 0 = some (.ref (B + (x0)))) (l1 : lv.lookup 1 = some (.ref (B + (x1)))) (hF : F_Rg_isApartFromOrWithin_22  x0 x1 σ = some res) : Rn b sc d 115 22 lv [] (HH pre tl SHc B σ) Q := by
  unfold F_Rg_isApartFromOrWithin_22 at hF
  refine r_iconst f_Rg_isApartFromOrWithin_22 (v := 1) (by decide) ?_
  refine r_goto f_Rg_isApartFromOrWithin_23 ?_
  exact w_Rg_isApartFromOrWithin_27 hB   hQ _ (σ) (x0) (x1) (true) hx0 hx1 l0 l1 hF
def F_Rg_isApartFromOrWithin (a0 : Nat) (a1 : Nat) (σ : SG) : Option (Bool × SG) :=
  if (σ.1 (a0) 2) ≤ (σ.1 (a1) 0) then
  F_Rg_isApartFromOrWithin_22 (a0) (a1) σ
  else if (σ.1 (a0) 0) < (σ.1 (a1) 2) then
  F_Rg_isApartFromOrWithin_27 (a0) (a1) (false) σ
  else F_Rg_isApartFromOrWithin_22 (a0) (a1) σ
set_option maxHeartbeats 4000000 in
theorem w_Rg_isApartFromOrWithin {b d : Nat} {pre tl : List PE} {B : Nat} {Q : Option Value → List PE → Prop} {res : Bool × SG} (hB : B = b + pre.length)  {σ : SG} (a0 : Nat) (a1 : Nat) (ha0 : isC SHc (a0) 4 = true) (ha1 : isC SHc (a1) 4 = true) (hF : F_Rg_isApartFromOrWithin a0 a1 σ = some res) (hQ : Q (some (.int (bz res.1))) (HH pre tl SHc B res.2)) : Cl b d 115 [.ref (B + (a0)), .ref (B + (a1))] (HH pre tl SHc B σ) Q := by
  unfold Cl
  unfold F_Rg_isApartFromOrWithin at hF
  refine r_aload_n f_Rg_isApartFromOrWithin_0 rfl ?_
  refine t_geti hB ha0 f_Rg_isApartFromOrWithin_1 rfl ?_
  refine r_aload_n f_Rg_isApartFromOrWithin_4 rfl ?_
  refine t_geti hB ha1 f_Rg_isApartFromOrWithin_5 rfl ?_
  refine r_icmp_le f_Rg_isApartFromOrWithin_8 (fun c8 => ?_) (fun c8 => ?_)
  · rw [if_pos c8] at hF
    exact w_Rg_isApartFromOrWithin_22 hB   hQ _ (σ) (a0) (a1) ha0 ha1 rfl rfl hF
  · rw [if_neg c8] at hF
    refine r_aload_n f_Rg_isApartFromOrWithin_11 rfl ?_
    refine t_geti hB ha1 f_Rg_isApartFromOrWithin_12 rfl ?_
    refine r_aload_n f_Rg_isApartFromOrWithin_15 rfl ?_
    refine t_geti hB ha0 f_Rg_isApartFromOrWithin_16 rfl ?_
    refine r_icmp_gt f_Rg_isApartFromOrWithin_19 (fun c9 => ?_) (fun c9 => ?_)
    · rw [if_pos c9] at hF
      refine r_iconst f_Rg_isApartFromOrWithin_26 (v := 0) (by decide) ?_
      exact w_Rg_isApartFromOrWithin_27 hB   hQ _ (σ) (a0) (a1) (false) ha0 ha1 rfl rfl hF
    · rw [if_neg c9] at hF
      exact w_Rg_isApartFromOrWithin_22 hB   hQ _ (σ) (a0) (a1) ha0 ha1 rfl rfl hF
theorem f_Ru_drop_0 : fetch 119 0 = some (.aload_n 0, 1, 0, 0, 0) := rfl
theorem f_Ru_drop_1 : fetch 119 1 = some (.iconst 0, 1, 0, 0, 0) := rfl
theorem f_Ru_drop_2 : fetch 119 2 = some (.putfield 41, 3, 5, 9, 105) := rfl
theorem f_Ru_drop_5 : fetch 119 5 = some (.aload_n 0, 1, 0, 0, 0) := rfl
theorem f_Ru_drop_6 : fetch 119 6 = some (.iconst 0, 1, 0, 0, 0) := rfl
theorem f_Ru_drop_7 : fetch 119 7 = some (.putfield 45, 3, 5, 10, 106) := rfl
theorem f_Ru_drop_10 : fetch 119 10 = some (.return_, 1, 0, 0, 0) := rfl
def F_Ru_drop (a0 : Nat) (σ : SG) : Option (SG) :=
  stl (setI σ (a0) 9 ((0 : Int32))) fun s1 =>
  stl (setI s1 (a0) 10 ((0 : Int32))) fun s2 =>
  some s2
set_option maxHeartbeats 4000000 in
theorem w_Ru_drop {b d : Nat} {pre tl : List PE} {B : Nat} {Q : Option Value → List PE → Prop} {res : SG} (hB : B = b + pre.length)  {σ : SG} (a0 : Nat) (ha0 : isC SHc (a0) 5 = true) (hF : F_Ru_drop a0 σ = some res) (hQ : Q none (HH pre tl SHc B res)) : Cl b d 119 [.ref (B + (a0))] (HH pre tl SHc B σ) Q := by
  unfold Cl
  unfold F_Ru_drop at hF
  refine r_aload_n f_Ru_drop_0 rfl ?_
  refine r_iconst f_Ru_drop_1 (v := 0) (by decide) ?_
  refine t_puti hB ha0 f_Ru_drop_2 rfl rfl ?_
  generalize hs1 : setI σ (a0) 9 ((0 : Int32)) = s1 at hF ⊢
  rw [stl_eq] at hF
  refine r_aload_n f_Ru_drop_5 rfl ?_
  refine r_iconst f_Ru_drop_6 (v := 0) (by decide) ?_
  refine t_puti hB ha0 f_Ru_drop_7 rfl rfl ?_
  generalize hs2 : setI s1 (a0) 10 ((0 : Int32)) = s2 at hF ⊢
  rw [stl_eq] at hF
  cases hF
  exact r_return f_Ru_drop_10 hQ
theorem f_Ru_latest_0 : fetch 122 0 = some (.aload_n 0, 1, 0, 0, 0) := rfl
theorem f_Ru_latest_1 : fetch 122 1 = some (.getfield 17, 3, 5, 1, 100) := rfl
theorem f_Ru_latest_4 : fetch 122 4 = some (.aload_n 0, 1, 0, 0, 0) := rfl
theorem f_Ru_latest_5 : fetch 122 5 = some (.getfield 48, 3, 5, 11, 107) := rfl
theorem f_Ru_latest_8 : fetch 122 8 = some (.iconst 1, 1, 0, 0, 0) := rfl
theorem f_Ru_latest_9 : fetch 122 9 = some (.if_icmp .lt 21, 3, 30, 0, 0) := rfl
theorem f_Ru_latest_12 : fetch 122 12 = some (.aload_n 0, 1, 0, 0, 0) := rfl
theorem f_Ru_latest_13 : fetch 122 13 = some (.getfield 48, 3, 5, 11, 107) := rfl
theorem f_Ru_latest_16 : fetch 122 16 = some (.bipush 8, 2, 0, 0, 0) := rfl
theorem f_Ru_latest_18 : fetch 122 18 = some (.if_icmp .gt 12, 3, 30, 0, 0) := rfl
theorem f_Ru_latest_21 : fetch 122 21 = some (.aload_n 0, 1, 0, 0, 0) := rfl
theorem f_Ru_latest_22 : fetch 122 22 = some (.getfield 48, 3, 5, 11, 107) := rfl
theorem f_Ru_latest_25 : fetch 122 25 = some (.iconst 1, 1, 0, 0, 0) := rfl
theorem f_Ru_latest_26 : fetch 122 26 = some (.isub, 1, 0, 0, 0) := rfl
theorem f_Ru_latest_27 : fetch 122 27 = some (.goto 4, 3, 31, 0, 0) := rfl
theorem f_Ru_latest_30 : fetch 122 30 = some (.iconst 0, 1, 0, 0, 0) := rfl
theorem f_Ru_latest_31 : fetch 122 31 = some (.aaload, 1, 0, 0, 0) := rfl
theorem f_Ru_latest_32 : fetch 122 32 = some (.areturn, 1, 0, 0, 0) := rfl
def F_Ru_latest_31  (y0 : Nat) (y1 : Int32) (σ : SG) : Option (Option Nat × SG) :=
  if y1 < 0 ∨ 8 ≤ (y1).toNatClampNeg then none else
  some (some ((relem SHc (y0) ((y1).toNatClampNeg))), σ)
set_option maxHeartbeats 4000000 in
theorem w_Ru_latest_31 {b d : Nat} {sc : SC} {pre tl : List PE} {B : Nat} {Q : Option Value → List PE → Prop} {res : Option Nat × SG} (hB : B = b + pre.length)   (hQ : Q (some (ov B res.1)) (HH pre tl SHc B res.2)) (lv : LV) (σ : SG) (y0 : Nat) (y1 : Int32) (hy0 : isA SHc (y0) 5 8 = true) (hF : F_Ru_latest_31  y0 y1 σ = some res) : Rn b sc d 122 31 lv [.int (y1), .ref (B + (y0))] (HH pre tl SHc B σ) Q := by
  unfold F_Ru_latest_31 at hF
  by_cases c1 : y1 < 0 ∨ 8 ≤ (y1).toNatClampNeg
  · rw [if_pos c1] at hF; cases hF
  rw [if_neg c1] at hF
  refine t_aald hB hy0 (by decide) f_Ru_latest_31 c1 ?_
  cases hF
  exact r_areturn f_Ru_latest_32 hQ
def F_Ru_latest_30  (y0 : Nat) (σ : SG) : Option (Option Nat × SG) :=
  F_Ru_latest_31 (y0) ((0 : Int32)) σ
set_option maxHeartbeats 4000000 in
theorem w_Ru_latest_30 {b d : Nat} {sc : SC} {pre tl : List PE} {B : Nat} {Q : Option Value → List PE → Prop} {res : Option Nat × SG} (hB : B = b + pre.length)   (hQ : Q (some (ov B res.1)) (HH pre tl SHc B res.2)) (lv : LV) (σ : SG) (y0 : Nat) (hy0 : isA SHc (y0) 5 8 = true) (hF : F_Ru_latest_30  y0 σ = some res) : Rn b sc d 122 30 lv [.ref (B + (y0))] (HH pre tl SHc B σ) Q := by
  unfold F_Ru_latest_30 at hF
  refine r_iconst f_Ru_latest_30 (v := 0) (by decide) ?_
  exact w_Ru_latest_31 hB   hQ _ (σ) (y0) ((0 : Int32)) hy0 hF
def F_Ru_latest (a0 : Nat) (σ : SG) : Option (Option Nat × SG) :=
  if (σ.1 (a0) 11) < (1 : Int32) then
  F_Ru_latest_30 ((cref SHc (a0) 1)) σ
  else if (8 : Int32) < (σ.1 (a0) 11) then
  F_Ru_latest_30 ((cref SHc (a0) 1)) σ
  else F_Ru_latest_31 ((cref SHc (a0) 1)) (((σ.1 (a0) 11) - (1 : Int32))) σ
set_option maxHeartbeats 4000000 in
theorem w_Ru_latest {b d : Nat} {pre tl : List PE} {B : Nat} {Q : Option Value → List PE → Prop} {res : Option Nat × SG} (hB : B = b + pre.length)  {σ : SG} (a0 : Nat) (ha0 : isC SHc (a0) 5 = true) (hF : F_Ru_latest a0 σ = some res) (hQ : Q (some (ov B res.1)) (HH pre tl SHc B res.2)) : Cl b d 122 [.ref (B + (a0))] (HH pre tl SHc B σ) Q := by
  unfold Cl
  unfold F_Ru_latest at hF
  refine r_aload_n f_Ru_latest_0 rfl ?_
  refine t_getc hB ha0 f_Ru_latest_1 rfl ?_
  refine r_aload_n f_Ru_latest_4 rfl ?_
  refine t_geti hB ha0 f_Ru_latest_5 rfl ?_
  refine r_iconst f_Ru_latest_8 (v := 1) (by decide) ?_
  refine r_icmp_lt f_Ru_latest_9 (fun c2 => ?_) (fun c2 => ?_)
  · rw [if_pos c2] at hF
    exact w_Ru_latest_30 hB   hQ _ (σ) ((cref SHc (a0) 1)) (cc_5_1 ha0) hF
  · rw [if_neg c2] at hF
    refine r_aload_n f_Ru_latest_12 rfl ?_
    refine t_geti hB ha0 f_Ru_latest_13 rfl ?_
    refine r_bipush f_Ru_latest_16 (v := 8) (by decide) ?_
    refine r_icmp_gt f_Ru_latest_18 (fun c3 => ?_) (fun c3 => ?_)
    · rw [if_pos c3] at hF
      exact w_Ru_latest_30 hB   hQ _ (σ) ((cref SHc (a0) 1)) (cc_5_1 ha0) hF
    · rw [if_neg c3] at hF
      refine r_aload_n f_Ru_latest_21 rfl ?_
      refine t_geti hB ha0 f_Ru_latest_22 rfl ?_
      refine r_iconst f_Ru_latest_25 (v := 1) (by decide) ?_
      refine r_isub f_Ru_latest_26 ?_
      refine r_goto f_Ru_latest_27 ?_
      exact w_Ru_latest_31 hB   hQ _ (σ) ((cref SHc (a0) 1)) (((σ.1 (a0) 11) - (1 : Int32))) (cc_5_1 ha0) hF
theorem f_Ru_setCell_0 : fetch 123 0 = some (.iload_n 1, 1, 0, 0, 0) := rfl
theorem f_Ru_setCell_1 : fetch 123 1 = some (.ifCond .lt 19, 3, 20, 0, 0) := rfl
theorem f_Ru_setCell_4 : fetch 123 4 = some (.iload_n 1, 1, 0, 0, 0) := rfl
theorem f_Ru_setCell_5 : fetch 123 5 = some (.aload_n 0, 1, 0, 0, 0) := rfl
theorem f_Ru_setCell_6 : fetch 123 6 = some (.getfield 30, 3, 5, 2, 102) := rfl
theorem f_Ru_setCell_9 : fetch 123 9 = some (.arraylength, 1, 0, 0, 0) := rfl
theorem f_Ru_setCell_10 : fetch 123 10 = some (.if_icmp .ge 10, 3, 20, 0, 0) := rfl
theorem f_Ru_setCell_13 : fetch 123 13 = some (.aload_n 0, 1, 0, 0, 0) := rfl
theorem f_Ru_setCell_14 : fetch 123 14 = some (.getfield 30, 3, 5, 2, 102) := rfl
theorem f_Ru_setCell_17 : fetch 123 17 = some (.iload_n 1, 1, 0, 0, 0) := rfl
theorem f_Ru_setCell_18 : fetch 123 18 = some (.lload_n 2, 1, 0, 0, 0) := rfl
theorem f_Ru_setCell_19 : fetch 123 19 = some (.lastore, 1, 0, 0, 0) := rfl
theorem f_Ru_setCell_20 : fetch 123 20 = some (.return_, 1, 0, 0, 0) := rfl
def F_Ru_setCell_20   (σ : SG) : Option (SG) :=
  some σ
set_option maxHeartbeats 4000000 in
theorem w_Ru_setCell_20 {b d : Nat} {sc : SC} {pre tl : List PE} {B : Nat} {Q : Option Value → List PE → Prop} {res : SG} (hB : B = b + pre.length)   (hQ : Q none (HH pre tl SHc B res)) (lv : LV) (σ : SG)   (hF : F_Ru_setCell_20   σ = some res) : Rn b sc d 123 20 lv [] (HH pre tl SHc B σ) Q := by
  unfold F_Ru_setCell_20 at hF
  cases hF
  exact r_return f_Ru_setCell_20 hQ
def F_Ru_setCell (a0 : Nat) (a1 : Int32) (a2 : Int64) (σ : SG) : Option (SG) :=
  if a1 < 0 then
  F_Ru_setCell_20 σ
  else if (832 : Int32) ≤ a1 then
  F_Ru_setCell_20 σ
  else if a1 < 0 ∨ 832 ≤ (a1).toNatClampNeg then none else
  stl (setL σ ((cref SHc (a0) 2)) ((a1).toNatClampNeg) (a2)) fun s4 =>
  F_Ru_setCell_20 s4
set_option maxHeartbeats 4000000 in
theorem w_Ru_setCell {b d : Nat} {pre tl : List PE} {B : Nat} {Q : Option Value → List PE → Prop} {res : SG} (hB : B = b + pre.length)  {σ : SG} (a0 : Nat) (a1 : Int32) (a2 : Int64) (ha0 : isC SHc (a0) 5 = true) (hF : F_Ru_setCell a0 a1 a2 σ = some res) (hQ : Q none (HH pre tl SHc B res)) : Cl b d 123 [.ref (B + (a0)), .int (a1), .long (a2)] (HH pre tl SHc B σ) Q := by
  unfold Cl
  unfold F_Ru_setCell at hF
  refine r_iload_n f_Ru_setCell_0 rfl ?_
  refine r_if_lt f_Ru_setCell_1 (fun c1 => ?_) (fun c1 => ?_)
  · rw [if_pos c1] at hF
    exact w_Ru_setCell_20 hB   hQ _ (σ) hF
  · rw [if_neg c1] at hF
    refine r_iload_n f_Ru_setCell_4 rfl ?_
    refine r_aload_n f_Ru_setCell_5 rfl ?_
    refine t_getc hB ha0 f_Ru_setCell_6 rfl ?_
    refine t_len hB (cc_5_2 ha0) (by decide) f_Ru_setCell_9 (v := 832) (by decide) ?_
    refine r_icmp_ge f_Ru_setCell_10 (fun c2 => ?_) (fun c2 => ?_)
    · rw [if_pos c2] at hF
      exact w_Ru_setCell_20 hB   hQ _ (σ) hF
    · rw [if_neg c2] at hF
      refine r_aload_n f_Ru_setCell_13 rfl ?_
      refine t_getc hB ha0 f_Ru_setCell_14 rfl ?_
      refine r_iload_n f_Ru_setCell_17 rfl ?_
      refine r_lload_n f_Ru_setCell_18 rfl ?_
      by_cases c3 : a1 < 0 ∨ 832 ≤ (a1).toNatClampNeg
      · rw [if_pos c3] at hF; cases hF
      rw [if_neg c3] at hF
      refine t_last hB (cc_5_2 ha0) f_Ru_setCell_19 c3 ?_
      generalize hs4 : setL σ ((cref SHc (a0) 2)) ((a1).toNatClampNeg) (a2) = s4 at hF ⊢
      rw [stl_eq] at hF
      exact w_Ru_setCell_20 hB   hQ _ (s4) hF
theorem f_Ru_activate_0 : fetch 121 0 = some (.aload_n 0, 1, 0, 0, 0) := rfl
theorem f_Ru_activate_1 : fetch 121 1 = some (.aload_n 0, 1, 0, 0, 0) := rfl
theorem f_Ru_activate_2 : fetch 121 2 = some (.getfield 48, 3, 5, 11, 107) := rfl
theorem f_Ru_activate_5 : fetch 121 5 = some (.bipush 8, 2, 0, 0, 0) := rfl
theorem f_Ru_activate_7 : fetch 121 7 = some (.if_icmp .ge 12, 3, 19, 0, 0) := rfl
theorem f_Ru_activate_10 : fetch 121 10 = some (.aload_n 0, 1, 0, 0, 0) := rfl
theorem f_Ru_activate_11 : fetch 121 11 = some (.getfield 48, 3, 5, 11, 107) := rfl
theorem f_Ru_activate_14 : fetch 121 14 = some (.iconst 1, 1, 0, 0, 0) := rfl
theorem f_Ru_activate_15 : fetch 121 15 = some (.iadd, 1, 0, 0, 0) := rfl
theorem f_Ru_activate_16 : fetch 121 16 = some (.goto 5, 3, 21, 0, 0) := rfl
theorem f_Ru_activate_19 : fetch 121 19 = some (.bipush 8, 2, 0, 0, 0) := rfl
theorem f_Ru_activate_21 : fetch 121 21 = some (.putfield 48, 3, 5, 11, 107) := rfl
theorem f_Ru_activate_24 : fetch 121 24 = some (.aload_n 0, 1, 0, 0, 0) := rfl
theorem f_Ru_activate_25 : fetch 121 25 = some (.invokevirtual 62, 3, 122, 0, 116) := rfl
theorem f_Ru_activate_28 : fetch 121 28 = some (.astore_n 2, 1, 0, 0, 0) := rfl
theorem f_Ru_activate_29 : fetch 121 29 = some (.aload_n 0, 1, 0, 0, 0) := rfl
theorem f_Ru_activate_30 : fetch 121 30 = some (.getfield 11, 3, 5, 0, 99) := rfl
theorem f_Ru_activate_33 : fetch 121 33 = some (.iload_n 1, 1, 0, 0, 0) := rfl
theorem f_Ru_activate_34 : fetch 121 34 = some (.invokevirtual 66, 3, 15, 1, 117) := rfl
theorem f_Ru_activate_37 : fetch 121 37 = some (.astore_n 3, 1, 0, 0, 0) := rfl
theorem f_Ru_activate_38 : fetch 121 38 = some (.aload_n 3, 1, 0, 0, 0) := rfl
theorem f_Ru_activate_39 : fetch 121 39 = some (.ifnull 9, 3, 48, 0, 0) := rfl
theorem f_Ru_activate_42 : fetch 121 42 = some (.aload_n 2, 1, 0, 0, 0) := rfl
theorem f_Ru_activate_43 : fetch 121 43 = some (.aload_n 3, 1, 0, 0, 0) := rfl
theorem f_Ru_activate_44 : fetch 121 44 = some (.iload_n 1, 1, 0, 0, 0) := rfl
theorem f_Ru_activate_45 : fetch 121 45 = some (.invokevirtual 70, 3, 2, 2, 118) := rfl
theorem f_Ru_activate_48 : fetch 121 48 = some (.iconst 0, 1, 0, 0, 0) := rfl
theorem f_Ru_activate_49 : fetch 121 49 = some (.istore 4, 2, 0, 0, 0) := rfl
theorem f_Ru_activate_51 : fetch 121 51 = some (.iload 4, 2, 0, 0, 0) := rfl
theorem f_Ru_activate_53 : fetch 121 53 = some (.iconst 4, 1, 0, 0, 0) := rfl
theorem f_Ru_activate_54 : fetch 121 54 = some (.if_icmp .ge 21, 3, 75, 0, 0) := rfl
theorem f_Ru_activate_57 : fetch 121 57 = some (.aload_n 0, 1, 0, 0, 0) := rfl
theorem f_Ru_activate_58 : fetch 121 58 = some (.aload_n 2, 1, 0, 0, 0) := rfl
theorem f_Ru_activate_59 : fetch 121 59 = some (.getfield 74, 3, 0, 0, 109) := rfl
theorem f_Ru_activate_62 : fetch 121 62 = some (.iload 4, 2, 0, 0, 0) := rfl
theorem f_Ru_activate_64 : fetch 121 64 = some (.iadd, 1, 0, 0, 0) := rfl
theorem f_Ru_activate_65 : fetch 121 65 = some (.lconst 0, 1, 0, 0, 0) := rfl
theorem f_Ru_activate_66 : fetch 121 66 = some (.invokevirtual 77, 3, 123, 2, 119) := rfl
theorem f_Ru_activate_69 : fetch 121 69 = some (.iinc 4 1, 3, 0, 0, 0) := rfl
theorem f_Ru_activate_72 : fetch 121 72 = some (.goto (-21), 3, 51, 0, 0) := rfl
theorem f_Ru_activate_75 : fetch 121 75 = some (.aload_n 2, 1, 0, 0, 0) := rfl
theorem f_Ru_activate_76 : fetch 121 76 = some (.areturn, 1, 0, 0, 0) := rfl
def F_Ru_activate_51  : Nat → Nat → Option Nat → Int32 → SG → Option (Option Nat × SG)
  | 0, _, _, _, _ => none
  | n + 1, x0, x2, x4, σ =>
  if (4 : Int32) ≤ x4 then
  some (x2, σ)
  else match x2 with
  | none => none
  | some k2 => if isC SHc k2 0 = true then
  match F_Ru_setCell (x0) (((σ.1 (k2) 0) + x4)) ((0 : Int64)) σ with
  | none => none
  | some q4 =>
  F_Ru_activate_51  n (x0) (some (k2)) ((x4 + 1)) q4
  else none
set_option maxHeartbeats 4000000 in
theorem w_Ru_activate_51 {b d : Nat} {sc : SC} {pre tl : List PE} {B : Nat} {Q : Option Value → List PE → Prop} {res : Option Nat × SG} (hB : B = b + pre.length) (hd : 1 ≤ d)   (hQ : Q (some (ov B res.1)) (HH pre tl SHc B res.2)) : ∀ (n : Nat) (lv : LV) (σ : SG) (x0 : Nat) (x2 : Option Nat) (x4 : Int32), isC SHc (x0) 5 = true → lv.lookup 0 = some (.ref (B + (x0))) → lv.lookup 2 = some (ov B (x2)) → lv.lookup 4 = some (.int (x4)) → F_Ru_activate_51  n x0 x2 x4 σ = some res → Rn b sc d 121 51 lv [] (HH pre tl SHc B σ) Q := by
  obtain ⟨e0, rfl⟩ : ∃ e, d = e + 1 := ⟨d - 1, by omega⟩
  intro n
  induction n with
  | zero => intro lv σ x0 x2 x4 hx0 l0 l2 l4 hF; cases hF
  | succ n ih =>
    intro lv σ x0 x2 x4 hx0 l0 l2 l4 hF
    unfold F_Ru_activate_51 at hF
    refine r_iload f_Ru_activate_51 l4 ?_
    refine r_iconst f_Ru_activate_53 (v := 4) (by decide) ?_
    refine r_icmp_ge f_Ru_activate_54 (fun c1 => ?_) (fun c1 => ?_)
    · rw [if_pos c1] at hF
      refine r_aload_n_O f_Ru_activate_75 l2 ?_
      cases hF
      exact r_areturn_O f_Ru_activate_76 hQ
    · rw [if_neg c1] at hF
      refine r_aload_n f_Ru_activate_57 l0 ?_
      refine r_aload_n_O f_Ru_activate_58 l2 ?_
      cases c3 : (x2 : Option Nat) with
      | none => simp only [c3] at hF; cases hF
      | some k2 =>
        simp only [c3] at *
        by_cases c3k : isC SHc k2 0 = true
        · rw [if_pos c3k] at hF
          try simp only [ov]
          refine t_geti hB c3k f_Ru_activate_59 rfl ?_
          refine r_iload f_Ru_activate_62 l4 ?_
          refine r_iadd f_Ru_activate_64 ?_
          refine r_lconst f_Ru_activate_65 (v := 0) (by decide) ?_
          cases hq4 : F_Ru_setCell (x0) (((σ.1 (k2) 0) + x4)) ((0 : Int64)) σ with
          | none => simp only [hq4] at hF; cases hF
          | some q4 =>
            simp only [hq4] at hF
            refine t_V2v hB hx0 rfl rfl f_Ru_activate_66 (by decide) (Nat.le_of_ble_eq_true rfl) (Nat.le_of_ble_eq_true rfl) (w_Ru_setCell hB  (x0) (((σ.1 (k2) 0) + x4)) ((0 : Int64)) hx0 hq4 ⟨rfl, ?_⟩)
            refine r_iinc f_Ru_activate_69 l4 (w := x4 + 1) rfl ?_
            refine r_goto f_Ru_activate_72 ?_
            exact ih _ (q4) (x0) (some (k2)) ((x4 + 1)) hx0 (lk_put_ne l0 (by decide) (Or.inl rfl)) (lk_put_ne l2 (by decide) (Or.inl rfl)) lk_put hF
        · rw [if_neg c3k] at hF; cases hF
def F_Ru_activate_48  (x0 : Nat) (x2 : Option Nat) (σ : SG) : Option (Option Nat × SG) :=
  F_Ru_activate_51  5000 (x0) (x2) ((0 : Int32)) σ
set_option maxHeartbeats 4000000 in
theorem w_Ru_activate_48 {b d : Nat} {sc : SC} {pre tl : List PE} {B : Nat} {Q : Option Value → List PE → Prop} {res : Option Nat × SG} (hB : B = b + pre.length) (hd : 1 ≤ d)   (hQ : Q (some (ov B res.1)) (HH pre tl SHc B res.2)) (lv : LV) (σ : SG) (x0 : Nat) (x2 : Option Nat) (hx0 : isC SHc (x0) 5 = true) (l0 : lv.lookup 0 = some (.ref (B + (x0)))) (l2 : lv.lookup 2 = some (ov B (x2))) (hF : F_Ru_activate_48  x0 x2 σ = some res) : Rn b sc d 121 48 lv [] (HH pre tl SHc B σ) Q := by
  obtain ⟨e0, rfl⟩ : ∃ e, d = e + 1 := ⟨d - 1, by omega⟩
  unfold F_Ru_activate_48 at hF
  refine r_iconst f_Ru_activate_48 (v := 0) (by decide) ?_
  refine r_istore f_Ru_activate_49 ?_
  exact w_Ru_activate_51 hB hd  hQ 5000 _ (σ) (x0) (x2) ((0 : Int32)) hx0 (lk_put_ne l0 (by decide) (Or.inl rfl)) (lk_put_ne l2 (by decide) (Or.inl (catO _ _))) lk_put hF
def F_Ru_activate_21  (x0 : Nat) (x1 : Int32) (y0 : Nat) (y1 : Int32) (σ : SG) : Option (Option Nat × SG) :=
  stl (setI σ (y0) 11 (y1)) fun s5 =>
  match F_Ru_latest (x0) s5 with
  | none => none
  | some q6 =>
  if isC SHc ((q6.2.2.2.1 (x0) 0)) 1 = true then
  match F_Im_method ((q6.2.2.2.1 (x0) 0)) (x1) q6.2 with
  | none => none
  | some q8 =>
  match q8.1 with
  | none => F_Ru_activate_48 (x0) (q6.1) q8.2
  | some k9 => if isC SHc k9 2 = true then
  match q6.1 with
  | none => none
  | some k11 => if isC SHc k11 0 = true then
  match F_Fr_begin (k11) (k9) (x1) q8.2 with
  | none => none
  | some q13 =>
  F_Ru_activate_48 (x0) (some (k11)) q13
  else none
  else none
  else none
set_option maxHeartbeats 4000000 in
theorem w_Ru_activate_21 {b d : Nat} {sc : SC} {pre tl : List PE} {B : Nat} {Q : Option Value → List PE → Prop} {res : Option Nat × SG} (hB : B = b + pre.length) (hd : 1 ≤ d)   (hQ : Q (some (ov B res.1)) (HH pre tl SHc B res.2)) (lv : LV) (σ : SG) (x0 : Nat) (x1 : Int32) (y0 : Nat) (y1 : Int32) (hx0 : isC SHc (x0) 5 = true) (hy0 : isC SHc (y0) 5 = true) (l0 : lv.lookup 0 = some (.ref (B + (x0)))) (l1 : lv.lookup 1 = some (.int (x1))) (hF : F_Ru_activate_21  x0 x1 y0 y1 σ = some res) : Rn b sc d 121 21 lv [.int (y1), .ref (B + (y0))] (HH pre tl SHc B σ) Q := by
  obtain ⟨e0, rfl⟩ : ∃ e, d = e + 1 := ⟨d - 1, by omega⟩
  unfold F_Ru_activate_21 at hF
  refine t_puti hB hy0 f_Ru_activate_21 rfl rfl ?_
  generalize hs5 : setI σ (y0) 11 (y1) = s5 at hF ⊢
  rw [stl_eq] at hF
  refine r_aload_n f_Ru_activate_24 l0 ?_
  cases hq6 : F_Ru_latest (x0) s5 with
  | none => simp only [hq6] at hF; cases hF
  | some q6 =>
    simp only [hq6] at hF
    refine t_V0o hB hx0 rfl rfl f_Ru_activate_25 (by decide) (Nat.le_of_ble_eq_true rfl) (Nat.le_of_ble_eq_true rfl) (w_Ru_latest hB  (x0) hx0 hq6 ⟨_, rfl, ?_⟩)
    refine r_astore_n_O f_Ru_activate_28 ?_
    refine r_aload_n f_Ru_activate_29 (lk_put_ne l0 (by decide) (Or.inl rfl)) ?_
    by_cases c7 : isC SHc ((q6.2.2.2.1 (x0) 0)) 1 = true
    case neg => rw [if_neg c7] at hF; cases hF
    rw [if_pos c7] at hF
    refine t_getm hB hx0 f_Ru_activate_30 rfl ?_
    refine r_iload_n f_Ru_activate_33 (lk_put_ne l1 (by decide) (Or.inl rfl)) ?_
    cases hq8 : F_Im_method ((q6.2.2.2.1 (x0) 0)) (x1) q6.2 with
    | none => simp only [hq8] at hF; cases hF
    | some q8 =>
      simp only [hq8] at hF
      refine t_V1o hB c7 rfl rfl f_Ru_activate_34 (by decide) (Nat.le_of_ble_eq_true rfl) (Nat.le_of_ble_eq_true rfl) (w_Im_method hB  ((q6.2.2.2.1 (x0) 0)) (x1) c7 hq8 ⟨_, rfl, ?_⟩)
      refine r_astore_n_O f_Ru_activate_37 ?_
      refine r_aload_n_O f_Ru_activate_38 lk_put ?_
      cases c10 : (q8.1 : Option Nat) with
      | none =>
        simp only [c10] at *
        refine r_ifnullT f_Ru_activate_39 ?_
        exact w_Ru_activate_48 hB hd  hQ _ (q8.2) (x0) (q6.1) hx0 (lk_put_ne (lk_put_ne l0 (by decide) (Or.inl rfl)) (by decide) (Or.inl rfl)) (lk_put_ne lk_put (by decide) (Or.inl (catO _ _))) hF
      | some k9 =>
        simp only [c10] at *
        by_cases c10k : isC SHc k9 2 = true
        · rw [if_pos c10k] at hF
          refine r_ifnullF f_Ru_activate_39 ?_
          refine r_aload_n_O f_Ru_activate_42 (lk_put_ne lk_put (by decide) (Or.inl (catO _ _))) ?_
          refine r_aload_n f_Ru_activate_43 lk_put ?_
          refine r_iload_n f_Ru_activate_44 (lk_put_ne (lk_put_ne l1 (by decide) (Or.inl rfl)) (by decide) (Or.inl rfl)) ?_
          cases c12 : (q6.1 : Option Nat) with
          | none => simp only [c12] at hF; cases hF
          | some k11 =>
            simp only [c12] at *
            by_cases c12k : isC SHc k11 0 = true
            · rw [if_pos c12k] at hF
              try simp only [ov]
              cases hq13 : F_Fr_begin (k11) (k9) (x1) q8.2 with
              | none => simp only [hq13] at hF; cases hF
              | some q13 =>
                simp only [hq13] at hF
                refine t_V2v hB c12k rfl rfl f_Ru_activate_45 (by decide) (Nat.le_of_ble_eq_true rfl) (Nat.le_of_ble_eq_true rfl) (w_Fr_begin hB  (k11) (k9) (x1) c12k c10k hq13 ⟨rfl, ?_⟩)
                exact w_Ru_activate_48 hB hd  hQ _ (q13) (x0) (some (k11)) hx0 (lk_put_ne (lk_put_ne l0 (by decide) (Or.inl rfl)) (by decide) (Or.inl rfl)) (lk_put_ne lk_put (by decide) (Or.inl (catO _ _))) hF
            · rw [if_neg c12k] at hF; cases hF
        · rw [if_neg c10k] at hF; cases hF
def F_Ru_activate (a0 : Nat) (a1 : Int32) (σ : SG) : Option (Option Nat × SG) :=
  if (8 : Int32) ≤ (σ.1 (a0) 11) then
  F_Ru_activate_21 (a0) (a1) (a0) ((8 : Int32)) σ
  else F_Ru_activate_21 (a0) (a1) (a0) (((σ.1 (a0) 11) + (1 : Int32))) σ
set_option maxHeartbeats 4000000 in
theorem w_Ru_activate {b d : Nat} {pre tl : List PE} {B : Nat} {Q : Option Value → List PE → Prop} {res : Option Nat × SG} (hB : B = b + pre.length) (hd : 1 ≤ d)  {σ : SG} (a0 : Nat) (a1 : Int32) (ha0 : isC SHc (a0) 5 = true) (hF : F_Ru_activate a0 a1 σ = some res) (hQ : Q (some (ov B res.1)) (HH pre tl SHc B res.2)) : Cl b d 121 [.ref (B + (a0)), .int (a1)] (HH pre tl SHc B σ) Q := by
  obtain ⟨e0, rfl⟩ : ∃ e, d = e + 1 := ⟨d - 1, by omega⟩
  unfold Cl
  unfold F_Ru_activate at hF
  refine r_aload_n f_Ru_activate_0 rfl ?_
  refine r_aload_n f_Ru_activate_1 rfl ?_
  refine t_geti hB ha0 f_Ru_activate_2 rfl ?_
  refine r_bipush f_Ru_activate_5 (v := 8) (by decide) ?_
  refine r_icmp_ge f_Ru_activate_7 (fun c14 => ?_) (fun c14 => ?_)
  · rw [if_pos c14] at hF
    refine r_bipush f_Ru_activate_19 (v := 8) (by decide) ?_
    exact w_Ru_activate_21 hB hd  hQ _ (σ) (a0) (a1) (a0) ((8 : Int32)) ha0 ha0 rfl rfl hF
  · rw [if_neg c14] at hF
    refine r_aload_n f_Ru_activate_10 rfl ?_
    refine t_geti hB ha0 f_Ru_activate_11 rfl ?_
    refine r_iconst f_Ru_activate_14 (v := 1) (by decide) ?_
    refine r_iadd f_Ru_activate_15 ?_
    refine r_goto f_Ru_activate_16 ?_
    exact w_Ru_activate_21 hB hd  hQ _ (σ) (a0) (a1) (a0) (((σ.1 (a0) 11) + (1 : Int32))) ha0 ha0 rfl rfl hF
theorem f_Ru_begin_0 : fetch 120 0 = some (.aload_n 0, 1, 0, 0, 0) := rfl
theorem f_Ru_begin_1 : fetch 120 1 = some (.aload_n 1, 1, 0, 0, 0) := rfl
theorem f_Ru_begin_2 : fetch 120 2 = some (.putfield 11, 3, 5, 0, 99) := rfl
theorem f_Ru_begin_5 : fetch 120 5 = some (.aload_n 0, 1, 0, 0, 0) := rfl
theorem f_Ru_begin_6 : fetch 120 6 = some (.iconst 1, 1, 0, 0, 0) := rfl
theorem f_Ru_begin_7 : fetch 120 7 = some (.putfield 41, 3, 5, 9, 105) := rfl
theorem f_Ru_begin_10 : fetch 120 10 = some (.aload_n 0, 1, 0, 0, 0) := rfl
theorem f_Ru_begin_11 : fetch 120 11 = some (.iconst 0, 1, 0, 0, 0) := rfl
theorem f_Ru_begin_12 : fetch 120 12 = some (.putfield 45, 3, 5, 10, 106) := rfl
theorem f_Ru_begin_15 : fetch 120 15 = some (.aload_n 0, 1, 0, 0, 0) := rfl
theorem f_Ru_begin_16 : fetch 120 16 = some (.iconst 0, 1, 0, 0, 0) := rfl
theorem f_Ru_begin_17 : fetch 120 17 = some (.putfield 48, 3, 5, 11, 107) := rfl
theorem f_Ru_begin_20 : fetch 120 20 = some (.aload_n 0, 1, 0, 0, 0) := rfl
theorem f_Ru_begin_21 : fetch 120 21 = some (.iconst 0, 1, 0, 0, 0) := rfl
theorem f_Ru_begin_22 : fetch 120 22 = some (.putfield 51, 3, 5, 12, 108) := rfl
theorem f_Ru_begin_25 : fetch 120 25 = some (.iconst 0, 1, 0, 0, 0) := rfl
theorem f_Ru_begin_26 : fetch 120 26 = some (.istore 5, 2, 0, 0, 0) := rfl
theorem f_Ru_begin_28 : fetch 120 28 = some (.iload 5, 2, 0, 0, 0) := rfl
theorem f_Ru_begin_30 : fetch 120 30 = some (.aload_n 0, 1, 0, 0, 0) := rfl
theorem f_Ru_begin_31 : fetch 120 31 = some (.getfield 38, 3, 5, 4, 104) := rfl
theorem f_Ru_begin_34 : fetch 120 34 = some (.arraylength, 1, 0, 0, 0) := rfl
theorem f_Ru_begin_35 : fetch 120 35 = some (.if_icmp .ge 17, 3, 52, 0, 0) := rfl
theorem f_Ru_begin_38 : fetch 120 38 = some (.aload_n 0, 1, 0, 0, 0) := rfl
theorem f_Ru_begin_39 : fetch 120 39 = some (.getfield 38, 3, 5, 4, 104) := rfl
theorem f_Ru_begin_42 : fetch 120 42 = some (.iload 5, 2, 0, 0, 0) := rfl
theorem f_Ru_begin_44 : fetch 120 44 = some (.iconst 0, 1, 0, 0, 0) := rfl
theorem f_Ru_begin_45 : fetch 120 45 = some (.iastore, 1, 0, 0, 0) := rfl
theorem f_Ru_begin_46 : fetch 120 46 = some (.iinc 5 1, 3, 0, 0, 0) := rfl
theorem f_Ru_begin_49 : fetch 120 49 = some (.goto (-21), 3, 28, 0, 0) := rfl
theorem f_Ru_begin_52 : fetch 120 52 = some (.aload_n 0, 1, 0, 0, 0) := rfl
theorem f_Ru_begin_53 : fetch 120 53 = some (.iload_n 2, 1, 0, 0, 0) := rfl
theorem f_Ru_begin_54 : fetch 120 54 = some (.invokevirtual 54, 3, 121, 1, 114) := rfl
theorem f_Ru_begin_57 : fetch 120 57 = some (.astore 5, 2, 0, 0, 0) := rfl
theorem f_Ru_begin_59 : fetch 120 59 = some (.aload 5, 2, 0, 0, 0) := rfl
theorem f_Ru_begin_61 : fetch 120 61 = some (.iconst 0, 1, 0, 0, 0) := rfl
theorem f_Ru_begin_62 : fetch 120 62 = some (.iload_n 3, 1, 0, 0, 0) := rfl
theorem f_Ru_begin_63 : fetch 120 63 = some (.i2l, 1, 0, 0, 0) := rfl
theorem f_Ru_begin_64 : fetch 120 64 = some (.invokevirtual 58, 3, 3, 2, 115) := rfl
theorem f_Ru_begin_67 : fetch 120 67 = some (.aload 5, 2, 0, 0, 0) := rfl
theorem f_Ru_begin_69 : fetch 120 69 = some (.iconst 1, 1, 0, 0, 0) := rfl
theorem f_Ru_begin_70 : fetch 120 70 = some (.iload 4, 2, 0, 0, 0) := rfl
theorem f_Ru_begin_72 : fetch 120 72 = some (.i2l, 1, 0, 0, 0) := rfl
theorem f_Ru_begin_73 : fetch 120 73 = some (.invokevirtual 58, 3, 3, 2, 115) := rfl
theorem f_Ru_begin_76 : fetch 120 76 = some (.aload 5, 2, 0, 0, 0) := rfl
theorem f_Ru_begin_78 : fetch 120 78 = some (.iconst 2, 1, 0, 0, 0) := rfl
theorem f_Ru_begin_79 : fetch 120 79 = some (.lconst 0, 1, 0, 0, 0) := rfl
theorem f_Ru_begin_80 : fetch 120 80 = some (.invokevirtual 58, 3, 3, 2, 115) := rfl
theorem f_Ru_begin_83 : fetch 120 83 = some (.return_, 1, 0, 0, 0) := rfl
def F_Ru_begin_28  : Nat → Nat → Int32 → Int32 → Int32 → Int32 → SG → Option (SG)
  | 0, _, _, _, _, _, _ => none
  | n + 1, x0, x2, x3, x4, x5, σ =>
  if (18 : Int32) ≤ x5 then
  match F_Ru_activate (x0) (x2) σ with
  | none => none
  | some q2 =>
  match q2.1 with
  | none => none
  | some k3 => if isC SHc k3 0 = true then
  match F_Fr_setArgument (k3) ((0 : Int32)) (((x3 : Int32).toInt64)) q2.2 with
  | none => none
  | some q5 =>
  match F_Fr_setArgument (k3) ((1 : Int32)) (((x4 : Int32).toInt64)) q5 with
  | none => none
  | some q6 =>
  match F_Fr_setArgument (k3) ((2 : Int32)) ((0 : Int64)) q6 with
  | none => none
  | some q7 =>
  some q7
  else none
  else if x5 < 0 ∨ 18 ≤ (x5).toNatClampNeg then none else
  stl (setA σ ((cref SHc (x0) 4)) ((x5).toNatClampNeg) ((0 : Int32))) fun s9 =>
  F_Ru_begin_28  n (x0) (x2) (x3) (x4) ((x5 + 1)) s9
set_option maxHeartbeats 4000000 in
theorem w_Ru_begin_28 {b d : Nat} {sc : SC} {pre tl : List PE} {B : Nat} {Q : Option Value → List PE → Prop} {res : SG} (hB : B = b + pre.length) (hd : 2 ≤ d)   (hQ : Q none (HH pre tl SHc B res)) : ∀ (n : Nat) (lv : LV) (σ : SG) (x0 : Nat) (x2 : Int32) (x3 : Int32) (x4 : Int32) (x5 : Int32), isC SHc (x0) 5 = true → lv.lookup 0 = some (.ref (B + (x0))) → lv.lookup 2 = some (.int (x2)) → lv.lookup 3 = some (.int (x3)) → lv.lookup 4 = some (.int (x4)) → lv.lookup 5 = some (.int (x5)) → F_Ru_begin_28  n x0 x2 x3 x4 x5 σ = some res → Rn b sc d 120 28 lv [] (HH pre tl SHc B σ) Q := by
  obtain ⟨e0, rfl⟩ : ∃ e, d = e + 1 := ⟨d - 1, by omega⟩
  intro n
  induction n with
  | zero => intro lv σ x0 x2 x3 x4 x5 hx0 l0 l2 l3 l4 l5 hF; cases hF
  | succ n ih =>
    intro lv σ x0 x2 x3 x4 x5 hx0 l0 l2 l3 l4 l5 hF
    unfold F_Ru_begin_28 at hF
    refine r_iload f_Ru_begin_28 l5 ?_
    refine r_aload_n f_Ru_begin_30 l0 ?_
    refine t_getc hB hx0 f_Ru_begin_31 rfl ?_
    refine t_len hB (cc_5_4 hx0) (by decide) f_Ru_begin_34 (v := 18) (by decide) ?_
    refine r_icmp_ge f_Ru_begin_35 (fun c1 => ?_) (fun c1 => ?_)
    · rw [if_pos c1] at hF
      refine r_aload_n f_Ru_begin_52 l0 ?_
      refine r_iload_n f_Ru_begin_53 l2 ?_
      cases hq2 : F_Ru_activate (x0) (x2) σ with
      | none => simp only [hq2] at hF; cases hF
      | some q2 =>
        simp only [hq2] at hF
        refine t_V1o hB hx0 rfl rfl f_Ru_begin_54 (by decide) (Nat.le_of_ble_eq_true rfl) (Nat.le_of_ble_eq_true rfl) (w_Ru_activate hB (by omega) (x0) (x2) hx0 hq2 ⟨_, rfl, ?_⟩)
        refine r_astore_O f_Ru_begin_57 ?_
        refine r_aload_O f_Ru_begin_59 lk_put ?_
        refine r_iconst f_Ru_begin_61 (v := 0) (by decide) ?_
        refine r_iload_n f_Ru_begin_62 (lk_put_ne l3 (by decide) (Or.inl rfl)) ?_
        refine r_i2l f_Ru_begin_63 ?_
        cases c4 : (q2.1 : Option Nat) with
        | none => simp only [c4] at hF; cases hF
        | some k3 =>
          simp only [c4] at *
          by_cases c4k : isC SHc k3 0 = true
          · rw [if_pos c4k] at hF
            try simp only [ov]
            cases hq5 : F_Fr_setArgument (k3) ((0 : Int32)) (((x3 : Int32).toInt64)) q2.2 with
            | none => simp only [hq5] at hF; cases hF
            | some q5 =>
              simp only [hq5] at hF
              refine t_V2v hB c4k rfl rfl f_Ru_begin_64 (by decide) (Nat.le_of_ble_eq_true rfl) (Nat.le_of_ble_eq_true rfl) (w_Fr_setArgument hB  (k3) ((0 : Int32)) (((x3 : Int32).toInt64)) c4k hq5 ⟨rfl, ?_⟩)
              refine r_aload f_Ru_begin_67 lk_put ?_
              refine r_iconst f_Ru_begin_69 (v := 1) (by decide) ?_
              refine r_iload f_Ru_begin_70 (lk_put_ne l4 (by decide) (Or.inl rfl)) ?_
              refine r_i2l f_Ru_begin_72 ?_
              cases hq6 : F_Fr_setArgument (k3) ((1 : Int32)) (((x4 : Int32).toInt64)) q5 with
              | none => simp only [hq6] at hF; cases hF
              | some q6 =>
                simp only [hq6] at hF
                refine t_V2v hB c4k rfl rfl f_Ru_begin_73 (by decide) (Nat.le_of_ble_eq_true rfl) (Nat.le_of_ble_eq_true rfl) (w_Fr_setArgument hB  (k3) ((1 : Int32)) (((x4 : Int32).toInt64)) c4k hq6 ⟨rfl, ?_⟩)
                refine r_aload f_Ru_begin_76 lk_put ?_
                refine r_iconst f_Ru_begin_78 (v := 2) (by decide) ?_
                refine r_lconst f_Ru_begin_79 (v := 0) (by decide) ?_
                cases hq7 : F_Fr_setArgument (k3) ((2 : Int32)) ((0 : Int64)) q6 with
                | none => simp only [hq7] at hF; cases hF
                | some q7 =>
                  simp only [hq7] at hF
                  refine t_V2v hB c4k rfl rfl f_Ru_begin_80 (by decide) (Nat.le_of_ble_eq_true rfl) (Nat.le_of_ble_eq_true rfl) (w_Fr_setArgument hB  (k3) ((2 : Int32)) ((0 : Int64)) c4k hq7 ⟨rfl, ?_⟩)
                  cases hF
                  exact r_return f_Ru_begin_83 hQ
          · rw [if_neg c4k] at hF; cases hF
    · rw [if_neg c1] at hF
      refine r_aload_n f_Ru_begin_38 l0 ?_
      refine t_getc hB hx0 f_Ru_begin_39 rfl ?_
      refine r_iload f_Ru_begin_42 l5 ?_
      refine r_iconst f_Ru_begin_44 (v := 0) (by decide) ?_
      by_cases c8 : x5 < 0 ∨ 18 ≤ (x5).toNatClampNeg
      · rw [if_pos c8] at hF; cases hF
      rw [if_neg c8] at hF
      refine t_iast hB (cc_5_4 hx0) f_Ru_begin_45 c8 ?_
      generalize hs9 : setA σ ((cref SHc (x0) 4)) ((x5).toNatClampNeg) ((0 : Int32)) = s9 at hF ⊢
      rw [stl_eq] at hF
      refine r_iinc f_Ru_begin_46 l5 (w := x5 + 1) rfl ?_
      refine r_goto f_Ru_begin_49 ?_
      exact ih _ (s9) (x0) (x2) (x3) (x4) ((x5 + 1)) hx0 (lk_put_ne l0 (by decide) (Or.inl rfl)) (lk_put_ne l2 (by decide) (Or.inl rfl)) (lk_put_ne l3 (by decide) (Or.inl rfl)) (lk_put_ne l4 (by decide) (Or.inl rfl)) lk_put hF
def F_Ru_begin (a0 : Nat) (a1 : Nat) (a2 : Int32) (a3 : Int32) (a4 : Int32) (σ : SG) : Option (SG) :=
  stl (setP σ (a0) 0 (a1)) fun s10 =>
  stl (setI s10 (a0) 9 ((1 : Int32))) fun s11 =>
  stl (setI s11 (a0) 10 ((0 : Int32))) fun s12 =>
  stl (setI s12 (a0) 11 ((0 : Int32))) fun s13 =>
  stl (setI s13 (a0) 12 ((0 : Int32))) fun s14 =>
  F_Ru_begin_28  5000 (a0) (a2) (a3) (a4) ((0 : Int32)) s14
set_option maxHeartbeats 4000000 in
theorem w_Ru_begin {b d : Nat} {pre tl : List PE} {B : Nat} {Q : Option Value → List PE → Prop} {res : SG} (hB : B = b + pre.length) (hd : 2 ≤ d)  {σ : SG} (a0 : Nat) (a1 : Nat) (a2 : Int32) (a3 : Int32) (a4 : Int32) (ha0 : isC SHc (a0) 5 = true) (ha1 : isC SHc (a1) 1 = true) (hF : F_Ru_begin a0 a1 a2 a3 a4 σ = some res) (hQ : Q none (HH pre tl SHc B res)) : Cl b d 120 [.ref (B + (a0)), .ref (B + (a1)), .int (a2), .int (a3), .int (a4)] (HH pre tl SHc B σ) Q := by
  obtain ⟨e0, rfl⟩ : ∃ e, d = e + 1 := ⟨d - 1, by omega⟩
  unfold Cl
  unfold F_Ru_begin at hF
  refine r_aload_n f_Ru_begin_0 rfl ?_
  refine r_aload_n f_Ru_begin_1 rfl ?_
  refine t_putm hB ha0 f_Ru_begin_2 rfl rfl ?_
  generalize hs10 : setP σ (a0) 0 (a1) = s10 at hF ⊢
  rw [stl_eq] at hF
  refine r_aload_n f_Ru_begin_5 rfl ?_
  refine r_iconst f_Ru_begin_6 (v := 1) (by decide) ?_
  refine t_puti hB ha0 f_Ru_begin_7 rfl rfl ?_
  generalize hs11 : setI s10 (a0) 9 ((1 : Int32)) = s11 at hF ⊢
  rw [stl_eq] at hF
  refine r_aload_n f_Ru_begin_10 rfl ?_
  refine r_iconst f_Ru_begin_11 (v := 0) (by decide) ?_
  refine t_puti hB ha0 f_Ru_begin_12 rfl rfl ?_
  generalize hs12 : setI s11 (a0) 10 ((0 : Int32)) = s12 at hF ⊢
  rw [stl_eq] at hF
  refine r_aload_n f_Ru_begin_15 rfl ?_
  refine r_iconst f_Ru_begin_16 (v := 0) (by decide) ?_
  refine t_puti hB ha0 f_Ru_begin_17 rfl rfl ?_
  generalize hs13 : setI s12 (a0) 11 ((0 : Int32)) = s13 at hF ⊢
  rw [stl_eq] at hF
  refine r_aload_n f_Ru_begin_20 rfl ?_
  refine r_iconst f_Ru_begin_21 (v := 0) (by decide) ?_
  refine t_puti hB ha0 f_Ru_begin_22 rfl rfl ?_
  generalize hs14 : setI s13 (a0) 12 ((0 : Int32)) = s14 at hF ⊢
  rw [stl_eq] at hF
  refine r_iconst f_Ru_begin_25 (v := 0) (by decide) ?_
  refine r_istore f_Ru_begin_26 ?_
  exact w_Ru_begin_28 hB hd  hQ 5000 _ (s14) (a0) (a2) (a3) (a4) ((0 : Int32)) ha0 (lk_put_ne rfl (by decide) (Or.inl rfl)) (lk_put_ne rfl (by decide) (Or.inl rfl)) (lk_put_ne rfl (by decide) (Or.inl rfl)) (lk_put_ne rfl (by decide) (Or.inl rfl)) lk_put hF
theorem f_Ru_cell_0 : fetch 126 0 = some (.iload_n 1, 1, 0, 0, 0) := rfl
theorem f_Ru_cell_1 : fetch 126 1 = some (.ifCond .lt 12, 3, 13, 0, 0) := rfl
theorem f_Ru_cell_4 : fetch 126 4 = some (.iload_n 1, 1, 0, 0, 0) := rfl
theorem f_Ru_cell_5 : fetch 126 5 = some (.aload_n 0, 1, 0, 0, 0) := rfl
theorem f_Ru_cell_6 : fetch 126 6 = some (.getfield 30, 3, 5, 2, 102) := rfl
theorem f_Ru_cell_9 : fetch 126 9 = some (.arraylength, 1, 0, 0, 0) := rfl
theorem f_Ru_cell_10 : fetch 126 10 = some (.if_icmp .lt 7, 3, 17, 0, 0) := rfl
theorem f_Ru_cell_13 : fetch 126 13 = some (.lconst 0, 1, 0, 0, 0) := rfl
theorem f_Ru_cell_14 : fetch 126 14 = some (.goto 9, 3, 23, 0, 0) := rfl
theorem f_Ru_cell_17 : fetch 126 17 = some (.aload_n 0, 1, 0, 0, 0) := rfl
theorem f_Ru_cell_18 : fetch 126 18 = some (.getfield 30, 3, 5, 2, 102) := rfl
theorem f_Ru_cell_21 : fetch 126 21 = some (.iload_n 1, 1, 0, 0, 0) := rfl
theorem f_Ru_cell_22 : fetch 126 22 = some (.laload, 1, 0, 0, 0) := rfl
theorem f_Ru_cell_23 : fetch 126 23 = some (.lreturn, 1, 0, 0, 0) := rfl
def F_Ru_cell_23  (y0 : Int64) (σ : SG) : Option (Int64 × SG) :=
  some (y0, σ)
set_option maxHeartbeats 4000000 in
theorem w_Ru_cell_23 {b d : Nat} {sc : SC} {pre tl : List PE} {B : Nat} {Q : Option Value → List PE → Prop} {res : Int64 × SG} (hB : B = b + pre.length)   (hQ : Q (some (.long res.1)) (HH pre tl SHc B res.2)) (lv : LV) (σ : SG) (y0 : Int64)  (hF : F_Ru_cell_23  y0 σ = some res) : Rn b sc d 126 23 lv [.long (y0)] (HH pre tl SHc B σ) Q := by
  unfold F_Ru_cell_23 at hF
  cases hF
  exact r_lreturn f_Ru_cell_23 hQ
def F_Ru_cell_13   (σ : SG) : Option (Int64 × SG) :=
  F_Ru_cell_23 ((0 : Int64)) σ
set_option maxHeartbeats 4000000 in
theorem w_Ru_cell_13 {b d : Nat} {sc : SC} {pre tl : List PE} {B : Nat} {Q : Option Value → List PE → Prop} {res : Int64 × SG} (hB : B = b + pre.length)   (hQ : Q (some (.long res.1)) (HH pre tl SHc B res.2)) (lv : LV) (σ : SG)   (hF : F_Ru_cell_13   σ = some res) : Rn b sc d 126 13 lv [] (HH pre tl SHc B σ) Q := by
  unfold F_Ru_cell_13 at hF
  refine r_lconst f_Ru_cell_13 (v := 0) (by decide) ?_
  refine r_goto f_Ru_cell_14 ?_
  exact w_Ru_cell_23 hB   hQ _ (σ) ((0 : Int64)) hF
def F_Ru_cell (a0 : Nat) (a1 : Int32) (σ : SG) : Option (Int64 × SG) :=
  if a1 < 0 then
  F_Ru_cell_13 σ
  else if a1 < (832 : Int32) then
  if a1 < 0 ∨ 832 ≤ (a1).toNatClampNeg then none else
  F_Ru_cell_23 ((σ.2.2.2.2 ((cref SHc (a0) 2)) ((a1).toNatClampNeg))) σ
  else F_Ru_cell_13 σ
set_option maxHeartbeats 4000000 in
theorem w_Ru_cell {b d : Nat} {pre tl : List PE} {B : Nat} {Q : Option Value → List PE → Prop} {res : Int64 × SG} (hB : B = b + pre.length)  {σ : SG} (a0 : Nat) (a1 : Int32) (ha0 : isC SHc (a0) 5 = true) (hF : F_Ru_cell a0 a1 σ = some res) (hQ : Q (some (.long res.1)) (HH pre tl SHc B res.2)) : Cl b d 126 [.ref (B + (a0)), .int (a1)] (HH pre tl SHc B σ) Q := by
  unfold Cl
  unfold F_Ru_cell at hF
  refine r_iload_n f_Ru_cell_0 rfl ?_
  refine r_if_lt f_Ru_cell_1 (fun c1 => ?_) (fun c1 => ?_)
  · rw [if_pos c1] at hF
    exact w_Ru_cell_13 hB   hQ _ (σ) hF
  · rw [if_neg c1] at hF
    refine r_iload_n f_Ru_cell_4 rfl ?_
    refine r_aload_n f_Ru_cell_5 rfl ?_
    refine t_getc hB ha0 f_Ru_cell_6 rfl ?_
    refine t_len hB (cc_5_2 ha0) (by decide) f_Ru_cell_9 (v := 832) (by decide) ?_
    refine r_icmp_lt f_Ru_cell_10 (fun c2 => ?_) (fun c2 => ?_)
    · rw [if_pos c2] at hF
      refine r_aload_n f_Ru_cell_17 rfl ?_
      refine t_getc hB ha0 f_Ru_cell_18 rfl ?_
      refine r_iload_n f_Ru_cell_21 rfl ?_
      by_cases c3 : a1 < 0 ∨ 832 ≤ (a1).toNatClampNeg
      · rw [if_pos c3] at hF; cases hF
      rw [if_neg c3] at hF
      refine t_lald hB (cc_5_2 ha0) f_Ru_cell_22 c3 ?_
      exact w_Ru_cell_23 hB   hQ _ (σ) ((σ.2.2.2.2 ((cref SHc (a0) 2)) ((a1).toNatClampNeg))) hF
    · rw [if_neg c2] at hF
      exact w_Ru_cell_13 hB   hQ _ (σ) hF
theorem f_Ru_raiseFrom_0 : fetch 129 0 = some (.aload_n 0, 1, 0, 0, 0) := rfl
theorem f_Ru_raiseFrom_1 : fetch 129 1 = some (.iconst 1, 1, 0, 0, 0) := rfl
theorem f_Ru_raiseFrom_2 : fetch 129 2 = some (.putfield 106, 3, 5, 5, 112) := rfl
theorem f_Ru_raiseFrom_5 : fetch 129 5 = some (.aload_n 0, 1, 0, 0, 0) := rfl
theorem f_Ru_raiseFrom_6 : fetch 129 6 = some (.iload_n 1, 1, 0, 0, 0) := rfl
theorem f_Ru_raiseFrom_7 : fetch 129 7 = some (.putfield 120, 3, 5, 6, 114) := rfl
theorem f_Ru_raiseFrom_10 : fetch 129 10 = some (.aload_n 0, 1, 0, 0, 0) := rfl
theorem f_Ru_raiseFrom_11 : fetch 129 11 = some (.iload_n 2, 1, 0, 0, 0) := rfl
theorem f_Ru_raiseFrom_12 : fetch 129 12 = some (.putfield 123, 3, 5, 7, 115) := rfl
theorem f_Ru_raiseFrom_15 : fetch 129 15 = some (.aload_n 0, 1, 0, 0, 0) := rfl
theorem f_Ru_raiseFrom_16 : fetch 129 16 = some (.iload_n 3, 1, 0, 0, 0) := rfl
theorem f_Ru_raiseFrom_17 : fetch 129 17 = some (.putfield 126, 3, 5, 8, 116) := rfl
theorem f_Ru_raiseFrom_20 : fetch 129 20 = some (.iconst 0, 1, 0, 0, 0) := rfl
theorem f_Ru_raiseFrom_21 : fetch 129 21 = some (.ireturn, 1, 2, 0, 0) := rfl
def F_Ru_raiseFrom (a0 : Nat) (a1 : Int32) (a2 : Int32) (a3 : Int32) (σ : SG) : Option (Bool × SG) :=
  stl (setI σ (a0) 5 (bz (true))) fun s1 =>
  stl (setI s1 (a0) 6 (a1)) fun s2 =>
  stl (setI s2 (a0) 7 (a2)) fun s3 =>
  stl (setI s3 (a0) 8 (a3)) fun s4 =>
  some (false, s4)
set_option maxHeartbeats 4000000 in
theorem w_Ru_raiseFrom {b d : Nat} {pre tl : List PE} {B : Nat} {Q : Option Value → List PE → Prop} {res : Bool × SG} (hB : B = b + pre.length)  {σ : SG} (a0 : Nat) (a1 : Int32) (a2 : Int32) (a3 : Int32) (ha0 : isC SHc (a0) 5 = true) (hF : F_Ru_raiseFrom a0 a1 a2 a3 σ = some res) (hQ : Q (some (.int (bz res.1))) (HH pre tl SHc B res.2)) : Cl b d 129 [.ref (B + (a0)), .int (a1), .int (a2), .int (a3)] (HH pre tl SHc B σ) Q := by
  unfold Cl
  unfold F_Ru_raiseFrom at hF
  refine r_aload_n f_Ru_raiseFrom_0 rfl ?_
  refine r_iconst f_Ru_raiseFrom_1 (v := 1) (by decide) ?_
  refine t_putz (v := true) hB ha0 f_Ru_raiseFrom_2 rfl rfl ?_
  generalize hs1 : setI σ (a0) 5 (bz (true)) = s1 at hF ⊢
  rw [stl_eq] at hF
  refine r_aload_n f_Ru_raiseFrom_5 rfl ?_
  refine r_iload_n f_Ru_raiseFrom_6 rfl ?_
  refine t_puti hB ha0 f_Ru_raiseFrom_7 rfl rfl ?_
  generalize hs2 : setI s1 (a0) 6 (a1) = s2 at hF ⊢
  rw [stl_eq] at hF
  refine r_aload_n f_Ru_raiseFrom_10 rfl ?_
  refine r_iload_n f_Ru_raiseFrom_11 rfl ?_
  refine t_puti hB ha0 f_Ru_raiseFrom_12 rfl rfl ?_
  generalize hs3 : setI s2 (a0) 7 (a2) = s3 at hF ⊢
  rw [stl_eq] at hF
  refine r_aload_n f_Ru_raiseFrom_15 rfl ?_
  refine r_iload_n f_Ru_raiseFrom_16 rfl ?_
  refine t_puti hB ha0 f_Ru_raiseFrom_17 rfl rfl ?_
  generalize hs4 : setI s3 (a0) 8 (a3) = s4 at hF ⊢
  rw [stl_eq] at hF
  refine r_iconst f_Ru_raiseFrom_20 (v := 0) (by decide) ?_
  cases hF
  exact r_zreturn f_Ru_raiseFrom_21 (bz_or (false)) hQ
theorem f_Ru_raise_0 : fetch 128 0 = some (.aload_n 0, 1, 0, 0, 0) := rfl
theorem f_Ru_raise_1 : fetch 128 1 = some (.iload_n 1, 1, 0, 0, 0) := rfl
theorem f_Ru_raise_2 : fetch 128 2 = some (.aload_n 0, 1, 0, 0, 0) := rfl
theorem f_Ru_raise_3 : fetch 128 3 = some (.invokevirtual 62, 3, 122, 0, 116) := rfl
theorem f_Ru_raise_6 : fetch 128 6 = some (.getfield 83, 3, 0, 3, 111) := rfl
theorem f_Ru_raise_9 : fetch 128 9 = some (.iconst 0, 1, 0, 0, 0) := rfl
theorem f_Ru_raise_10 : fetch 128 10 = some (.invokevirtual 116, 3, 129, 3, 138) := rfl
theorem f_Ru_raise_13 : fetch 128 13 = some (.ireturn, 1, 2, 0, 0) := rfl
def F_Ru_raise (a0 : Nat) (a1 : Int32) (σ : SG) : Option (Bool × SG) :=
  match F_Ru_latest (a0) σ with
  | none => none
  | some q1 =>
  match q1.1 with
  | none => none
  | some k2 => if isC SHc k2 0 = true then
  match F_Ru_raiseFrom (a0) (a1) ((q1.2.1 (k2) 3)) ((0 : Int32)) q1.2 with
  | none => none
  | some q4 =>
  some (q4.1, q4.2)
  else none
set_option maxHeartbeats 4000000 in
theorem w_Ru_raise {b d : Nat} {pre tl : List PE} {B : Nat} {Q : Option Value → List PE → Prop} {res : Bool × SG} (hB : B = b + pre.length) (hd : 1 ≤ d)  {σ : SG} (a0 : Nat) (a1 : Int32) (ha0 : isC SHc (a0) 5 = true) (hF : F_Ru_raise a0 a1 σ = some res) (hQ : Q (some (.int (bz res.1))) (HH pre tl SHc B res.2)) : Cl b d 128 [.ref (B + (a0)), .int (a1)] (HH pre tl SHc B σ) Q := by
  obtain ⟨e0, rfl⟩ : ∃ e, d = e + 1 := ⟨d - 1, by omega⟩
  unfold Cl
  unfold F_Ru_raise at hF
  refine r_aload_n f_Ru_raise_0 rfl ?_
  refine r_iload_n f_Ru_raise_1 rfl ?_
  refine r_aload_n f_Ru_raise_2 rfl ?_
  cases hq1 : F_Ru_latest (a0) σ with
  | none => simp only [hq1] at hF; cases hF
  | some q1 =>
    simp only [hq1] at hF
    refine t_V0o hB ha0 rfl rfl f_Ru_raise_3 (by decide) (Nat.le_of_ble_eq_true rfl) (Nat.le_of_ble_eq_true rfl) (w_Ru_latest hB  (a0) ha0 hq1 ⟨_, rfl, ?_⟩)
    cases c3 : (q1.1 : Option Nat) with
    | none => simp only [c3] at hF; cases hF
    | some k2 =>
      simp only [c3] at *
      by_cases c3k : isC SHc k2 0 = true
      · rw [if_pos c3k] at hF
        try simp only [ov]
        refine t_geti hB c3k f_Ru_raise_6 rfl ?_
        refine r_iconst f_Ru_raise_9 (v := 0) (by decide) ?_
        cases hq4 : F_Ru_raiseFrom (a0) (a1) ((q1.2.1 (k2) 3)) ((0 : Int32)) q1.2 with
        | none => simp only [hq4] at hF; cases hF
        | some q4 =>
          simp only [hq4] at hF
          refine t_V3i hB ha0 rfl rfl f_Ru_raise_10 (by decide) (Nat.le_of_ble_eq_true rfl) (Nat.le_of_ble_eq_true rfl) (w_Ru_raiseFrom hB  (a0) (a1) ((q1.2.1 (k2) 3)) ((0 : Int32)) ha0 hq4 ⟨_, rfl, ?_⟩)
          cases hF
          exact r_zreturn f_Ru_raise_13 (bz_or (q4.1)) hQ
      · rw [if_neg c3k] at hF; cases hF
theorem f_Ru_compute_0 : fetch 127 0 = some (.aload_n 1, 1, 0, 0, 0) := rfl
theorem f_Ru_compute_1 : fetch 127 1 = some (.invokevirtual 160, 3, 7, 0, 135) := rfl
theorem f_Ru_compute_4 : fetch 127 4 = some (.istore_n 3, 1, 0, 0, 0) := rfl
theorem f_Ru_compute_5 : fetch 127 5 = some (.aload_n 1, 1, 0, 0, 0) := rfl
theorem f_Ru_compute_6 : fetch 127 6 = some (.invokevirtual 160, 3, 7, 0, 135) := rfl
theorem f_Ru_compute_9 : fetch 127 9 = some (.istore 4, 2, 0, 0, 0) := rfl
theorem f_Ru_compute_11 : fetch 127 11 = some (.iload_n 2, 1, 0, 0, 0) := rfl
theorem f_Ru_compute_12 : fetch 127 12 = some (.bipush 7, 2, 0, 0, 0) := rfl
theorem f_Ru_compute_14 : fetch 127 14 = some (.if_icmp .ne 15, 3, 29, 0, 0) := rfl
theorem f_Ru_compute_17 : fetch 127 17 = some (.aload_n 1, 1, 0, 0, 0) := rfl
theorem f_Ru_compute_18 : fetch 127 18 = some (.iload 4, 2, 0, 0, 0) := rfl
theorem f_Ru_compute_20 : fetch 127 20 = some (.iload_n 3, 1, 0, 0, 0) := rfl
theorem f_Ru_compute_21 : fetch 127 21 = some (.iadd, 1, 0, 0, 0) := rfl
theorem f_Ru_compute_22 : fetch 127 22 = some (.i2l, 1, 0, 0, 0) := rfl
theorem f_Ru_compute_23 : fetch 127 23 = some (.invokevirtual 132, 3, 4, 1, 128) := rfl
theorem f_Ru_compute_26 : fetch 127 26 = some (.goto 58, 3, 84, 0, 0) := rfl
theorem f_Ru_compute_29 : fetch 127 29 = some (.iload_n 2, 1, 0, 0, 0) := rfl
theorem f_Ru_compute_30 : fetch 127 30 = some (.bipush 8, 2, 0, 0, 0) := rfl
theorem f_Ru_compute_32 : fetch 127 32 = some (.if_icmp .ne 15, 3, 47, 0, 0) := rfl
theorem f_Ru_compute_35 : fetch 127 35 = some (.aload_n 1, 1, 0, 0, 0) := rfl
theorem f_Ru_compute_36 : fetch 127 36 = some (.iload 4, 2, 0, 0, 0) := rfl
theorem f_Ru_compute_38 : fetch 127 38 = some (.iload_n 3, 1, 0, 0, 0) := rfl
theorem f_Ru_compute_39 : fetch 127 39 = some (.isub, 1, 0, 0, 0) := rfl
theorem f_Ru_compute_40 : fetch 127 40 = some (.i2l, 1, 0, 0, 0) := rfl
theorem f_Ru_compute_41 : fetch 127 41 = some (.invokevirtual 132, 3, 4, 1, 128) := rfl
theorem f_Ru_compute_44 : fetch 127 44 = some (.goto 40, 3, 84, 0, 0) := rfl
theorem f_Ru_compute_47 : fetch 127 47 = some (.iload_n 2, 1, 0, 0, 0) := rfl
theorem f_Ru_compute_48 : fetch 127 48 = some (.bipush 9, 2, 0, 0, 0) := rfl
theorem f_Ru_compute_50 : fetch 127 50 = some (.if_icmp .ne 15, 3, 65, 0, 0) := rfl
theorem f_Ru_compute_53 : fetch 127 53 = some (.aload_n 1, 1, 0, 0, 0) := rfl
theorem f_Ru_compute_54 : fetch 127 54 = some (.iload 4, 2, 0, 0, 0) := rfl
theorem f_Ru_compute_56 : fetch 127 56 = some (.iload_n 3, 1, 0, 0, 0) := rfl
theorem f_Ru_compute_57 : fetch 127 57 = some (.imul, 1, 0, 0, 0) := rfl
theorem f_Ru_compute_58 : fetch 127 58 = some (.i2l, 1, 0, 0, 0) := rfl
theorem f_Ru_compute_59 : fetch 127 59 = some (.invokevirtual 132, 3, 4, 1, 128) := rfl
theorem f_Ru_compute_62 : fetch 127 62 = some (.goto 22, 3, 84, 0, 0) := rfl
theorem f_Ru_compute_65 : fetch 127 65 = some (.iload_n 3, 1, 0, 0, 0) := rfl
theorem f_Ru_compute_66 : fetch 127 66 = some (.ifCond .ne 9, 3, 75, 0, 0) := rfl
theorem f_Ru_compute_69 : fetch 127 69 = some (.aload_n 0, 1, 0, 0, 0) := rfl
theorem f_Ru_compute_70 : fetch 127 70 = some (.iconst 1, 1, 0, 0, 0) := rfl
theorem f_Ru_compute_71 : fetch 127 71 = some (.invokevirtual 167, 3, 128, 1, 137) := rfl
theorem f_Ru_compute_74 : fetch 127 74 = some (.ireturn, 1, 2, 0, 0) := rfl
theorem f_Ru_compute_75 : fetch 127 75 = some (.aload_n 1, 1, 0, 0, 0) := rfl
theorem f_Ru_compute_76 : fetch 127 76 = some (.iload 4, 2, 0, 0, 0) := rfl
theorem f_Ru_compute_78 : fetch 127 78 = some (.iload_n 3, 1, 0, 0, 0) := rfl
theorem f_Ru_compute_79 : fetch 127 79 = some (.idiv, 1, 0, 0, 0) := rfl
theorem f_Ru_compute_80 : fetch 127 80 = some (.i2l, 1, 0, 0, 0) := rfl
theorem f_Ru_compute_81 : fetch 127 81 = some (.invokevirtual 132, 3, 4, 1, 128) := rfl
theorem f_Ru_compute_84 : fetch 127 84 = some (.iconst 1, 1, 0, 0, 0) := rfl
theorem f_Ru_compute_85 : fetch 127 85 = some (.ireturn, 1, 2, 0, 0) := rfl
def F_Ru_compute_84   (σ : SG) : Option (Bool × SG) :=
  some (true, σ)
set_option maxHeartbeats 4000000 in
theorem w_Ru_compute_84 {b d : Nat} {sc : SC} {pre tl : List PE} {B : Nat} {Q : Option Value → List PE → Prop} {res : Bool × SG} (hB : B = b + pre.length) (hd : 2 ≤ d)   (hQ : Q (some (.int (bz res.1))) (HH pre tl SHc B res.2)) (lv : LV) (σ : SG)   (hF : F_Ru_compute_84   σ = some res) : Rn b sc d 127 84 lv [] (HH pre tl SHc B σ) Q := by
  obtain ⟨e0, rfl⟩ : ∃ e, d = e + 1 := ⟨d - 1, by omega⟩
  unfold F_Ru_compute_84 at hF
  refine r_iconst f_Ru_compute_84 (v := 1) (by decide) ?_
  cases hF
  exact r_zreturn f_Ru_compute_85 (bz_or (true)) hQ
def F_Ru_compute (a0 : Nat) (a1 : Nat) (a2 : Int32) (σ : SG) : Option (Bool × SG) :=
  match F_Fr_popInt (a1) σ with
  | none => none
  | some q1 =>
  match F_Fr_popInt (a1) q1.2 with
  | none => none
  | some q2 =>
  if a2 = (7 : Int32) then
  match F_Fr_push (a1) ((((q2.1 + q1.1) : Int32).toInt64)) q2.2 with
  | none => none
  | some q12 =>
  F_Ru_compute_84 q12
  else if a2 = (8 : Int32) then
  match F_Fr_push (a1) ((((q2.1 - q1.1) : Int32).toInt64)) q2.2 with
  | none => none
  | some q11 =>
  F_Ru_compute_84 q11
  else if a2 = (9 : Int32) then
  match F_Fr_push (a1) ((((q2.1 * q1.1) : Int32).toInt64)) q2.2 with
  | none => none
  | some q10 =>
  F_Ru_compute_84 q10
  else if q1.1 = 0 then
  match F_Ru_raise (a0) ((1 : Int32)) q2.2 with
  | none => none
  | some q9 =>
  some (q9.1, q9.2)
  else if q1.1 = 0 then none else
  match F_Fr_push (a1) ((((q2.1 / q1.1) : Int32).toInt64)) q2.2 with
  | none => none
  | some q8 =>
  F_Ru_compute_84 q8
set_option maxHeartbeats 4000000 in
theorem w_Ru_compute {b d : Nat} {pre tl : List PE} {B : Nat} {Q : Option Value → List PE → Prop} {res : Bool × SG} (hB : B = b + pre.length) (hd : 2 ≤ d)  {σ : SG} (a0 : Nat) (a1 : Nat) (a2 : Int32) (ha0 : isC SHc (a0) 5 = true) (ha1 : isC SHc (a1) 0 = true) (hF : F_Ru_compute a0 a1 a2 σ = some res) (hQ : Q (some (.int (bz res.1))) (HH pre tl SHc B res.2)) : Cl b d 127 [.ref (B + (a0)), .ref (B + (a1)), .int (a2)] (HH pre tl SHc B σ) Q := by
  obtain ⟨e0, rfl⟩ : ∃ e, d = e + 1 := ⟨d - 1, by omega⟩
  unfold Cl
  unfold F_Ru_compute at hF
  refine r_aload_n f_Ru_compute_0 rfl ?_
  cases hq1 : F_Fr_popInt (a1) σ with
  | none => simp only [hq1] at hF; cases hF
  | some q1 =>
    simp only [hq1] at hF
    refine t_V0i hB ha1 rfl rfl f_Ru_compute_1 (by decide) (Nat.le_of_ble_eq_true rfl) (Nat.le_of_ble_eq_true rfl) (w_Fr_popInt hB (by omega) (a1) ha1 hq1 ⟨_, rfl, ?_⟩)
    refine r_istore_n f_Ru_compute_4 ?_
    refine r_aload_n f_Ru_compute_5 (lk_put_ne rfl (by decide) (Or.inl rfl)) ?_
    cases hq2 : F_Fr_popInt (a1) q1.2 with
    | none => simp only [hq2] at hF; cases hF
    | some q2 =>
      simp only [hq2] at hF
      refine t_V0i hB ha1 rfl rfl f_Ru_compute_6 (by decide) (Nat.le_of_ble_eq_true rfl) (Nat.le_of_ble_eq_true rfl) (w_Fr_popInt hB (by omega) (a1) ha1 hq2 ⟨_, rfl, ?_⟩)
      refine r_istore f_Ru_compute_9 ?_
      refine r_iload_n f_Ru_compute_11 (lk_put_ne (lk_put_ne rfl (by decide) (Or.inl rfl)) (by decide) (Or.inl rfl)) ?_
      refine r_bipush f_Ru_compute_12 (v := 7) (by decide) ?_
      refine r_icmp_ne f_Ru_compute_14 (fun c3 => ?_) (fun c3 => ?_)
      · rw [if_neg c3] at hF
        refine r_iload_n f_Ru_compute_29 (lk_put_ne (lk_put_ne rfl (by decide) (Or.inl rfl)) (by decide) (Or.inl rfl)) ?_
        refine r_bipush f_Ru_compute_30 (v := 8) (by decide) ?_
        refine r_icmp_ne f_Ru_compute_32 (fun c4 => ?_) (fun c4 => ?_)
        · rw [if_neg c4] at hF
          refine r_iload_n f_Ru_compute_47 (lk_put_ne (lk_put_ne rfl (by decide) (Or.inl rfl)) (by decide) (Or.inl rfl)) ?_
          refine r_bipush f_Ru_compute_48 (v := 9) (by decide) ?_
          refine r_icmp_ne f_Ru_compute_50 (fun c5 => ?_) (fun c5 => ?_)
          · rw [if_neg c5] at hF
            refine r_iload_n f_Ru_compute_65 (lk_put_ne lk_put (by decide) (Or.inl rfl)) ?_
            refine r_if_ne f_Ru_compute_66 (fun c6 => ?_) (fun c6 => ?_)
            · rw [if_neg c6] at hF
              refine r_aload_n f_Ru_compute_75 (lk_put_ne (lk_put_ne rfl (by decide) (Or.inl rfl)) (by decide) (Or.inl rfl)) ?_
              refine r_iload f_Ru_compute_76 lk_put ?_
              refine r_iload_n f_Ru_compute_78 (lk_put_ne lk_put (by decide) (Or.inl rfl)) ?_
              by_cases c7 : q1.1 = 0
              · rw [if_pos c7] at hF; cases hF
              rw [if_neg c7] at hF
              refine r_idiv f_Ru_compute_79 c7 ?_
              refine r_i2l f_Ru_compute_80 ?_
              cases hq8 : F_Fr_push (a1) ((((q2.1 / q1.1) : Int32).toInt64)) q2.2 with
              | none => simp only [hq8] at hF; cases hF
              | some q8 =>
                simp only [hq8] at hF
                refine t_V1v hB ha1 rfl rfl f_Ru_compute_81 (by decide) (Nat.le_of_ble_eq_true rfl) (Nat.le_of_ble_eq_true rfl) (w_Fr_push hB  (a1) ((((q2.1 / q1.1) : Int32).toInt64)) ha1 hq8 ⟨rfl, ?_⟩)
                exact w_Ru_compute_84 hB hd  hQ _ (q8) hF
            · rw [if_pos (Decidable.not_not.mp c6)] at hF
              refine r_aload_n f_Ru_compute_69 (lk_put_ne (lk_put_ne rfl (by decide) (Or.inl rfl)) (by decide) (Or.inl rfl)) ?_
              refine r_iconst f_Ru_compute_70 (v := 1) (by decide) ?_
              cases hq9 : F_Ru_raise (a0) ((1 : Int32)) q2.2 with
              | none => simp only [hq9] at hF; cases hF
              | some q9 =>
                simp only [hq9] at hF
                refine t_V1i hB ha0 rfl rfl f_Ru_compute_71 (by decide) (Nat.le_of_ble_eq_true rfl) (Nat.le_of_ble_eq_true rfl) (w_Ru_raise hB (by omega) (a0) ((1 : Int32)) ha0 hq9 ⟨_, rfl, ?_⟩)
                cases hF
                exact r_zreturn f_Ru_compute_74 (bz_or (q9.1)) hQ
          · rw [if_pos (Decidable.not_not.mp c5)] at hF
            refine r_aload_n f_Ru_compute_53 (lk_put_ne (lk_put_ne rfl (by decide) (Or.inl rfl)) (by decide) (Or.inl rfl)) ?_
            refine r_iload f_Ru_compute_54 lk_put ?_
            refine r_iload_n f_Ru_compute_56 (lk_put_ne lk_put (by decide) (Or.inl rfl)) ?_
            refine r_imul f_Ru_compute_57 ?_
            refine r_i2l f_Ru_compute_58 ?_
            cases hq10 : F_Fr_push (a1) ((((q2.1 * q1.1) : Int32).toInt64)) q2.2 with
            | none => simp only [hq10] at hF; cases hF
            | some q10 =>
              simp only [hq10] at hF
              refine t_V1v hB ha1 rfl rfl f_Ru_compute_59 (by decide) (Nat.le_of_ble_eq_true rfl) (Nat.le_of_ble_eq_true rfl) (w_Fr_push hB  (a1) ((((q2.1 * q1.1) : Int32).toInt64)) ha1 hq10 ⟨rfl, ?_⟩)
              refine r_goto f_Ru_compute_62 ?_
              exact w_Ru_compute_84 hB hd  hQ _ (q10) hF
        · rw [if_pos (Decidable.not_not.mp c4)] at hF
          refine r_aload_n f_Ru_compute_35 (lk_put_ne (lk_put_ne rfl (by decide) (Or.inl rfl)) (by decide) (Or.inl rfl)) ?_
          refine r_iload f_Ru_compute_36 lk_put ?_
          refine r_iload_n f_Ru_compute_38 (lk_put_ne lk_put (by decide) (Or.inl rfl)) ?_
          refine r_isub f_Ru_compute_39 ?_
          refine r_i2l f_Ru_compute_40 ?_
          cases hq11 : F_Fr_push (a1) ((((q2.1 - q1.1) : Int32).toInt64)) q2.2 with
          | none => simp only [hq11] at hF; cases hF
          | some q11 =>
            simp only [hq11] at hF
            refine t_V1v hB ha1 rfl rfl f_Ru_compute_41 (by decide) (Nat.le_of_ble_eq_true rfl) (Nat.le_of_ble_eq_true rfl) (w_Fr_push hB  (a1) ((((q2.1 - q1.1) : Int32).toInt64)) ha1 hq11 ⟨rfl, ?_⟩)
            refine r_goto f_Ru_compute_44 ?_
            exact w_Ru_compute_84 hB hd  hQ _ (q11) hF
      · rw [if_pos (Decidable.not_not.mp c3)] at hF
        refine r_aload_n f_Ru_compute_17 (lk_put_ne (lk_put_ne rfl (by decide) (Or.inl rfl)) (by decide) (Or.inl rfl)) ?_
        refine r_iload f_Ru_compute_18 lk_put ?_
        refine r_iload_n f_Ru_compute_20 (lk_put_ne lk_put (by decide) (Or.inl rfl)) ?_
        refine r_iadd f_Ru_compute_21 ?_
        refine r_i2l f_Ru_compute_22 ?_
        cases hq12 : F_Fr_push (a1) ((((q2.1 + q1.1) : Int32).toInt64)) q2.2 with
        | none => simp only [hq12] at hF; cases hF
        | some q12 =>
          simp only [hq12] at hF
          refine t_V1v hB ha1 rfl rfl f_Ru_compute_23 (by decide) (Nat.le_of_ble_eq_true rfl) (Nat.le_of_ble_eq_true rfl) (w_Fr_push hB  (a1) ((((q2.1 + q1.1) : Int32).toInt64)) ha1 hq12 ⟨rfl, ?_⟩)
          refine r_goto f_Ru_compute_26 ?_
          exact w_Ru_compute_84 hB hd  hQ _ (q12) hF
theorem f_Ru_jump_0 : fetch 130 0 = some (.iload_n 2, 1, 0, 0, 0) := rfl
theorem f_Ru_jump_1 : fetch 130 1 = some (.ifCond .eq 18, 3, 19, 0, 0) := rfl
theorem f_Ru_jump_4 : fetch 130 4 = some (.aload_n 0, 1, 0, 0, 0) := rfl
theorem f_Ru_jump_5 : fetch 130 5 = some (.dup, 1, 0, 0, 0) := rfl
theorem f_Ru_jump_6 : fetch 130 6 = some (.getfield 83, 3, 0, 3, 111) := rfl
theorem f_Ru_jump_9 : fetch 130 9 = some (.iconst 2, 1, 0, 0, 0) := rfl
theorem f_Ru_jump_10 : fetch 130 10 = some (.iload_n 1, 1, 0, 0, 0) := rfl
theorem f_Ru_jump_11 : fetch 130 11 = some (.invokestatic 129, 3, 103, 1, 127) := rfl
theorem f_Ru_jump_14 : fetch 130 14 = some (.iadd, 1, 0, 0, 0) := rfl
theorem f_Ru_jump_15 : fetch 130 15 = some (.iadd, 1, 0, 0, 0) := rfl
theorem f_Ru_jump_16 : fetch 130 16 = some (.putfield 83, 3, 0, 3, 111) := rfl
theorem f_Ru_jump_19 : fetch 130 19 = some (.iload_n 2, 1, 0, 0, 0) := rfl
theorem f_Ru_jump_20 : fetch 130 20 = some (.ifCond .ne 7, 3, 27, 0, 0) := rfl
theorem f_Ru_jump_23 : fetch 130 23 = some (.iconst 1, 1, 0, 0, 0) := rfl
theorem f_Ru_jump_24 : fetch 130 24 = some (.goto 4, 3, 28, 0, 0) := rfl
theorem f_Ru_jump_27 : fetch 130 27 = some (.iconst 0, 1, 0, 0, 0) := rfl
theorem f_Ru_jump_28 : fetch 130 28 = some (.ireturn, 1, 2, 0, 0) := rfl
def F_Ru_jump_28  (y0 : Bool) (σ : SG) : Option (Bool × SG) :=
  some (y0, σ)
set_option maxHeartbeats 4000000 in
theorem w_Ru_jump_28 {b d : Nat} {sc : SC} {pre tl : List PE} {B : Nat} {Q : Option Value → List PE → Prop} {res : Bool × SG} (hB : B = b + pre.length) (hd : 1 ≤ d)   (hQ : Q (some (.int (bz res.1))) (HH pre tl SHc B res.2)) (lv : LV) (σ : SG) (y0 : Bool)  (hF : F_Ru_jump_28  y0 σ = some res) : Rn b sc d 130 28 lv [.int (bz (y0))] (HH pre tl SHc B σ) Q := by
  obtain ⟨e0, rfl⟩ : ∃ e, d = e + 1 := ⟨d - 1, by omega⟩
  unfold F_Ru_jump_28 at hF
  cases hF
  exact r_zreturn f_Ru_jump_28 (bz_or (y0)) hQ
def F_Ru_jump_19  (x2 : Bool) (σ : SG) : Option (Bool × SG) :=
  if x2 = true then
  F_Ru_jump_28 (false) σ
  else F_Ru_jump_28 (true) σ
set_option maxHeartbeats 4000000 in
theorem w_Ru_jump_19 {b d : Nat} {sc : SC} {pre tl : List PE} {B : Nat} {Q : Option Value → List PE → Prop} {res : Bool × SG} (hB : B = b + pre.length) (hd : 1 ≤ d)   (hQ : Q (some (.int (bz res.1))) (HH pre tl SHc B res.2)) (lv : LV) (σ : SG) (x2 : Bool) (l2 : lv.lookup 2 = some (.int (bz (x2)))) (hF : F_Ru_jump_19  x2 σ = some res) : Rn b sc d 130 19 lv [] (HH pre tl SHc B σ) Q := by
  obtain ⟨e0, rfl⟩ : ∃ e, d = e + 1 := ⟨d - 1, by omega⟩
  unfold F_Ru_jump_19 at hF
  refine r_iload_n f_Ru_jump_19 l2 ?_
  refine r_if_ne f_Ru_jump_20 (fun c1 => ?_) (fun c1 => ?_)
  · rw [if_pos (bz_t c1)] at hF
    refine r_iconst f_Ru_jump_27 (v := 0) (by decide) ?_
    exact w_Ru_jump_28 hB hd  hQ _ (σ) (false) hF
  · rw [if_neg (bz_nt (Decidable.not_not.mp c1))] at hF
    refine r_iconst f_Ru_jump_23 (v := 1) (by decide) ?_
    refine r_goto f_Ru_jump_24 ?_
    exact w_Ru_jump_28 hB hd  hQ _ (σ) (true) hF
def F_Ru_jump (a0 : Nat) (a1 : Int32) (a2 : Bool) (σ : SG) : Option (Bool × SG) :=
  if a2 = true then
  match F_Op_signed (a1) σ with
  | none => none
  | some q3 =>
  stl (setI q3.2 (a0) 3 (((σ.1 (a0) 3) + ((2 : Int32) + q3.1)))) fun s4 =>
  F_Ru_jump_19 (a2) s4
  else F_Ru_jump_19 (a2) σ
set_option maxHeartbeats 4000000 in
theorem w_Ru_jump {b d : Nat} {pre tl : List PE} {B : Nat} {Q : Option Value → List PE → Prop} {res : Bool × SG} (hB : B = b + pre.length) (hd : 1 ≤ d)  {σ : SG} (a0 : Nat) (a1 : Int32) (a2 : Bool) (ha0 : isC SHc (a0) 0 = true) (hF : F_Ru_jump a0 a1 a2 σ = some res) (hQ : Q (some (.int (bz res.1))) (HH pre tl SHc B res.2)) : Cl b d 130 [.ref (B + (a0)), .int (a1), .int (bz (a2))] (HH pre tl SHc B σ) Q := by
  obtain ⟨e0, rfl⟩ : ∃ e, d = e + 1 := ⟨d - 1, by omega⟩
  unfold Cl
  unfold F_Ru_jump at hF
  refine r_iload_n f_Ru_jump_0 rfl ?_
  refine r_if_eq f_Ru_jump_1 (fun c2 => ?_) (fun c2 => ?_)
  · rw [if_neg (bz_nt c2)] at hF
    exact w_Ru_jump_19 hB hd  hQ _ (σ) (a2) rfl hF
  · rw [if_pos (bz_t c2)] at hF
    refine r_aload_n f_Ru_jump_4 rfl ?_
    refine r_dup f_Ru_jump_5 rfl ?_
    refine t_geti hB ha0 f_Ru_jump_6 rfl ?_
    refine r_iconst f_Ru_jump_9 (v := 2) (by decide) ?_
    refine r_iload_n f_Ru_jump_10 rfl ?_
    cases hq3 : F_Op_signed (a1) σ with
    | none => simp only [hq3] at hF; cases hF
    | some q3 =>
      simp only [hq3] at hF
      refine t_S1i f_Ru_jump_11 (by decide) (Nat.le_of_ble_eq_true rfl) (Nat.le_of_ble_eq_true rfl) (w_Op_signed hB  (a1)  hq3 ⟨_, rfl, ?_⟩)
      refine r_iadd f_Ru_jump_14 ?_
      refine r_iadd f_Ru_jump_15 ?_
      refine t_puti hB ha0 f_Ru_jump_16 rfl rfl ?_
      generalize hs4 : setI q3.2 (a0) 3 (((σ.1 (a0) 3) + ((2 : Int32) + q3.1))) = s4 at hF ⊢
      rw [stl_eq] at hF
      exact w_Ru_jump_19 hB hd  hQ _ (s4) (a2) rfl hF
theorem f_Ru_jumpIfLess_0 : fetch 131 0 = some (.aload_n 0, 1, 0, 0, 0) := rfl
theorem f_Ru_jumpIfLess_1 : fetch 131 1 = some (.invokevirtual 160, 3, 7, 0, 135) := rfl
theorem f_Ru_jumpIfLess_4 : fetch 131 4 = some (.istore_n 2, 1, 0, 0, 0) := rfl
theorem f_Ru_jumpIfLess_5 : fetch 131 5 = some (.aload_n 0, 1, 0, 0, 0) := rfl
theorem f_Ru_jumpIfLess_6 : fetch 131 6 = some (.invokevirtual 160, 3, 7, 0, 135) := rfl
theorem f_Ru_jumpIfLess_9 : fetch 131 9 = some (.istore_n 3, 1, 0, 0, 0) := rfl
theorem f_Ru_jumpIfLess_10 : fetch 131 10 = some (.aload_n 0, 1, 0, 0, 0) := rfl
theorem f_Ru_jumpIfLess_11 : fetch 131 11 = some (.iload_n 1, 1, 0, 0, 0) := rfl
theorem f_Ru_jumpIfLess_12 : fetch 131 12 = some (.iload_n 3, 1, 0, 0, 0) := rfl
theorem f_Ru_jumpIfLess_13 : fetch 131 13 = some (.iload_n 2, 1, 0, 0, 0) := rfl
theorem f_Ru_jumpIfLess_14 : fetch 131 14 = some (.if_icmp .ge 7, 3, 21, 0, 0) := rfl
theorem f_Ru_jumpIfLess_17 : fetch 131 17 = some (.iconst 1, 1, 0, 0, 0) := rfl
theorem f_Ru_jumpIfLess_18 : fetch 131 18 = some (.goto 4, 3, 22, 0, 0) := rfl
theorem f_Ru_jumpIfLess_21 : fetch 131 21 = some (.iconst 0, 1, 0, 0, 0) := rfl
theorem f_Ru_jumpIfLess_22 : fetch 131 22 = some (.invokestatic 156, 3, 130, 3, 134) := rfl
theorem f_Ru_jumpIfLess_25 : fetch 131 25 = some (.ireturn, 1, 2, 0, 0) := rfl
def F_Ru_jumpIfLess_22  (y0 : Nat) (y1 : Int32) (y2 : Bool) (σ : SG) : Option (Bool × SG) :=
  match F_Ru_jump (y0) (y1) (y2) σ with
  | none => none
  | some q1 =>
  some (q1.1, q1.2)
set_option maxHeartbeats 4000000 in
theorem w_Ru_jumpIfLess_22 {b d : Nat} {sc : SC} {pre tl : List PE} {B : Nat} {Q : Option Value → List PE → Prop} {res : Bool × SG} (hB : B = b + pre.length) (hd : 2 ≤ d)   (hQ : Q (some (.int (bz res.1))) (HH pre tl SHc B res.2)) (lv : LV) (σ : SG) (y0 : Nat) (y1 : Int32) (y2 : Bool) (hy0 : isC SHc (y0) 0 = true) (hF : F_Ru_jumpIfLess_22  y0 y1 y2 σ = some res) : Rn b sc d 131 22 lv [.int (bz (y2)), .int (y1), .ref (B + (y0))] (HH pre tl SHc B σ) Q := by
  obtain ⟨e0, rfl⟩ : ∃ e, d = e + 1 := ⟨d - 1, by omega⟩
  unfold F_Ru_jumpIfLess_22 at hF
  cases hq1 : F_Ru_jump (y0) (y1) (y2) σ with
  | none => simp only [hq1] at hF; cases hF
  | some q1 =>
    simp only [hq1] at hF
    refine t_S3i f_Ru_jumpIfLess_22 (by decide) (Nat.le_of_ble_eq_true rfl) (Nat.le_of_ble_eq_true rfl) (w_Ru_jump hB (by omega) (y0) (y1) (y2) hy0 hq1 ⟨_, rfl, ?_⟩)
    cases hF
    exact r_zreturn f_Ru_jumpIfLess_25 (bz_or (q1.1)) hQ
def F_Ru_jumpIfLess (a0 : Nat) (a1 : Int32) (σ : SG) : Option (Bool × SG) :=
  match F_Fr_popInt (a0) σ with
  | none => none
  | some q2 =>
  match F_Fr_popInt (a0) q2.2 with
  | none => none
  | some q3 =>
  if q2.1 ≤ q3.1 then
  F_Ru_jumpIfLess_22 (a0) (a1) (false) q3.2
  else F_Ru_jumpIfLess_22 (a0) (a1) (true) q3.2
set_option maxHeartbeats 4000000 in
theorem w_Ru_jumpIfLess {b d : Nat} {pre tl : List PE} {B : Nat} {Q : Option Value → List PE → Prop} {res : Bool × SG} (hB : B = b + pre.length) (hd : 2 ≤ d)  {σ : SG} (a0 : Nat) (a1 : Int32) (ha0 : isC SHc (a0) 0 = true) (hF : F_Ru_jumpIfLess a0 a1 σ = some res) (hQ : Q (some (.int (bz res.1))) (HH pre tl SHc B res.2)) : Cl b d 131 [.ref (B + (a0)), .int (a1)] (HH pre tl SHc B σ) Q := by
  obtain ⟨e0, rfl⟩ : ∃ e, d = e + 1 := ⟨d - 1, by omega⟩
  unfold Cl
  unfold F_Ru_jumpIfLess at hF
  refine r_aload_n f_Ru_jumpIfLess_0 rfl ?_
  cases hq2 : F_Fr_popInt (a0) σ with
  | none => simp only [hq2] at hF; cases hF
  | some q2 =>
    simp only [hq2] at hF
    refine t_V0i hB ha0 rfl rfl f_Ru_jumpIfLess_1 (by decide) (Nat.le_of_ble_eq_true rfl) (Nat.le_of_ble_eq_true rfl) (w_Fr_popInt hB (by omega) (a0) ha0 hq2 ⟨_, rfl, ?_⟩)
    refine r_istore_n f_Ru_jumpIfLess_4 ?_
    refine r_aload_n f_Ru_jumpIfLess_5 (lk_put_ne rfl (by decide) (Or.inl rfl)) ?_
    cases hq3 : F_Fr_popInt (a0) q2.2 with
    | none => simp only [hq3] at hF; cases hF
    | some q3 =>
      simp only [hq3] at hF
      refine t_V0i hB ha0 rfl rfl f_Ru_jumpIfLess_6 (by decide) (Nat.le_of_ble_eq_true rfl) (Nat.le_of_ble_eq_true rfl) (w_Fr_popInt hB (by omega) (a0) ha0 hq3 ⟨_, rfl, ?_⟩)
      refine r_istore_n f_Ru_jumpIfLess_9 ?_
      refine r_aload_n f_Ru_jumpIfLess_10 (lk_put_ne (lk_put_ne rfl (by decide) (Or.inl rfl)) (by decide) (Or.inl rfl)) ?_
      refine r_iload_n f_Ru_jumpIfLess_11 (lk_put_ne (lk_put_ne rfl (by decide) (Or.inl rfl)) (by decide) (Or.inl rfl)) ?_
      refine r_iload_n f_Ru_jumpIfLess_12 lk_put ?_
      refine r_iload_n f_Ru_jumpIfLess_13 (lk_put_ne lk_put (by decide) (Or.inl rfl)) ?_
      refine r_icmp_ge f_Ru_jumpIfLess_14 (fun c4 => ?_) (fun c4 => ?_)
      · rw [if_pos c4] at hF
        refine r_iconst f_Ru_jumpIfLess_21 (v := 0) (by decide) ?_
        exact w_Ru_jumpIfLess_22 hB hd  hQ _ (q3.2) (a0) (a1) (false) ha0 hF
      · rw [if_neg c4] at hF
        refine r_iconst f_Ru_jumpIfLess_17 (v := 1) (by decide) ?_
        refine r_goto f_Ru_jumpIfLess_18 ?_
        exact w_Ru_jumpIfLess_22 hB hd  hQ _ (q3.2) (a0) (a1) (true) ha0 hF
