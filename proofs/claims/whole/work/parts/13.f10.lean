theorem f_Ru_doSimple_0 : fetch 125 0 = some (.iload_n 2, 1, 0, 0, 0) := rfl
theorem f_Ru_doSimple_1 : fetch 125 1 = some (.tableswitch 214 1 15 #[75, 86, 102, 118, 131, 142, 153, 153, 153, 153, 160, 176, 183, 190, 208], 75, 215, 0, 0) := rfl
theorem f_Ru_doSimple_76 : fetch 125 76 = some (.aload_n 1, 1, 0, 0, 0) := rfl
theorem f_Ru_doSimple_77 : fetch 125 77 = some (.iload_n 3, 1, 0, 0, 0) := rfl
theorem f_Ru_doSimple_78 : fetch 125 78 = some (.invokestatic 129, 3, 103, 1, 127) := rfl
theorem f_Ru_doSimple_81 : fetch 125 81 = some (.i2l, 1, 0, 0, 0) := rfl
theorem f_Ru_doSimple_82 : fetch 125 82 = some (.invokevirtual 132, 3, 4, 1, 128) := rfl
theorem f_Ru_doSimple_85 : fetch 125 85 = some (.iconst 1, 1, 0, 0, 0) := rfl
theorem f_Ru_doSimple_86 : fetch 125 86 = some (.ireturn, 1, 2, 0, 0) := rfl
theorem f_Ru_doSimple_87 : fetch 125 87 = some (.aload_n 1, 1, 0, 0, 0) := rfl
theorem f_Ru_doSimple_88 : fetch 125 88 = some (.aload_n 0, 1, 0, 0, 0) := rfl
theorem f_Ru_doSimple_89 : fetch 125 89 = some (.aload_n 1, 1, 0, 0, 0) := rfl
theorem f_Ru_doSimple_90 : fetch 125 90 = some (.getfield 74, 3, 0, 0, 109) := rfl
theorem f_Ru_doSimple_93 : fetch 125 93 = some (.iload_n 3, 1, 0, 0, 0) := rfl
theorem f_Ru_doSimple_94 : fetch 125 94 = some (.iadd, 1, 0, 0, 0) := rfl
theorem f_Ru_doSimple_95 : fetch 125 95 = some (.invokevirtual 136, 3, 126, 1, 129) := rfl
theorem f_Ru_doSimple_98 : fetch 125 98 = some (.invokevirtual 132, 3, 4, 1, 128) := rfl
theorem f_Ru_doSimple_101 : fetch 125 101 = some (.iconst 1, 1, 0, 0, 0) := rfl
theorem f_Ru_doSimple_102 : fetch 125 102 = some (.ireturn, 1, 2, 0, 0) := rfl
theorem f_Ru_doSimple_103 : fetch 125 103 = some (.aload_n 0, 1, 0, 0, 0) := rfl
theorem f_Ru_doSimple_104 : fetch 125 104 = some (.aload_n 1, 1, 0, 0, 0) := rfl
theorem f_Ru_doSimple_105 : fetch 125 105 = some (.getfield 74, 3, 0, 0, 109) := rfl
theorem f_Ru_doSimple_108 : fetch 125 108 = some (.iload_n 3, 1, 0, 0, 0) := rfl
theorem f_Ru_doSimple_109 : fetch 125 109 = some (.iadd, 1, 0, 0, 0) := rfl
theorem f_Ru_doSimple_110 : fetch 125 110 = some (.aload_n 1, 1, 0, 0, 0) := rfl
theorem f_Ru_doSimple_111 : fetch 125 111 = some (.invokevirtual 140, 3, 5, 0, 130) := rfl
theorem f_Ru_doSimple_114 : fetch 125 114 = some (.invokevirtual 77, 3, 123, 2, 119) := rfl
theorem f_Ru_doSimple_117 : fetch 125 117 = some (.iconst 1, 1, 0, 0, 0) := rfl
theorem f_Ru_doSimple_118 : fetch 125 118 = some (.ireturn, 1, 2, 0, 0) := rfl
theorem f_Ru_doSimple_119 : fetch 125 119 = some (.aload_n 1, 1, 0, 0, 0) := rfl
theorem f_Ru_doSimple_120 : fetch 125 120 = some (.aload_n 1, 1, 0, 0, 0) := rfl
theorem f_Ru_doSimple_121 : fetch 125 121 = some (.getfield 74, 3, 0, 0, 109) := rfl
theorem f_Ru_doSimple_124 : fetch 125 124 = some (.iload_n 3, 1, 0, 0, 0) := rfl
theorem f_Ru_doSimple_125 : fetch 125 125 = some (.iadd, 1, 0, 0, 0) := rfl
theorem f_Ru_doSimple_126 : fetch 125 126 = some (.i2l, 1, 0, 0, 0) := rfl
theorem f_Ru_doSimple_127 : fetch 125 127 = some (.invokevirtual 132, 3, 4, 1, 128) := rfl
theorem f_Ru_doSimple_130 : fetch 125 130 = some (.iconst 1, 1, 0, 0, 0) := rfl
theorem f_Ru_doSimple_131 : fetch 125 131 = some (.ireturn, 1, 2, 0, 0) := rfl
theorem f_Ru_doSimple_132 : fetch 125 132 = some (.aload_n 1, 1, 0, 0, 0) := rfl
theorem f_Ru_doSimple_133 : fetch 125 133 = some (.aload_n 1, 1, 0, 0, 0) := rfl
theorem f_Ru_doSimple_134 : fetch 125 134 = some (.iload_n 3, 1, 0, 0, 0) := rfl
theorem f_Ru_doSimple_135 : fetch 125 135 = some (.invokevirtual 144, 3, 6, 1, 131) := rfl
theorem f_Ru_doSimple_138 : fetch 125 138 = some (.invokevirtual 132, 3, 4, 1, 128) := rfl
theorem f_Ru_doSimple_141 : fetch 125 141 = some (.iconst 1, 1, 0, 0, 0) := rfl
theorem f_Ru_doSimple_142 : fetch 125 142 = some (.ireturn, 1, 2, 0, 0) := rfl
theorem f_Ru_doSimple_143 : fetch 125 143 = some (.aload_n 1, 1, 0, 0, 0) := rfl
theorem f_Ru_doSimple_144 : fetch 125 144 = some (.iload_n 3, 1, 0, 0, 0) := rfl
theorem f_Ru_doSimple_145 : fetch 125 145 = some (.aload_n 1, 1, 0, 0, 0) := rfl
theorem f_Ru_doSimple_146 : fetch 125 146 = some (.invokevirtual 140, 3, 5, 0, 130) := rfl
theorem f_Ru_doSimple_149 : fetch 125 149 = some (.invokevirtual 58, 3, 3, 2, 115) := rfl
theorem f_Ru_doSimple_152 : fetch 125 152 = some (.iconst 1, 1, 0, 0, 0) := rfl
theorem f_Ru_doSimple_153 : fetch 125 153 = some (.ireturn, 1, 2, 0, 0) := rfl
theorem f_Ru_doSimple_154 : fetch 125 154 = some (.aload_n 0, 1, 0, 0, 0) := rfl
theorem f_Ru_doSimple_155 : fetch 125 155 = some (.aload_n 1, 1, 0, 0, 0) := rfl
theorem f_Ru_doSimple_156 : fetch 125 156 = some (.iload_n 2, 1, 0, 0, 0) := rfl
theorem f_Ru_doSimple_157 : fetch 125 157 = some (.invokevirtual 147, 3, 127, 2, 132) := rfl
theorem f_Ru_doSimple_160 : fetch 125 160 = some (.ireturn, 1, 2, 0, 0) := rfl
theorem f_Ru_doSimple_161 : fetch 125 161 = some (.aload_n 1, 1, 0, 0, 0) := rfl
theorem f_Ru_doSimple_162 : fetch 125 162 = some (.aload_n 1, 1, 0, 0, 0) := rfl
theorem f_Ru_doSimple_163 : fetch 125 163 = some (.aload_n 1, 1, 0, 0, 0) := rfl
theorem f_Ru_doSimple_164 : fetch 125 164 = some (.getfield 150, 3, 0, 4, 113) := rfl
theorem f_Ru_doSimple_167 : fetch 125 167 = some (.iconst 1, 1, 0, 0, 0) := rfl
theorem f_Ru_doSimple_168 : fetch 125 168 = some (.isub, 1, 0, 0, 0) := rfl
theorem f_Ru_doSimple_169 : fetch 125 169 = some (.invokevirtual 153, 3, 8, 1, 133) := rfl
theorem f_Ru_doSimple_172 : fetch 125 172 = some (.invokevirtual 132, 3, 4, 1, 128) := rfl
theorem f_Ru_doSimple_175 : fetch 125 175 = some (.iconst 1, 1, 0, 0, 0) := rfl
theorem f_Ru_doSimple_176 : fetch 125 176 = some (.ireturn, 1, 2, 0, 0) := rfl
theorem f_Ru_doSimple_177 : fetch 125 177 = some (.aload_n 1, 1, 0, 0, 0) := rfl
theorem f_Ru_doSimple_178 : fetch 125 178 = some (.invokevirtual 140, 3, 5, 0, 130) := rfl
theorem f_Ru_doSimple_181 : fetch 125 181 = some (.pop2, 1, 0, 0, 0) := rfl
theorem f_Ru_doSimple_182 : fetch 125 182 = some (.iconst 1, 1, 0, 0, 0) := rfl
theorem f_Ru_doSimple_183 : fetch 125 183 = some (.ireturn, 1, 2, 0, 0) := rfl
theorem f_Ru_doSimple_184 : fetch 125 184 = some (.aload_n 1, 1, 0, 0, 0) := rfl
theorem f_Ru_doSimple_185 : fetch 125 185 = some (.iload_n 3, 1, 0, 0, 0) := rfl
theorem f_Ru_doSimple_186 : fetch 125 186 = some (.iconst 1, 1, 0, 0, 0) := rfl
theorem f_Ru_doSimple_187 : fetch 125 187 = some (.invokestatic 156, 3, 130, 3, 134) := rfl
theorem f_Ru_doSimple_190 : fetch 125 190 = some (.ireturn, 1, 2, 0, 0) := rfl
theorem f_Ru_doSimple_191 : fetch 125 191 = some (.aload_n 1, 1, 0, 0, 0) := rfl
theorem f_Ru_doSimple_192 : fetch 125 192 = some (.iload_n 3, 1, 0, 0, 0) := rfl
theorem f_Ru_doSimple_193 : fetch 125 193 = some (.aload_n 1, 1, 0, 0, 0) := rfl
theorem f_Ru_doSimple_194 : fetch 125 194 = some (.invokevirtual 160, 3, 7, 0, 135) := rfl
theorem f_Ru_doSimple_197 : fetch 125 197 = some (.ifCond .eq 7, 3, 204, 0, 0) := rfl
theorem f_Ru_doSimple_200 : fetch 125 200 = some (.iconst 1, 1, 0, 0, 0) := rfl
theorem f_Ru_doSimple_201 : fetch 125 201 = some (.goto 4, 3, 205, 0, 0) := rfl
theorem f_Ru_doSimple_204 : fetch 125 204 = some (.iconst 0, 1, 0, 0, 0) := rfl
theorem f_Ru_doSimple_205 : fetch 125 205 = some (.invokestatic 156, 3, 130, 3, 134) := rfl
theorem f_Ru_doSimple_208 : fetch 125 208 = some (.ireturn, 1, 2, 0, 0) := rfl
theorem f_Ru_doSimple_209 : fetch 125 209 = some (.aload_n 1, 1, 0, 0, 0) := rfl
theorem f_Ru_doSimple_210 : fetch 125 210 = some (.iload_n 3, 1, 0, 0, 0) := rfl
theorem f_Ru_doSimple_211 : fetch 125 211 = some (.invokestatic 164, 3, 131, 2, 136) := rfl
theorem f_Ru_doSimple_214 : fetch 125 214 = some (.ireturn, 1, 2, 0, 0) := rfl
theorem f_Ru_doSimple_215 : fetch 125 215 = some (.iconst 1, 1, 0, 0, 0) := rfl
theorem f_Ru_doSimple_216 : fetch 125 216 = some (.ireturn, 1, 2, 0, 0) := rfl
def F_Ru_doSimple_205  (y0 : Nat) (y1 : Int32) (y2 : Bool) (σ : SG) : Option (Bool × SG) :=
  match F_Ru_jump (y0) (y1) (y2) σ with
  | none => none
  | some q1 =>
  some (q1.1, q1.2)
set_option maxHeartbeats 4000000 in
theorem w_Ru_doSimple_205 {b d : Nat} {sc : SC} {pre tl : List PE} {B : Nat} {Q : Option Value → List PE → Prop} {res : Bool × SG} (hB : B = b + pre.length) (hd : 3 ≤ d)   (hQ : Q (some (.int (bz res.1))) (HH pre tl SHc B res.2)) (lv : LV) (σ : SG) (y0 : Nat) (y1 : Int32) (y2 : Bool) (hy0 : isC SHc (y0) 0 = true) (hF : F_Ru_doSimple_205  y0 y1 y2 σ = some res) : Rn b sc d 125 205 lv [.int (bz (y2)), .int (y1), .ref (B + (y0))] (HH pre tl SHc B σ) Q := by
  obtain ⟨e0, rfl⟩ : ∃ e, d = e + 1 := ⟨d - 1, by omega⟩
  unfold F_Ru_doSimple_205 at hF
  cases hq1 : F_Ru_jump (y0) (y1) (y2) σ with
  | none => simp only [hq1] at hF; cases hF
  | some q1 =>
    simp only [hq1] at hF
    refine t_S3i f_Ru_doSimple_205 (by decide) (Nat.le_of_ble_eq_true rfl) (Nat.le_of_ble_eq_true rfl) (w_Ru_jump hB (by omega) (y0) (y1) (y2) hy0 hq1 ⟨_, rfl, ?_⟩)
    cases hF
    exact r_zreturn f_Ru_doSimple_208 (bz_or (q1.1)) hQ
def F_Ru_doSimple_154  (x0 : Nat) (x1 : Nat) (x2 : Int32) (σ : SG) : Option (Bool × SG) :=
  match F_Ru_compute (x0) (x1) (x2) σ with
  | none => none
  | some q2 =>
  some (q2.1, q2.2)
set_option maxHeartbeats 4000000 in
theorem w_Ru_doSimple_154 {b d : Nat} {sc : SC} {pre tl : List PE} {B : Nat} {Q : Option Value → List PE → Prop} {res : Bool × SG} (hB : B = b + pre.length) (hd : 3 ≤ d)   (hQ : Q (some (.int (bz res.1))) (HH pre tl SHc B res.2)) (lv : LV) (σ : SG) (x0 : Nat) (x1 : Nat) (x2 : Int32) (hx0 : isC SHc (x0) 5 = true) (hx1 : isC SHc (x1) 0 = true) (l0 : lv.lookup 0 = some (.ref (B + (x0)))) (l1 : lv.lookup 1 = some (.ref (B + (x1)))) (l2 : lv.lookup 2 = some (.int (x2))) (hF : F_Ru_doSimple_154  x0 x1 x2 σ = some res) : Rn b sc d 125 154 lv [] (HH pre tl SHc B σ) Q := by
  obtain ⟨e0, rfl⟩ : ∃ e, d = e + 1 := ⟨d - 1, by omega⟩
  unfold F_Ru_doSimple_154 at hF
  refine r_aload_n f_Ru_doSimple_154 l0 ?_
  refine r_aload_n f_Ru_doSimple_155 l1 ?_
  refine r_iload_n f_Ru_doSimple_156 l2 ?_
  cases hq2 : F_Ru_compute (x0) (x1) (x2) σ with
  | none => simp only [hq2] at hF; cases hF
  | some q2 =>
    simp only [hq2] at hF
    refine t_V2i hB hx0 rfl rfl f_Ru_doSimple_157 (by decide) (Nat.le_of_ble_eq_true rfl) (Nat.le_of_ble_eq_true rfl) (w_Ru_compute hB (by omega) (x0) (x1) (x2) hx0 hx1 hq2 ⟨_, rfl, ?_⟩)
    cases hF
    exact r_zreturn f_Ru_doSimple_160 (bz_or (q2.1)) hQ
def F_Ru_doSimple (a0 : Nat) (a1 : Nat) (a2 : Int32) (a3 : Int32) (σ : SG) : Option (Bool × SG) :=
  if a2 = 1 then
  match F_Op_signed (a3) σ with
  | none => none
  | some q4 =>
  match F_Fr_push (a1) (((q4.1 : Int32).toInt64)) q4.2 with
  | none => none
  | some q5 =>
  some (true, q5)
  else if a2 = 2 then
  match F_Ru_cell (a0) (((σ.1 (a1) 0) + a3)) σ with
  | none => none
  | some q7 =>
  match F_Fr_push (a1) (q7.1) q7.2 with
  | none => none
  | some q8 =>
  some (true, q8)
  else if a2 = 3 then
  match F_Fr_pop (a1) σ with
  | none => none
  | some q10 =>
  match F_Ru_setCell (a0) (((σ.1 (a1) 0) + a3)) (q10.1) q10.2 with
  | none => none
  | some q11 =>
  some (true, q11)
  else if a2 = 4 then
  match F_Fr_push (a1) (((((σ.1 (a1) 0) + a3) : Int32).toInt64)) σ with
  | none => none
  | some q13 =>
  some (true, q13)
  else if a2 = 5 then
  match F_Fr_argument (a1) (a3) σ with
  | none => none
  | some q15 =>
  match F_Fr_push (a1) (q15.1) q15.2 with
  | none => none
  | some q16 =>
  some (true, q16)
  else if a2 = 6 then
  match F_Fr_pop (a1) σ with
  | none => none
  | some q18 =>
  match F_Fr_setArgument (a1) (a3) (q18.1) q18.2 with
  | none => none
  | some q19 =>
  some (true, q19)
  else if a2 = 7 then
  F_Ru_doSimple_154 (a0) (a1) (a2) σ
  else if a2 = 8 then
  F_Ru_doSimple_154 (a0) (a1) (a2) σ
  else if a2 = 9 then
  F_Ru_doSimple_154 (a0) (a1) (a2) σ
  else if a2 = 10 then
  F_Ru_doSimple_154 (a0) (a1) (a2) σ
  else if a2 = 11 then
  match F_Fr_valueAt (a1) (((σ.1 (a1) 4) - (1 : Int32))) σ with
  | none => none
  | some q25 =>
  match F_Fr_push (a1) (q25.1) q25.2 with
  | none => none
  | some q26 =>
  some (true, q26)
  else if a2 = 12 then
  match F_Fr_pop (a1) σ with
  | none => none
  | some q28 =>
  some (true, q28.2)
  else if a2 = 13 then
  match F_Ru_jump (a1) (a3) (true) σ with
  | none => none
  | some q30 =>
  some (q30.1, q30.2)
  else if a2 = 14 then
  match F_Fr_popInt (a1) σ with
  | none => none
  | some q32 =>
  if q32.1 = 0 then
  F_Ru_doSimple_205 (a1) (a3) (false) q32.2
  else F_Ru_doSimple_205 (a1) (a3) (true) q32.2
  else if a2 = 15 then
  match F_Ru_jumpIfLess (a1) (a3) σ with
  | none => none
  | some q35 =>
  some (q35.1, q35.2)
  else some (true, σ)
set_option maxHeartbeats 4000000 in
theorem w_Ru_doSimple {b d : Nat} {pre tl : List PE} {B : Nat} {Q : Option Value → List PE → Prop} {res : Bool × SG} (hB : B = b + pre.length) (hd : 3 ≤ d)  {σ : SG} (a0 : Nat) (a1 : Nat) (a2 : Int32) (a3 : Int32) (ha0 : isC SHc (a0) 5 = true) (ha1 : isC SHc (a1) 0 = true) (hF : F_Ru_doSimple a0 a1 a2 a3 σ = some res) (hQ : Q (some (.int (bz res.1))) (HH pre tl SHc B res.2)) : Cl b d 125 [.ref (B + (a0)), .ref (B + (a1)), .int (a2), .int (a3)] (HH pre tl SHc B σ) Q := by
  obtain ⟨e0, rfl⟩ : ∃ e, d = e + 1 := ⟨d - 1, by omega⟩
  unfold Cl
  unfold F_Ru_doSimple at hF
  refine r_iload_n f_Ru_doSimple_0 rfl ?_
  by_cases c3 : a2 = 1
  · rw [if_pos c3] at hF
    refine r_tswI (t := 76) (off := 75) 0 f_Ru_doSimple_1 (by rw [c3]; decide) (by rw [c3]; decide) (by rfl) (by decide) ?_
    refine r_aload_n f_Ru_doSimple_76 rfl ?_
    refine r_iload_n f_Ru_doSimple_77 rfl ?_
    cases hq4 : F_Op_signed (a3) σ with
    | none => simp only [hq4] at hF; cases hF
    | some q4 =>
      simp only [hq4] at hF
      refine t_S1i f_Ru_doSimple_78 (by decide) (Nat.le_of_ble_eq_true rfl) (Nat.le_of_ble_eq_true rfl) (w_Op_signed hB  (a3)  hq4 ⟨_, rfl, ?_⟩)
      refine r_i2l f_Ru_doSimple_81 ?_
      cases hq5 : F_Fr_push (a1) (((q4.1 : Int32).toInt64)) q4.2 with
      | none => simp only [hq5] at hF; cases hF
      | some q5 =>
        simp only [hq5] at hF
        refine t_V1v hB ha1 rfl rfl f_Ru_doSimple_82 (by decide) (Nat.le_of_ble_eq_true rfl) (Nat.le_of_ble_eq_true rfl) (w_Fr_push hB  (a1) (((q4.1 : Int32).toInt64)) ha1 hq5 ⟨rfl, ?_⟩)
        refine r_iconst f_Ru_doSimple_85 (v := 1) (by decide) ?_
        cases hF
        exact r_zreturn f_Ru_doSimple_86 (bz_or (true)) hQ
  rw [if_neg c3] at hF
  by_cases c6 : a2 = 2
  · rw [if_pos c6] at hF
    refine r_tswI (t := 87) (off := 86) 1 f_Ru_doSimple_1 (by rw [c6]; decide) (by rw [c6]; decide) (by rfl) (by decide) ?_
    refine r_aload_n f_Ru_doSimple_87 rfl ?_
    refine r_aload_n f_Ru_doSimple_88 rfl ?_
    refine r_aload_n f_Ru_doSimple_89 rfl ?_
    refine t_geti hB ha1 f_Ru_doSimple_90 rfl ?_
    refine r_iload_n f_Ru_doSimple_93 rfl ?_
    refine r_iadd f_Ru_doSimple_94 ?_
    cases hq7 : F_Ru_cell (a0) (((σ.1 (a1) 0) + a3)) σ with
    | none => simp only [hq7] at hF; cases hF
    | some q7 =>
      simp only [hq7] at hF
      refine t_V1l hB ha0 rfl rfl f_Ru_doSimple_95 (by decide) (Nat.le_of_ble_eq_true rfl) (Nat.le_of_ble_eq_true rfl) (w_Ru_cell hB  (a0) (((σ.1 (a1) 0) + a3)) ha0 hq7 ⟨_, rfl, ?_⟩)
      cases hq8 : F_Fr_push (a1) (q7.1) q7.2 with
      | none => simp only [hq8] at hF; cases hF
      | some q8 =>
        simp only [hq8] at hF
        refine t_V1v hB ha1 rfl rfl f_Ru_doSimple_98 (by decide) (Nat.le_of_ble_eq_true rfl) (Nat.le_of_ble_eq_true rfl) (w_Fr_push hB  (a1) (q7.1) ha1 hq8 ⟨rfl, ?_⟩)
        refine r_iconst f_Ru_doSimple_101 (v := 1) (by decide) ?_
        cases hF
        exact r_zreturn f_Ru_doSimple_102 (bz_or (true)) hQ
  rw [if_neg c6] at hF
  by_cases c9 : a2 = 3
  · rw [if_pos c9] at hF
    refine r_tswI (t := 103) (off := 102) 2 f_Ru_doSimple_1 (by rw [c9]; decide) (by rw [c9]; decide) (by rfl) (by decide) ?_
    refine r_aload_n f_Ru_doSimple_103 rfl ?_
    refine r_aload_n f_Ru_doSimple_104 rfl ?_
    refine t_geti hB ha1 f_Ru_doSimple_105 rfl ?_
    refine r_iload_n f_Ru_doSimple_108 rfl ?_
    refine r_iadd f_Ru_doSimple_109 ?_
    refine r_aload_n f_Ru_doSimple_110 rfl ?_
    cases hq10 : F_Fr_pop (a1) σ with
    | none => simp only [hq10] at hF; cases hF
    | some q10 =>
      simp only [hq10] at hF
      refine t_V0l hB ha1 rfl rfl f_Ru_doSimple_111 (by decide) (Nat.le_of_ble_eq_true rfl) (Nat.le_of_ble_eq_true rfl) (w_Fr_pop hB  (a1) ha1 hq10 ⟨_, rfl, ?_⟩)
      cases hq11 : F_Ru_setCell (a0) (((σ.1 (a1) 0) + a3)) (q10.1) q10.2 with
      | none => simp only [hq11] at hF; cases hF
      | some q11 =>
        simp only [hq11] at hF
        refine t_V2v hB ha0 rfl rfl f_Ru_doSimple_114 (by decide) (Nat.le_of_ble_eq_true rfl) (Nat.le_of_ble_eq_true rfl) (w_Ru_setCell hB  (a0) (((σ.1 (a1) 0) + a3)) (q10.1) ha0 hq11 ⟨rfl, ?_⟩)
        refine r_iconst f_Ru_doSimple_117 (v := 1) (by decide) ?_
        cases hF
        exact r_zreturn f_Ru_doSimple_118 (bz_or (true)) hQ
  rw [if_neg c9] at hF
  by_cases c12 : a2 = 4
  · rw [if_pos c12] at hF
    refine r_tswI (t := 119) (off := 118) 3 f_Ru_doSimple_1 (by rw [c12]; decide) (by rw [c12]; decide) (by rfl) (by decide) ?_
    refine r_aload_n f_Ru_doSimple_119 rfl ?_
    refine r_aload_n f_Ru_doSimple_120 rfl ?_
    refine t_geti hB ha1 f_Ru_doSimple_121 rfl ?_
    refine r_iload_n f_Ru_doSimple_124 rfl ?_
    refine r_iadd f_Ru_doSimple_125 ?_
    refine r_i2l f_Ru_doSimple_126 ?_
    cases hq13 : F_Fr_push (a1) (((((σ.1 (a1) 0) + a3) : Int32).toInt64)) σ with
    | none => simp only [hq13] at hF; cases hF
    | some q13 =>
      simp only [hq13] at hF
      refine t_V1v hB ha1 rfl rfl f_Ru_doSimple_127 (by decide) (Nat.le_of_ble_eq_true rfl) (Nat.le_of_ble_eq_true rfl) (w_Fr_push hB  (a1) (((((σ.1 (a1) 0) + a3) : Int32).toInt64)) ha1 hq13 ⟨rfl, ?_⟩)
      refine r_iconst f_Ru_doSimple_130 (v := 1) (by decide) ?_
      cases hF
      exact r_zreturn f_Ru_doSimple_131 (bz_or (true)) hQ
  rw [if_neg c12] at hF
  by_cases c14 : a2 = 5
  · rw [if_pos c14] at hF
    refine r_tswI (t := 132) (off := 131) 4 f_Ru_doSimple_1 (by rw [c14]; decide) (by rw [c14]; decide) (by rfl) (by decide) ?_
    refine r_aload_n f_Ru_doSimple_132 rfl ?_
    refine r_aload_n f_Ru_doSimple_133 rfl ?_
    refine r_iload_n f_Ru_doSimple_134 rfl ?_
    cases hq15 : F_Fr_argument (a1) (a3) σ with
    | none => simp only [hq15] at hF; cases hF
    | some q15 =>
      simp only [hq15] at hF
      refine t_V1l hB ha1 rfl rfl f_Ru_doSimple_135 (by decide) (Nat.le_of_ble_eq_true rfl) (Nat.le_of_ble_eq_true rfl) (w_Fr_argument hB  (a1) (a3) ha1 hq15 ⟨_, rfl, ?_⟩)
      cases hq16 : F_Fr_push (a1) (q15.1) q15.2 with
      | none => simp only [hq16] at hF; cases hF
      | some q16 =>
        simp only [hq16] at hF
        refine t_V1v hB ha1 rfl rfl f_Ru_doSimple_138 (by decide) (Nat.le_of_ble_eq_true rfl) (Nat.le_of_ble_eq_true rfl) (w_Fr_push hB  (a1) (q15.1) ha1 hq16 ⟨rfl, ?_⟩)
        refine r_iconst f_Ru_doSimple_141 (v := 1) (by decide) ?_
        cases hF
        exact r_zreturn f_Ru_doSimple_142 (bz_or (true)) hQ
  rw [if_neg c14] at hF
  by_cases c17 : a2 = 6
  · rw [if_pos c17] at hF
    refine r_tswI (t := 143) (off := 142) 5 f_Ru_doSimple_1 (by rw [c17]; decide) (by rw [c17]; decide) (by rfl) (by decide) ?_
    refine r_aload_n f_Ru_doSimple_143 rfl ?_
    refine r_iload_n f_Ru_doSimple_144 rfl ?_
    refine r_aload_n f_Ru_doSimple_145 rfl ?_
    cases hq18 : F_Fr_pop (a1) σ with
    | none => simp only [hq18] at hF; cases hF
    | some q18 =>
      simp only [hq18] at hF
      refine t_V0l hB ha1 rfl rfl f_Ru_doSimple_146 (by decide) (Nat.le_of_ble_eq_true rfl) (Nat.le_of_ble_eq_true rfl) (w_Fr_pop hB  (a1) ha1 hq18 ⟨_, rfl, ?_⟩)
      cases hq19 : F_Fr_setArgument (a1) (a3) (q18.1) q18.2 with
      | none => simp only [hq19] at hF; cases hF
      | some q19 =>
        simp only [hq19] at hF
        refine t_V2v hB ha1 rfl rfl f_Ru_doSimple_149 (by decide) (Nat.le_of_ble_eq_true rfl) (Nat.le_of_ble_eq_true rfl) (w_Fr_setArgument hB  (a1) (a3) (q18.1) ha1 hq19 ⟨rfl, ?_⟩)
        refine r_iconst f_Ru_doSimple_152 (v := 1) (by decide) ?_
        cases hF
        exact r_zreturn f_Ru_doSimple_153 (bz_or (true)) hQ
  rw [if_neg c17] at hF
  by_cases c20 : a2 = 7
  · rw [if_pos c20] at hF
    refine r_tswI (t := 154) (off := 153) 6 f_Ru_doSimple_1 (by rw [c20]; decide) (by rw [c20]; decide) (by rfl) (by decide) ?_
    exact w_Ru_doSimple_154 hB hd  hQ _ (σ) (a0) (a1) (a2) ha0 ha1 rfl rfl rfl hF
  rw [if_neg c20] at hF
  by_cases c21 : a2 = 8
  · rw [if_pos c21] at hF
    refine r_tswI (t := 154) (off := 153) 7 f_Ru_doSimple_1 (by rw [c21]; decide) (by rw [c21]; decide) (by rfl) (by decide) ?_
    exact w_Ru_doSimple_154 hB hd  hQ _ (σ) (a0) (a1) (a2) ha0 ha1 rfl rfl rfl hF
  rw [if_neg c21] at hF
  by_cases c22 : a2 = 9
  · rw [if_pos c22] at hF
    refine r_tswI (t := 154) (off := 153) 8 f_Ru_doSimple_1 (by rw [c22]; decide) (by rw [c22]; decide) (by rfl) (by decide) ?_
    exact w_Ru_doSimple_154 hB hd  hQ _ (σ) (a0) (a1) (a2) ha0 ha1 rfl rfl rfl hF
  rw [if_neg c22] at hF
  by_cases c23 : a2 = 10
  · rw [if_pos c23] at hF
    refine r_tswI (t := 154) (off := 153) 9 f_Ru_doSimple_1 (by rw [c23]; decide) (by rw [c23]; decide) (by rfl) (by decide) ?_
    exact w_Ru_doSimple_154 hB hd  hQ _ (σ) (a0) (a1) (a2) ha0 ha1 rfl rfl rfl hF
  rw [if_neg c23] at hF
  by_cases c24 : a2 = 11
  · rw [if_pos c24] at hF
    refine r_tswI (t := 161) (off := 160) 10 f_Ru_doSimple_1 (by rw [c24]; decide) (by rw [c24]; decide) (by rfl) (by decide) ?_
    refine r_aload_n f_Ru_doSimple_161 rfl ?_
    refine r_aload_n f_Ru_doSimple_162 rfl ?_
    refine r_aload_n f_Ru_doSimple_163 rfl ?_
    refine t_geti hB ha1 f_Ru_doSimple_164 rfl ?_
    refine r_iconst f_Ru_doSimple_167 (v := 1) (by decide) ?_
    refine r_isub f_Ru_doSimple_168 ?_
    cases hq25 : F_Fr_valueAt (a1) (((σ.1 (a1) 4) - (1 : Int32))) σ with
    | none => simp only [hq25] at hF; cases hF
    | some q25 =>
      simp only [hq25] at hF
      refine t_V1l hB ha1 rfl rfl f_Ru_doSimple_169 (by decide) (Nat.le_of_ble_eq_true rfl) (Nat.le_of_ble_eq_true rfl) (w_Fr_valueAt hB  (a1) (((σ.1 (a1) 4) - (1 : Int32))) ha1 hq25 ⟨_, rfl, ?_⟩)
      cases hq26 : F_Fr_push (a1) (q25.1) q25.2 with
      | none => simp only [hq26] at hF; cases hF
      | some q26 =>
        simp only [hq26] at hF
        refine t_V1v hB ha1 rfl rfl f_Ru_doSimple_172 (by decide) (Nat.le_of_ble_eq_true rfl) (Nat.le_of_ble_eq_true rfl) (w_Fr_push hB  (a1) (q25.1) ha1 hq26 ⟨rfl, ?_⟩)
        refine r_iconst f_Ru_doSimple_175 (v := 1) (by decide) ?_
        cases hF
        exact r_zreturn f_Ru_doSimple_176 (bz_or (true)) hQ
  rw [if_neg c24] at hF
  by_cases c27 : a2 = 12
  · rw [if_pos c27] at hF
    refine r_tswI (t := 177) (off := 176) 11 f_Ru_doSimple_1 (by rw [c27]; decide) (by rw [c27]; decide) (by rfl) (by decide) ?_
    refine r_aload_n f_Ru_doSimple_177 rfl ?_
    cases hq28 : F_Fr_pop (a1) σ with
    | none => simp only [hq28] at hF; cases hF
    | some q28 =>
      simp only [hq28] at hF
      refine t_V0l hB ha1 rfl rfl f_Ru_doSimple_178 (by decide) (Nat.le_of_ble_eq_true rfl) (Nat.le_of_ble_eq_true rfl) (w_Fr_pop hB  (a1) ha1 hq28 ⟨_, rfl, ?_⟩)
      refine r_pop2 f_Ru_doSimple_181 rfl ?_
      refine r_iconst f_Ru_doSimple_182 (v := 1) (by decide) ?_
      cases hF
      exact r_zreturn f_Ru_doSimple_183 (bz_or (true)) hQ
  rw [if_neg c27] at hF
  by_cases c29 : a2 = 13
  · rw [if_pos c29] at hF
    refine r_tswI (t := 184) (off := 183) 12 f_Ru_doSimple_1 (by rw [c29]; decide) (by rw [c29]; decide) (by rfl) (by decide) ?_
    refine r_aload_n f_Ru_doSimple_184 rfl ?_
    refine r_iload_n f_Ru_doSimple_185 rfl ?_
    refine r_iconst f_Ru_doSimple_186 (v := 1) (by decide) ?_
    cases hq30 : F_Ru_jump (a1) (a3) (true) σ with
    | none => simp only [hq30] at hF; cases hF
    | some q30 =>
      simp only [hq30] at hF
      refine t_S3i f_Ru_doSimple_187 (by decide) (Nat.le_of_ble_eq_true rfl) (Nat.le_of_ble_eq_true rfl) (w_Ru_jump hB (by omega) (a1) (a3) (true) ha1 hq30 ⟨_, rfl, ?_⟩)
      cases hF
      exact r_zreturn f_Ru_doSimple_190 (bz_or (q30.1)) hQ
  rw [if_neg c29] at hF
  by_cases c31 : a2 = 14
  · rw [if_pos c31] at hF
    refine r_tswI (t := 191) (off := 190) 13 f_Ru_doSimple_1 (by rw [c31]; decide) (by rw [c31]; decide) (by rfl) (by decide) ?_
    refine r_aload_n f_Ru_doSimple_191 rfl ?_
    refine r_iload_n f_Ru_doSimple_192 rfl ?_
    refine r_aload_n f_Ru_doSimple_193 rfl ?_
    cases hq32 : F_Fr_popInt (a1) σ with
    | none => simp only [hq32] at hF; cases hF
    | some q32 =>
      simp only [hq32] at hF
      refine t_V0i hB ha1 rfl rfl f_Ru_doSimple_194 (by decide) (Nat.le_of_ble_eq_true rfl) (Nat.le_of_ble_eq_true rfl) (w_Fr_popInt hB (by omega) (a1) ha1 hq32 ⟨_, rfl, ?_⟩)
      refine r_if_eq f_Ru_doSimple_197 (fun c33 => ?_) (fun c33 => ?_)
      · rw [if_pos c33] at hF
        refine r_iconst f_Ru_doSimple_204 (v := 0) (by decide) ?_
        exact w_Ru_doSimple_205 hB hd  hQ _ (q32.2) (a1) (a3) (false) ha1 hF
      · rw [if_neg c33] at hF
        refine r_iconst f_Ru_doSimple_200 (v := 1) (by decide) ?_
        refine r_goto f_Ru_doSimple_201 ?_
        exact w_Ru_doSimple_205 hB hd  hQ _ (q32.2) (a1) (a3) (true) ha1 hF
  rw [if_neg c31] at hF
  by_cases c34 : a2 = 15
  · rw [if_pos c34] at hF
    refine r_tswI (t := 209) (off := 208) 14 f_Ru_doSimple_1 (by rw [c34]; decide) (by rw [c34]; decide) (by rfl) (by decide) ?_
    refine r_aload_n f_Ru_doSimple_209 rfl ?_
    refine r_iload_n f_Ru_doSimple_210 rfl ?_
    cases hq35 : F_Ru_jumpIfLess (a1) (a3) σ with
    | none => simp only [hq35] at hF; cases hF
    | some q35 =>
      simp only [hq35] at hF
      refine t_S2i f_Ru_doSimple_211 (by decide) (Nat.le_of_ble_eq_true rfl) (Nat.le_of_ble_eq_true rfl) (w_Ru_jumpIfLess hB (by omega) (a1) (a3) ha1 hq35 ⟨_, rfl, ?_⟩)
      cases hF
      exact r_zreturn f_Ru_doSimple_214 (bz_or (q35.1)) hQ
  rw [if_neg c34] at hF
  refine r_tswO f_Ru_doSimple_1 (by have zc3 := lv_neT c3 (by decide : (1 : Int32).toInt = 1); have zc6 := lv_neT c6 (by decide : (2 : Int32).toInt = 2); have zc9 := lv_neT c9 (by decide : (3 : Int32).toInt = 3); have zc12 := lv_neT c12 (by decide : (4 : Int32).toInt = 4); have zc14 := lv_neT c14 (by decide : (5 : Int32).toInt = 5); have zc17 := lv_neT c17 (by decide : (6 : Int32).toInt = 6); have zc20 := lv_neT c20 (by decide : (7 : Int32).toInt = 7); have zc21 := lv_neT c21 (by decide : (8 : Int32).toInt = 8); have zc22 := lv_neT c22 (by decide : (9 : Int32).toInt = 9); have zc23 := lv_neT c23 (by decide : (10 : Int32).toInt = 10); have zc24 := lv_neT c24 (by decide : (11 : Int32).toInt = 11); have zc27 := lv_neT c27 (by decide : (12 : Int32).toInt = 12); have zc29 := lv_neT c29 (by decide : (13 : Int32).toInt = 13); have zc31 := lv_neT c31 (by decide : (14 : Int32).toInt = 14); have zc34 := lv_neT c34 (by decide : (15 : Int32).toInt = 15); omega) ?_
  refine r_iconst f_Ru_doSimple_215 (v := 1) (by decide) ?_
  cases hF
  exact r_zreturn f_Ru_doSimple_216 (bz_or (true)) hQ
theorem f_Ru_addressIn_0 : fetch 134 0 = some (.bipush 32, 2, 0, 0, 0) := rfl
theorem f_Ru_addressIn_2 : fetch 134 2 = some (.iload_n 0, 1, 0, 0, 0) := rfl
theorem f_Ru_addressIn_3 : fetch 134 3 = some (.iconst 1, 1, 0, 0, 0) := rfl
theorem f_Ru_addressIn_4 : fetch 134 4 = some (.isub, 1, 0, 0, 0) := rfl
theorem f_Ru_addressIn_5 : fetch 134 5 = some (.bipush 20, 2, 0, 0, 0) := rfl
theorem f_Ru_addressIn_7 : fetch 134 7 = some (.imul, 1, 0, 0, 0) := rfl
theorem f_Ru_addressIn_8 : fetch 134 8 = some (.iadd, 1, 0, 0, 0) := rfl
theorem f_Ru_addressIn_9 : fetch 134 9 = some (.iload_n 1, 1, 0, 0, 0) := rfl
theorem f_Ru_addressIn_10 : fetch 134 10 = some (.iadd, 1, 0, 0, 0) := rfl
theorem f_Ru_addressIn_11 : fetch 134 11 = some (.ireturn, 1, 0, 0, 0) := rfl
def F_Ru_addressIn (a0 : Int32) (a1 : Int32) (σ : SG) : Option (Int32 × SG) :=
  some ((((32 : Int32) + ((a0 - (1 : Int32)) * (20 : Int32))) + a1), σ)
set_option maxHeartbeats 4000000 in
theorem w_Ru_addressIn {b d : Nat} {pre tl : List PE} {B : Nat} {Q : Option Value → List PE → Prop} {res : Int32 × SG} (hB : B = b + pre.length)  {σ : SG} (a0 : Int32) (a1 : Int32)  (hF : F_Ru_addressIn a0 a1 σ = some res) (hQ : Q (some (.int res.1)) (HH pre tl SHc B res.2)) : Cl b d 134 [.int (a0), .int (a1)] (HH pre tl SHc B σ) Q := by
  unfold Cl
  unfold F_Ru_addressIn at hF
  refine r_bipush f_Ru_addressIn_0 (v := 32) (by decide) ?_
  refine r_iload_n f_Ru_addressIn_2 rfl ?_
  refine r_iconst f_Ru_addressIn_3 (v := 1) (by decide) ?_
  refine r_isub f_Ru_addressIn_4 ?_
  refine r_bipush f_Ru_addressIn_5 (v := 20) (by decide) ?_
  refine r_imul f_Ru_addressIn_7 ?_
  refine r_iadd f_Ru_addressIn_8 ?_
  refine r_iload_n f_Ru_addressIn_9 rfl ?_
  refine r_iadd f_Ru_addressIn_10 ?_
  cases hF
  exact r_ireturn f_Ru_addressIn_11 hQ
theorem f_Ru_make_0 : fetch 133 0 = some (.aload_n 0, 1, 0, 0, 0) := rfl
theorem f_Ru_make_1 : fetch 133 1 = some (.getfield 51, 3, 5, 12, 108) := rfl
theorem f_Ru_make_4 : fetch 133 4 = some (.ifCond .lt 12, 3, 16, 0, 0) := rfl
theorem f_Ru_make_7 : fetch 133 7 = some (.aload_n 0, 1, 0, 0, 0) := rfl
theorem f_Ru_make_8 : fetch 133 8 = some (.getfield 51, 3, 5, 12, 108) := rfl
theorem f_Ru_make_11 : fetch 133 11 = some (.bipush 40, 2, 0, 0, 0) := rfl
theorem f_Ru_make_13 : fetch 133 13 = some (.if_icmp .lt 9, 3, 22, 0, 0) := rfl
theorem f_Ru_make_16 : fetch 133 16 = some (.aload_n 0, 1, 0, 0, 0) := rfl
theorem f_Ru_make_17 : fetch 133 17 = some (.iconst 4, 1, 0, 0, 0) := rfl
theorem f_Ru_make_18 : fetch 133 18 = some (.invokevirtual 167, 3, 128, 1, 137) := rfl
theorem f_Ru_make_21 : fetch 133 21 = some (.ireturn, 1, 2, 0, 0) := rfl
theorem f_Ru_make_22 : fetch 133 22 = some (.aload_n 0, 1, 0, 0, 0) := rfl
theorem f_Ru_make_23 : fetch 133 23 = some (.getfield 34, 3, 5, 3, 103) := rfl
theorem f_Ru_make_26 : fetch 133 26 = some (.aload_n 0, 1, 0, 0, 0) := rfl
theorem f_Ru_make_27 : fetch 133 27 = some (.getfield 51, 3, 5, 12, 108) := rfl
theorem f_Ru_make_30 : fetch 133 30 = some (.iload_n 2, 1, 0, 0, 0) := rfl
theorem f_Ru_make_31 : fetch 133 31 = some (.iastore, 1, 0, 0, 0) := rfl
theorem f_Ru_make_32 : fetch 133 32 = some (.aload_n 0, 1, 0, 0, 0) := rfl
theorem f_Ru_make_33 : fetch 133 33 = some (.dup, 1, 0, 0, 0) := rfl
theorem f_Ru_make_34 : fetch 133 34 = some (.getfield 51, 3, 5, 12, 108) := rfl
theorem f_Ru_make_37 : fetch 133 37 = some (.iconst 1, 1, 0, 0, 0) := rfl
theorem f_Ru_make_38 : fetch 133 38 = some (.iadd, 1, 0, 0, 0) := rfl
theorem f_Ru_make_39 : fetch 133 39 = some (.putfield 51, 3, 5, 12, 108) := rfl
theorem f_Ru_make_42 : fetch 133 42 = some (.iconst 0, 1, 0, 0, 0) := rfl
theorem f_Ru_make_43 : fetch 133 43 = some (.istore_n 3, 1, 0, 0, 0) := rfl
theorem f_Ru_make_44 : fetch 133 44 = some (.iload_n 3, 1, 0, 0, 0) := rfl
theorem f_Ru_make_45 : fetch 133 45 = some (.bipush 20, 2, 0, 0, 0) := rfl
theorem f_Ru_make_47 : fetch 133 47 = some (.if_icmp .ge 22, 3, 69, 0, 0) := rfl
theorem f_Ru_make_50 : fetch 133 50 = some (.aload_n 0, 1, 0, 0, 0) := rfl
theorem f_Ru_make_51 : fetch 133 51 = some (.aload_n 0, 1, 0, 0, 0) := rfl
theorem f_Ru_make_52 : fetch 133 52 = some (.getfield 51, 3, 5, 12, 108) := rfl
theorem f_Ru_make_55 : fetch 133 55 = some (.iload_n 3, 1, 0, 0, 0) := rfl
theorem f_Ru_make_56 : fetch 133 56 = some (.invokestatic 187, 3, 134, 2, 144) := rfl
theorem f_Ru_make_59 : fetch 133 59 = some (.lconst 0, 1, 0, 0, 0) := rfl
theorem f_Ru_make_60 : fetch 133 60 = some (.invokevirtual 77, 3, 123, 2, 119) := rfl
theorem f_Ru_make_63 : fetch 133 63 = some (.iinc 3 1, 3, 0, 0, 0) := rfl
theorem f_Ru_make_66 : fetch 133 66 = some (.goto (-22), 3, 44, 0, 0) := rfl
theorem f_Ru_make_69 : fetch 133 69 = some (.aload_n 1, 1, 0, 0, 0) := rfl
theorem f_Ru_make_70 : fetch 133 70 = some (.aload_n 0, 1, 0, 0, 0) := rfl
theorem f_Ru_make_71 : fetch 133 71 = some (.getfield 51, 3, 5, 12, 108) := rfl
theorem f_Ru_make_74 : fetch 133 74 = some (.i2l, 1, 0, 0, 0) := rfl
theorem f_Ru_make_75 : fetch 133 75 = some (.invokevirtual 132, 3, 4, 1, 128) := rfl
theorem f_Ru_make_78 : fetch 133 78 = some (.iconst 1, 1, 0, 0, 0) := rfl
theorem f_Ru_make_79 : fetch 133 79 = some (.ireturn, 1, 2, 0, 0) := rfl
def F_Ru_make_44  : Nat → Nat → Nat → Int32 → SG → Option (Bool × SG)
  | 0, _, _, _, _ => none
  | n + 1, x0, x1, x3, σ =>
  if (20 : Int32) ≤ x3 then
  match F_Fr_push (x1) ((((σ.1 (x0) 12) : Int32).toInt64)) σ with
  | none => none
  | some q2 =>
  some (true, q2)
  else match F_Ru_addressIn ((σ.1 (x0) 12)) (x3) σ with
  | none => none
  | some q3 =>
  match F_Ru_setCell (x0) (q3.1) ((0 : Int64)) q3.2 with
  | none => none
  | some q4 =>
  F_Ru_make_44  n (x0) (x1) ((x3 + 1)) q4
set_option maxHeartbeats 4000000 in
theorem w_Ru_make_44 {b d : Nat} {sc : SC} {pre tl : List PE} {B : Nat} {Q : Option Value → List PE → Prop} {res : Bool × SG} (hB : B = b + pre.length) (hd : 2 ≤ d)   (hQ : Q (some (.int (bz res.1))) (HH pre tl SHc B res.2)) : ∀ (n : Nat) (lv : LV) (σ : SG) (x0 : Nat) (x1 : Nat) (x3 : Int32), isC SHc (x0) 5 = true → isC SHc (x1) 0 = true → lv.lookup 0 = some (.ref (B + (x0))) → lv.lookup 1 = some (.ref (B + (x1))) → lv.lookup 3 = some (.int (x3)) → F_Ru_make_44  n x0 x1 x3 σ = some res → Rn b sc d 133 44 lv [] (HH pre tl SHc B σ) Q := by
  obtain ⟨e0, rfl⟩ : ∃ e, d = e + 1 := ⟨d - 1, by omega⟩
  intro n
  induction n with
  | zero => intro lv σ x0 x1 x3 hx0 hx1 l0 l1 l3 hF; cases hF
  | succ n ih =>
    intro lv σ x0 x1 x3 hx0 hx1 l0 l1 l3 hF
    unfold F_Ru_make_44 at hF
    refine r_iload_n f_Ru_make_44 l3 ?_
    refine r_bipush f_Ru_make_45 (v := 20) (by decide) ?_
    refine r_icmp_ge f_Ru_make_47 (fun c1 => ?_) (fun c1 => ?_)
    · rw [if_pos c1] at hF
      refine r_aload_n f_Ru_make_69 l1 ?_
      refine r_aload_n f_Ru_make_70 l0 ?_
      refine t_geti hB hx0 f_Ru_make_71 rfl ?_
      refine r_i2l f_Ru_make_74 ?_
      cases hq2 : F_Fr_push (x1) ((((σ.1 (x0) 12) : Int32).toInt64)) σ with
      | none => simp only [hq2] at hF; cases hF
      | some q2 =>
        simp only [hq2] at hF
        refine t_V1v hB hx1 rfl rfl f_Ru_make_75 (by decide) (Nat.le_of_ble_eq_true rfl) (Nat.le_of_ble_eq_true rfl) (w_Fr_push hB  (x1) ((((σ.1 (x0) 12) : Int32).toInt64)) hx1 hq2 ⟨rfl, ?_⟩)
        refine r_iconst f_Ru_make_78 (v := 1) (by decide) ?_
        cases hF
        exact r_zreturn f_Ru_make_79 (bz_or (true)) hQ
    · rw [if_neg c1] at hF
      refine r_aload_n f_Ru_make_50 l0 ?_
      refine r_aload_n f_Ru_make_51 l0 ?_
      refine t_geti hB hx0 f_Ru_make_52 rfl ?_
      refine r_iload_n f_Ru_make_55 l3 ?_
      cases hq3 : F_Ru_addressIn ((σ.1 (x0) 12)) (x3) σ with
      | none => simp only [hq3] at hF; cases hF
      | some q3 =>
        simp only [hq3] at hF
        refine t_S2i f_Ru_make_56 (by decide) (Nat.le_of_ble_eq_true rfl) (Nat.le_of_ble_eq_true rfl) (w_Ru_addressIn hB  ((σ.1 (x0) 12)) (x3)  hq3 ⟨_, rfl, ?_⟩)
        refine r_lconst f_Ru_make_59 (v := 0) (by decide) ?_
        cases hq4 : F_Ru_setCell (x0) (q3.1) ((0 : Int64)) q3.2 with
        | none => simp only [hq4] at hF; cases hF
        | some q4 =>
          simp only [hq4] at hF
          refine t_V2v hB hx0 rfl rfl f_Ru_make_60 (by decide) (Nat.le_of_ble_eq_true rfl) (Nat.le_of_ble_eq_true rfl) (w_Ru_setCell hB  (x0) (q3.1) ((0 : Int64)) hx0 hq4 ⟨rfl, ?_⟩)
          refine r_iinc f_Ru_make_63 l3 (w := x3 + 1) rfl ?_
          refine r_goto f_Ru_make_66 ?_
          exact ih _ (q4) (x0) (x1) ((x3 + 1)) hx0 hx1 (lk_put_ne l0 (by decide) (Or.inl rfl)) (lk_put_ne l1 (by decide) (Or.inl rfl)) lk_put hF
def F_Ru_make_16  (x0 : Nat) (σ : SG) : Option (Bool × SG) :=
  match F_Ru_raise (x0) ((4 : Int32)) σ with
  | none => none
  | some q5 =>
  some (q5.1, q5.2)
set_option maxHeartbeats 4000000 in
theorem w_Ru_make_16 {b d : Nat} {sc : SC} {pre tl : List PE} {B : Nat} {Q : Option Value → List PE → Prop} {res : Bool × SG} (hB : B = b + pre.length) (hd : 2 ≤ d)   (hQ : Q (some (.int (bz res.1))) (HH pre tl SHc B res.2)) (lv : LV) (σ : SG) (x0 : Nat) (hx0 : isC SHc (x0) 5 = true) (l0 : lv.lookup 0 = some (.ref (B + (x0)))) (hF : F_Ru_make_16  x0 σ = some res) : Rn b sc d 133 16 lv [] (HH pre tl SHc B σ) Q := by
  obtain ⟨e0, rfl⟩ : ∃ e, d = e + 1 := ⟨d - 1, by omega⟩
  unfold F_Ru_make_16 at hF
  refine r_aload_n f_Ru_make_16 l0 ?_
  refine r_iconst f_Ru_make_17 (v := 4) (by decide) ?_
  cases hq5 : F_Ru_raise (x0) ((4 : Int32)) σ with
  | none => simp only [hq5] at hF; cases hF
  | some q5 =>
    simp only [hq5] at hF
    refine t_V1i hB hx0 rfl rfl f_Ru_make_18 (by decide) (Nat.le_of_ble_eq_true rfl) (Nat.le_of_ble_eq_true rfl) (w_Ru_raise hB (by omega) (x0) ((4 : Int32)) hx0 hq5 ⟨_, rfl, ?_⟩)
    cases hF
    exact r_zreturn f_Ru_make_21 (bz_or (q5.1)) hQ
def F_Ru_make (a0 : Nat) (a1 : Nat) (a2 : Int32) (σ : SG) : Option (Bool × SG) :=
  if (σ.1 (a0) 12) < 0 then
  F_Ru_make_16 (a0) σ
  else if (σ.1 (a0) 12) < (40 : Int32) then
  if (σ.1 (a0) 12) < 0 ∨ 40 ≤ ((σ.1 (a0) 12)).toNatClampNeg then none else
  stl (setA σ ((cref SHc (a0) 3)) (((σ.1 (a0) 12)).toNatClampNeg) (a2)) fun s9 =>
  stl (setI s9 (a0) 12 (((s9.1 (a0) 12) + (1 : Int32)))) fun s10 =>
  F_Ru_make_44  5000 (a0) (a1) ((0 : Int32)) s10
  else F_Ru_make_16 (a0) σ
set_option maxHeartbeats 4000000 in
theorem w_Ru_make {b d : Nat} {pre tl : List PE} {B : Nat} {Q : Option Value → List PE → Prop} {res : Bool × SG} (hB : B = b + pre.length) (hd : 2 ≤ d)  {σ : SG} (a0 : Nat) (a1 : Nat) (a2 : Int32) (ha0 : isC SHc (a0) 5 = true) (ha1 : isC SHc (a1) 0 = true) (hF : F_Ru_make a0 a1 a2 σ = some res) (hQ : Q (some (.int (bz res.1))) (HH pre tl SHc B res.2)) : Cl b d 133 [.ref (B + (a0)), .ref (B + (a1)), .int (a2)] (HH pre tl SHc B σ) Q := by
  obtain ⟨e0, rfl⟩ : ∃ e, d = e + 1 := ⟨d - 1, by omega⟩
  unfold Cl
  unfold F_Ru_make at hF
  refine r_aload_n f_Ru_make_0 rfl ?_
  refine t_geti hB ha0 f_Ru_make_1 rfl ?_
  refine r_if_lt f_Ru_make_4 (fun c6 => ?_) (fun c6 => ?_)
  · rw [if_pos c6] at hF
    exact w_Ru_make_16 hB hd  hQ _ (σ) (a0) ha0 rfl hF
  · rw [if_neg c6] at hF
    refine r_aload_n f_Ru_make_7 rfl ?_
    refine t_geti hB ha0 f_Ru_make_8 rfl ?_
    refine r_bipush f_Ru_make_11 (v := 40) (by decide) ?_
    refine r_icmp_lt f_Ru_make_13 (fun c7 => ?_) (fun c7 => ?_)
    · rw [if_pos c7] at hF
      refine r_aload_n f_Ru_make_22 rfl ?_
      refine t_getc hB ha0 f_Ru_make_23 rfl ?_
      refine r_aload_n f_Ru_make_26 rfl ?_
      refine t_geti hB ha0 f_Ru_make_27 rfl ?_
      refine r_iload_n f_Ru_make_30 rfl ?_
      by_cases c8 : (σ.1 (a0) 12) < 0 ∨ 40 ≤ ((σ.1 (a0) 12)).toNatClampNeg
      · rw [if_pos c8] at hF; cases hF
      rw [if_neg c8] at hF
      refine t_iast hB (cc_5_3 ha0) f_Ru_make_31 c8 ?_
      generalize hs9 : setA σ ((cref SHc (a0) 3)) (((σ.1 (a0) 12)).toNatClampNeg) (a2) = s9 at hF ⊢
      rw [stl_eq] at hF
      refine r_aload_n f_Ru_make_32 rfl ?_
      refine r_dup f_Ru_make_33 rfl ?_
      refine t_geti hB ha0 f_Ru_make_34 rfl ?_
      refine r_iconst f_Ru_make_37 (v := 1) (by decide) ?_
      refine r_iadd f_Ru_make_38 ?_
      refine t_puti hB ha0 f_Ru_make_39 rfl rfl ?_
      generalize hs10 : setI s9 (a0) 12 (((s9.1 (a0) 12) + (1 : Int32))) = s10 at hF ⊢
      rw [stl_eq] at hF
      refine r_iconst f_Ru_make_42 (v := 0) (by decide) ?_
      refine r_istore_n f_Ru_make_43 ?_
      exact w_Ru_make_44 hB hd  hQ 5000 _ (s10) (a0) (a1) ((0 : Int32)) ha0 ha1 (lk_put_ne rfl (by decide) (Or.inl rfl)) (lk_put_ne rfl (by decide) (Or.inl rfl)) lk_put hF
    · rw [if_neg c7] at hF
      exact w_Ru_make_16 hB hd  hQ _ (σ) (a0) ha0 rfl hF
theorem f_Ru_doField_0 : fetch 135 0 = some (.iload_n 2, 1, 0, 0, 0) := rfl
theorem f_Ru_doField_1 : fetch 135 1 = some (.bipush 19, 2, 0, 0, 0) := rfl
theorem f_Ru_doField_3 : fetch 135 3 = some (.if_icmp .ne 10, 3, 13, 0, 0) := rfl
theorem f_Ru_doField_6 : fetch 135 6 = some (.aload_n 1, 1, 0, 0, 0) := rfl
theorem f_Ru_doField_7 : fetch 135 7 = some (.invokevirtual 140, 3, 5, 0, 130) := rfl
theorem f_Ru_doField_10 : fetch 135 10 = some (.goto 4, 3, 14, 0, 0) := rfl
theorem f_Ru_doField_13 : fetch 135 13 = some (.lconst 0, 1, 0, 0, 0) := rfl
theorem f_Ru_doField_14 : fetch 135 14 = some (.lstore 4, 2, 0, 0, 0) := rfl
theorem f_Ru_doField_16 : fetch 135 16 = some (.aload_n 1, 1, 0, 0, 0) := rfl
theorem f_Ru_doField_17 : fetch 135 17 = some (.invokevirtual 160, 3, 7, 0, 135) := rfl
theorem f_Ru_doField_20 : fetch 135 20 = some (.istore 6, 2, 0, 0, 0) := rfl
theorem f_Ru_doField_22 : fetch 135 22 = some (.iload 6, 2, 0, 0, 0) := rfl
theorem f_Ru_doField_24 : fetch 135 24 = some (.ifCond .ne 9, 3, 33, 0, 0) := rfl
theorem f_Ru_doField_27 : fetch 135 27 = some (.aload_n 0, 1, 0, 0, 0) := rfl
theorem f_Ru_doField_28 : fetch 135 28 = some (.iconst 2, 1, 0, 0, 0) := rfl
theorem f_Ru_doField_29 : fetch 135 29 = some (.invokevirtual 167, 3, 128, 1, 137) := rfl
theorem f_Ru_doField_32 : fetch 135 32 = some (.ireturn, 1, 2, 0, 0) := rfl
theorem f_Ru_doField_33 : fetch 135 33 = some (.iload 6, 2, 0, 0, 0) := rfl
theorem f_Ru_doField_35 : fetch 135 35 = some (.iload_n 3, 1, 0, 0, 0) := rfl
theorem f_Ru_doField_36 : fetch 135 36 = some (.invokestatic 187, 3, 134, 2, 144) := rfl
theorem f_Ru_doField_39 : fetch 135 39 = some (.istore 7, 2, 0, 0, 0) := rfl
theorem f_Ru_doField_41 : fetch 135 41 = some (.iload_n 2, 1, 0, 0, 0) := rfl
theorem f_Ru_doField_42 : fetch 135 42 = some (.bipush 19, 2, 0, 0, 0) := rfl
theorem f_Ru_doField_44 : fetch 135 44 = some (.if_icmp .ne 14, 3, 58, 0, 0) := rfl
theorem f_Ru_doField_47 : fetch 135 47 = some (.aload_n 0, 1, 0, 0, 0) := rfl
theorem f_Ru_doField_48 : fetch 135 48 = some (.iload 7, 2, 0, 0, 0) := rfl
theorem f_Ru_doField_50 : fetch 135 50 = some (.lload 4, 2, 0, 0, 0) := rfl
theorem f_Ru_doField_52 : fetch 135 52 = some (.invokevirtual 77, 3, 123, 2, 119) := rfl
theorem f_Ru_doField_55 : fetch 135 55 = some (.goto 25, 3, 80, 0, 0) := rfl
theorem f_Ru_doField_58 : fetch 135 58 = some (.aload_n 1, 1, 0, 0, 0) := rfl
theorem f_Ru_doField_59 : fetch 135 59 = some (.iload_n 2, 1, 0, 0, 0) := rfl
theorem f_Ru_doField_60 : fetch 135 60 = some (.bipush 18, 2, 0, 0, 0) := rfl
theorem f_Ru_doField_62 : fetch 135 62 = some (.if_icmp .ne 12, 3, 74, 0, 0) := rfl
theorem f_Ru_doField_65 : fetch 135 65 = some (.aload_n 0, 1, 0, 0, 0) := rfl
theorem f_Ru_doField_66 : fetch 135 66 = some (.iload 7, 2, 0, 0, 0) := rfl
theorem f_Ru_doField_68 : fetch 135 68 = some (.invokevirtual 136, 3, 126, 1, 129) := rfl
theorem f_Ru_doField_71 : fetch 135 71 = some (.goto 6, 3, 77, 0, 0) := rfl
theorem f_Ru_doField_74 : fetch 135 74 = some (.iload 7, 2, 0, 0, 0) := rfl
theorem f_Ru_doField_76 : fetch 135 76 = some (.i2l, 1, 0, 0, 0) := rfl
theorem f_Ru_doField_77 : fetch 135 77 = some (.invokevirtual 132, 3, 4, 1, 128) := rfl
theorem f_Ru_doField_80 : fetch 135 80 = some (.iconst 1, 1, 0, 0, 0) := rfl
theorem f_Ru_doField_81 : fetch 135 81 = some (.ireturn, 1, 2, 0, 0) := rfl
def F_Ru_doField_80   (σ : SG) : Option (Bool × SG) :=
  some (true, σ)
set_option maxHeartbeats 4000000 in
theorem w_Ru_doField_80 {b d : Nat} {sc : SC} {pre tl : List PE} {B : Nat} {Q : Option Value → List PE → Prop} {res : Bool × SG} (hB : B = b + pre.length) (hd : 2 ≤ d)   (hQ : Q (some (.int (bz res.1))) (HH pre tl SHc B res.2)) (lv : LV) (σ : SG)   (hF : F_Ru_doField_80   σ = some res) : Rn b sc d 135 80 lv [] (HH pre tl SHc B σ) Q := by
  obtain ⟨e0, rfl⟩ : ∃ e, d = e + 1 := ⟨d - 1, by omega⟩
  unfold F_Ru_doField_80 at hF
  refine r_iconst f_Ru_doField_80 (v := 1) (by decide) ?_
  cases hF
  exact r_zreturn f_Ru_doField_81 (bz_or (true)) hQ
def F_Ru_doField_77  (y0 : Nat) (y1 : Int64) (σ : SG) : Option (Bool × SG) :=
  match F_Fr_push (y0) (y1) σ with
  | none => none
  | some q1 =>
  F_Ru_doField_80 q1
set_option maxHeartbeats 4000000 in
theorem w_Ru_doField_77 {b d : Nat} {sc : SC} {pre tl : List PE} {B : Nat} {Q : Option Value → List PE → Prop} {res : Bool × SG} (hB : B = b + pre.length) (hd : 2 ≤ d)   (hQ : Q (some (.int (bz res.1))) (HH pre tl SHc B res.2)) (lv : LV) (σ : SG) (y0 : Nat) (y1 : Int64) (hy0 : isC SHc (y0) 0 = true) (hF : F_Ru_doField_77  y0 y1 σ = some res) : Rn b sc d 135 77 lv [.long (y1), .ref (B + (y0))] (HH pre tl SHc B σ) Q := by
  obtain ⟨e0, rfl⟩ : ∃ e, d = e + 1 := ⟨d - 1, by omega⟩
  unfold F_Ru_doField_77 at hF
  cases hq1 : F_Fr_push (y0) (y1) σ with
  | none => simp only [hq1] at hF; cases hF
  | some q1 =>
    simp only [hq1] at hF
    refine t_V1v hB hy0 rfl rfl f_Ru_doField_77 (by decide) (Nat.le_of_ble_eq_true rfl) (Nat.le_of_ble_eq_true rfl) (w_Fr_push hB  (y0) (y1) hy0 hq1 ⟨rfl, ?_⟩)
    exact w_Ru_doField_80 hB hd  hQ _ (q1) hF
def F_Ru_doField_14  (x0 : Nat) (x1 : Nat) (x2 : Int32) (x3 : Int32) (y0 : Int64) (σ : SG) : Option (Bool × SG) :=
  match F_Fr_popInt (x1) σ with
  | none => none
  | some q2 =>
  if q2.1 = 0 then
  match F_Ru_raise (x0) ((2 : Int32)) q2.2 with
  | none => none
  | some q9 =>
  some (q9.1, q9.2)
  else match F_Ru_addressIn (q2.1) (x3) q2.2 with
  | none => none
  | some q4 =>
  if x2 = (19 : Int32) then
  match F_Ru_setCell (x0) (q4.1) (y0) q4.2 with
  | none => none
  | some q8 =>
  F_Ru_doField_80 q8
  else if x2 = (18 : Int32) then
  match F_Ru_cell (x0) (q4.1) q4.2 with
  | none => none
  | some q7 =>
  F_Ru_doField_77 (x1) (q7.1) q7.2
  else F_Ru_doField_77 (x1) (((q4.1 : Int32).toInt64)) q4.2
set_option maxHeartbeats 4000000 in
theorem w_Ru_doField_14 {b d : Nat} {sc : SC} {pre tl : List PE} {B : Nat} {Q : Option Value → List PE → Prop} {res : Bool × SG} (hB : B = b + pre.length) (hd : 2 ≤ d)   (hQ : Q (some (.int (bz res.1))) (HH pre tl SHc B res.2)) (lv : LV) (σ : SG) (x0 : Nat) (x1 : Nat) (x2 : Int32) (x3 : Int32) (y0 : Int64) (hx0 : isC SHc (x0) 5 = true) (hx1 : isC SHc (x1) 0 = true) (l0 : lv.lookup 0 = some (.ref (B + (x0)))) (l1 : lv.lookup 1 = some (.ref (B + (x1)))) (l2 : lv.lookup 2 = some (.int (x2))) (l3 : lv.lookup 3 = some (.int (x3))) (hF : F_Ru_doField_14  x0 x1 x2 x3 y0 σ = some res) : Rn b sc d 135 14 lv [.long (y0)] (HH pre tl SHc B σ) Q := by
  obtain ⟨e0, rfl⟩ : ∃ e, d = e + 1 := ⟨d - 1, by omega⟩
  unfold F_Ru_doField_14 at hF
  refine r_lstore f_Ru_doField_14 ?_
  refine r_aload_n f_Ru_doField_16 (lk_put2_ne l1 (by decide) (by decide) (Or.inl rfl)) ?_
  cases hq2 : F_Fr_popInt (x1) σ with
  | none => simp only [hq2] at hF; cases hF
  | some q2 =>
    simp only [hq2] at hF
    refine t_V0i hB hx1 rfl rfl f_Ru_doField_17 (by decide) (Nat.le_of_ble_eq_true rfl) (Nat.le_of_ble_eq_true rfl) (w_Fr_popInt hB (by omega) (x1) hx1 hq2 ⟨_, rfl, ?_⟩)
    refine r_istore f_Ru_doField_20 ?_
    refine r_iload f_Ru_doField_22 lk_put ?_
    refine r_if_ne f_Ru_doField_24 (fun c3 => ?_) (fun c3 => ?_)
    · rw [if_neg c3] at hF
      refine r_iload f_Ru_doField_33 lk_put ?_
      refine r_iload_n f_Ru_doField_35 (lk_put_ne (lk_put2_ne l3 (by decide) (by decide) (Or.inl rfl)) (by decide) (Or.inl rfl)) ?_
      cases hq4 : F_Ru_addressIn (q2.1) (x3) q2.2 with
      | none => simp only [hq4] at hF; cases hF
      | some q4 =>
        simp only [hq4] at hF
        refine t_S2i f_Ru_doField_36 (by decide) (Nat.le_of_ble_eq_true rfl) (Nat.le_of_ble_eq_true rfl) (w_Ru_addressIn hB  (q2.1) (x3)  hq4 ⟨_, rfl, ?_⟩)
        refine r_istore f_Ru_doField_39 ?_
        refine r_iload_n f_Ru_doField_41 (lk_put_ne (lk_put_ne (lk_put2_ne l2 (by decide) (by decide) (Or.inl rfl)) (by decide) (Or.inl rfl)) (by decide) (Or.inl rfl)) ?_
        refine r_bipush f_Ru_doField_42 (v := 19) (by decide) ?_
        refine r_icmp_ne f_Ru_doField_44 (fun c5 => ?_) (fun c5 => ?_)
        · rw [if_neg c5] at hF
          refine r_aload_n f_Ru_doField_58 (lk_put_ne (lk_put_ne (lk_put2_ne l1 (by decide) (by decide) (Or.inl rfl)) (by decide) (Or.inl rfl)) (by decide) (Or.inl rfl)) ?_
          refine r_iload_n f_Ru_doField_59 (lk_put_ne (lk_put_ne (lk_put2_ne l2 (by decide) (by decide) (Or.inl rfl)) (by decide) (Or.inl rfl)) (by decide) (Or.inl rfl)) ?_
          refine r_bipush f_Ru_doField_60 (v := 18) (by decide) ?_
          refine r_icmp_ne f_Ru_doField_62 (fun c6 => ?_) (fun c6 => ?_)
          · rw [if_neg c6] at hF
            refine r_iload f_Ru_doField_74 lk_put ?_
            refine r_i2l f_Ru_doField_76 ?_
            exact w_Ru_doField_77 hB hd  hQ _ (q4.2) (x1) (((q4.1 : Int32).toInt64)) hx1 hF
          · rw [if_pos (Decidable.not_not.mp c6)] at hF
            refine r_aload_n f_Ru_doField_65 (lk_put_ne (lk_put_ne (lk_put2_ne l0 (by decide) (by decide) (Or.inl rfl)) (by decide) (Or.inl rfl)) (by decide) (Or.inl rfl)) ?_
            refine r_iload f_Ru_doField_66 lk_put ?_
            cases hq7 : F_Ru_cell (x0) (q4.1) q4.2 with
            | none => simp only [hq7] at hF; cases hF
            | some q7 =>
              simp only [hq7] at hF
              refine t_V1l hB hx0 rfl rfl f_Ru_doField_68 (by decide) (Nat.le_of_ble_eq_true rfl) (Nat.le_of_ble_eq_true rfl) (w_Ru_cell hB  (x0) (q4.1) hx0 hq7 ⟨_, rfl, ?_⟩)
              refine r_goto f_Ru_doField_71 ?_
              exact w_Ru_doField_77 hB hd  hQ _ (q7.2) (x1) (q7.1) hx1 hF
        · rw [if_pos (Decidable.not_not.mp c5)] at hF
          refine r_aload_n f_Ru_doField_47 (lk_put_ne (lk_put_ne (lk_put2_ne l0 (by decide) (by decide) (Or.inl rfl)) (by decide) (Or.inl rfl)) (by decide) (Or.inl rfl)) ?_
          refine r_iload f_Ru_doField_48 lk_put ?_
          refine r_lload f_Ru_doField_50 (lk_put_ne (lk_put_ne lk_put2 (by decide) (Or.inr (by decide))) (by decide) (Or.inr (by decide))) ?_
          cases hq8 : F_Ru_setCell (x0) (q4.1) (y0) q4.2 with
          | none => simp only [hq8] at hF; cases hF
          | some q8 =>
            simp only [hq8] at hF
            refine t_V2v hB hx0 rfl rfl f_Ru_doField_52 (by decide) (Nat.le_of_ble_eq_true rfl) (Nat.le_of_ble_eq_true rfl) (w_Ru_setCell hB  (x0) (q4.1) (y0) hx0 hq8 ⟨rfl, ?_⟩)
            refine r_goto f_Ru_doField_55 ?_
            exact w_Ru_doField_80 hB hd  hQ _ (q8) hF
    · rw [if_pos (Decidable.not_not.mp c3)] at hF
      refine r_aload_n f_Ru_doField_27 (lk_put_ne (lk_put2_ne l0 (by decide) (by decide) (Or.inl rfl)) (by decide) (Or.inl rfl)) ?_
      refine r_iconst f_Ru_doField_28 (v := 2) (by decide) ?_
      cases hq9 : F_Ru_raise (x0) ((2 : Int32)) q2.2 with
      | none => simp only [hq9] at hF; cases hF
      | some q9 =>
        simp only [hq9] at hF
        refine t_V1i hB hx0 rfl rfl f_Ru_doField_29 (by decide) (Nat.le_of_ble_eq_true rfl) (Nat.le_of_ble_eq_true rfl) (w_Ru_raise hB (by omega) (x0) ((2 : Int32)) hx0 hq9 ⟨_, rfl, ?_⟩)
        cases hF
        exact r_zreturn f_Ru_doField_32 (bz_or (q9.1)) hQ
def F_Ru_doField (a0 : Nat) (a1 : Nat) (a2 : Int32) (a3 : Int32) (σ : SG) : Option (Bool × SG) :=
  if a2 = (19 : Int32) then
  match F_Fr_pop (a1) σ with
  | none => none
  | some q11 =>
  F_Ru_doField_14 (a0) (a1) (a2) (a3) (q11.1) q11.2
  else F_Ru_doField_14 (a0) (a1) (a2) (a3) ((0 : Int64)) σ
set_option maxHeartbeats 4000000 in
theorem w_Ru_doField {b d : Nat} {pre tl : List PE} {B : Nat} {Q : Option Value → List PE → Prop} {res : Bool × SG} (hB : B = b + pre.length) (hd : 2 ≤ d)  {σ : SG} (a0 : Nat) (a1 : Nat) (a2 : Int32) (a3 : Int32) (ha0 : isC SHc (a0) 5 = true) (ha1 : isC SHc (a1) 0 = true) (hF : F_Ru_doField a0 a1 a2 a3 σ = some res) (hQ : Q (some (.int (bz res.1))) (HH pre tl SHc B res.2)) : Cl b d 135 [.ref (B + (a0)), .ref (B + (a1)), .int (a2), .int (a3)] (HH pre tl SHc B σ) Q := by
  obtain ⟨e0, rfl⟩ : ∃ e, d = e + 1 := ⟨d - 1, by omega⟩
  unfold Cl
  unfold F_Ru_doField at hF
  refine r_iload_n f_Ru_doField_0 rfl ?_
  refine r_bipush f_Ru_doField_1 (v := 19) (by decide) ?_
  refine r_icmp_ne f_Ru_doField_3 (fun c10 => ?_) (fun c10 => ?_)
  · rw [if_neg c10] at hF
    refine r_lconst f_Ru_doField_13 (v := 0) (by decide) ?_
    exact w_Ru_doField_14 hB hd  hQ _ (σ) (a0) (a1) (a2) (a3) ((0 : Int64)) ha0 ha1 rfl rfl rfl rfl hF
  · rw [if_pos (Decidable.not_not.mp c10)] at hF
    refine r_aload_n f_Ru_doField_6 rfl ?_
    cases hq11 : F_Fr_pop (a1) σ with
    | none => simp only [hq11] at hF; cases hF
    | some q11 =>
      simp only [hq11] at hF
      refine t_V0l hB ha1 rfl rfl f_Ru_doField_7 (by decide) (Nat.le_of_ble_eq_true rfl) (Nat.le_of_ble_eq_true rfl) (w_Fr_pop hB  (a1) ha1 hq11 ⟨_, rfl, ?_⟩)
      refine r_goto f_Ru_doField_10 ?_
      exact w_Ru_doField_14 hB hd  hQ _ (q11.2) (a0) (a1) (a2) (a3) (q11.1) ha0 ha1 rfl rfl rfl rfl hF
theorem f_Ru_makeArray_0 : fetch 136 0 = some (.aload_n 1, 1, 0, 0, 0) := rfl
theorem f_Ru_makeArray_1 : fetch 136 1 = some (.invokevirtual 160, 3, 7, 0, 135) := rfl
theorem f_Ru_makeArray_4 : fetch 136 4 = some (.istore_n 2, 1, 0, 0, 0) := rfl
theorem f_Ru_makeArray_5 : fetch 136 5 = some (.iload_n 2, 1, 0, 0, 0) := rfl
theorem f_Ru_makeArray_6 : fetch 136 6 = some (.ifCond .lt 9, 3, 15, 0, 0) := rfl
theorem f_Ru_makeArray_9 : fetch 136 9 = some (.iload_n 2, 1, 0, 0, 0) := rfl
theorem f_Ru_makeArray_10 : fetch 136 10 = some (.bipush 20, 2, 0, 0, 0) := rfl
theorem f_Ru_makeArray_12 : fetch 136 12 = some (.if_icmp .le 9, 3, 21, 0, 0) := rfl
theorem f_Ru_makeArray_15 : fetch 136 15 = some (.aload_n 0, 1, 0, 0, 0) := rfl
theorem f_Ru_makeArray_16 : fetch 136 16 = some (.iconst 3, 1, 0, 0, 0) := rfl
theorem f_Ru_makeArray_17 : fetch 136 17 = some (.invokevirtual 167, 3, 128, 1, 137) := rfl
theorem f_Ru_makeArray_20 : fetch 136 20 = some (.ireturn, 1, 2, 0, 0) := rfl
theorem f_Ru_makeArray_21 : fetch 136 21 = some (.aload_n 0, 1, 0, 0, 0) := rfl
theorem f_Ru_makeArray_22 : fetch 136 22 = some (.aload_n 1, 1, 0, 0, 0) := rfl
theorem f_Ru_makeArray_23 : fetch 136 23 = some (.iload_n 2, 1, 0, 0, 0) := rfl
theorem f_Ru_makeArray_24 : fetch 136 24 = some (.invokevirtual 171, 3, 133, 2, 139) := rfl
theorem f_Ru_makeArray_27 : fetch 136 27 = some (.ireturn, 1, 2, 0, 0) := rfl
def F_Ru_makeArray_15  (x0 : Nat) (σ : SG) : Option (Bool × SG) :=
  match F_Ru_raise (x0) ((3 : Int32)) σ with
  | none => none
  | some q1 =>
  some (q1.1, q1.2)
set_option maxHeartbeats 4000000 in
theorem w_Ru_makeArray_15 {b d : Nat} {sc : SC} {pre tl : List PE} {B : Nat} {Q : Option Value → List PE → Prop} {res : Bool × SG} (hB : B = b + pre.length) (hd : 3 ≤ d)   (hQ : Q (some (.int (bz res.1))) (HH pre tl SHc B res.2)) (lv : LV) (σ : SG) (x0 : Nat) (hx0 : isC SHc (x0) 5 = true) (l0 : lv.lookup 0 = some (.ref (B + (x0)))) (hF : F_Ru_makeArray_15  x0 σ = some res) : Rn b sc d 136 15 lv [] (HH pre tl SHc B σ) Q := by
  obtain ⟨e0, rfl⟩ : ∃ e, d = e + 1 := ⟨d - 1, by omega⟩
  unfold F_Ru_makeArray_15 at hF
  refine r_aload_n f_Ru_makeArray_15 l0 ?_
  refine r_iconst f_Ru_makeArray_16 (v := 3) (by decide) ?_
  cases hq1 : F_Ru_raise (x0) ((3 : Int32)) σ with
  | none => simp only [hq1] at hF; cases hF
  | some q1 =>
    simp only [hq1] at hF
    refine t_V1i hB hx0 rfl rfl f_Ru_makeArray_17 (by decide) (Nat.le_of_ble_eq_true rfl) (Nat.le_of_ble_eq_true rfl) (w_Ru_raise hB (by omega) (x0) ((3 : Int32)) hx0 hq1 ⟨_, rfl, ?_⟩)
    cases hF
    exact r_zreturn f_Ru_makeArray_20 (bz_or (q1.1)) hQ
def F_Ru_makeArray (a0 : Nat) (a1 : Nat) (σ : SG) : Option (Bool × SG) :=
  match F_Fr_popInt (a1) σ with
  | none => none
  | some q2 =>
  if q2.1 < 0 then
  F_Ru_makeArray_15 (a0) q2.2
  else if q2.1 ≤ (20 : Int32) then
  match F_Ru_make (a0) (a1) (q2.1) q2.2 with
  | none => none
  | some q5 =>
  some (q5.1, q5.2)
  else F_Ru_makeArray_15 (a0) q2.2
set_option maxHeartbeats 4000000 in
theorem w_Ru_makeArray {b d : Nat} {pre tl : List PE} {B : Nat} {Q : Option Value → List PE → Prop} {res : Bool × SG} (hB : B = b + pre.length) (hd : 3 ≤ d)  {σ : SG} (a0 : Nat) (a1 : Nat) (ha0 : isC SHc (a0) 5 = true) (ha1 : isC SHc (a1) 0 = true) (hF : F_Ru_makeArray a0 a1 σ = some res) (hQ : Q (some (.int (bz res.1))) (HH pre tl SHc B res.2)) : Cl b d 136 [.ref (B + (a0)), .ref (B + (a1))] (HH pre tl SHc B σ) Q := by
  obtain ⟨e0, rfl⟩ : ∃ e, d = e + 1 := ⟨d - 1, by omega⟩
  unfold Cl
  unfold F_Ru_makeArray at hF
  refine r_aload_n f_Ru_makeArray_0 rfl ?_
  cases hq2 : F_Fr_popInt (a1) σ with
  | none => simp only [hq2] at hF; cases hF
  | some q2 =>
    simp only [hq2] at hF
    refine t_V0i hB ha1 rfl rfl f_Ru_makeArray_1 (by decide) (Nat.le_of_ble_eq_true rfl) (Nat.le_of_ble_eq_true rfl) (w_Fr_popInt hB (by omega) (a1) ha1 hq2 ⟨_, rfl, ?_⟩)
    refine r_istore_n f_Ru_makeArray_4 ?_
    refine r_iload_n f_Ru_makeArray_5 lk_put ?_
    refine r_if_lt f_Ru_makeArray_6 (fun c3 => ?_) (fun c3 => ?_)
    · rw [if_pos c3] at hF
      exact w_Ru_makeArray_15 hB hd  hQ _ (q2.2) (a0) ha0 (lk_put_ne rfl (by decide) (Or.inl rfl)) hF
    · rw [if_neg c3] at hF
      refine r_iload_n f_Ru_makeArray_9 lk_put ?_
      refine r_bipush f_Ru_makeArray_10 (v := 20) (by decide) ?_
      refine r_icmp_le f_Ru_makeArray_12 (fun c4 => ?_) (fun c4 => ?_)
      · rw [if_pos c4] at hF
        refine r_aload_n f_Ru_makeArray_21 (lk_put_ne rfl (by decide) (Or.inl rfl)) ?_
        refine r_aload_n f_Ru_makeArray_22 (lk_put_ne rfl (by decide) (Or.inl rfl)) ?_
        refine r_iload_n f_Ru_makeArray_23 lk_put ?_
        cases hq5 : F_Ru_make (a0) (a1) (q2.1) q2.2 with
        | none => simp only [hq5] at hF; cases hF
        | some q5 =>
          simp only [hq5] at hF
          refine t_V2i hB ha0 rfl rfl f_Ru_makeArray_24 (by decide) (Nat.le_of_ble_eq_true rfl) (Nat.le_of_ble_eq_true rfl) (w_Ru_make hB (by omega) (a0) (a1) (q2.1) ha0 ha1 hq5 ⟨_, rfl, ?_⟩)
          cases hF
          exact r_zreturn f_Ru_makeArray_27 (bz_or (q5.1)) hQ
      · rw [if_neg c4] at hF
        exact w_Ru_makeArray_15 hB hd  hQ _ (q2.2) (a0) ha0 (lk_put_ne rfl (by decide) (Or.inl rfl)) hF
theorem f_Ru_itemCount_0 : fetch 138 0 = some (.iload_n 1, 1, 0, 0, 0) := rfl
theorem f_Ru_itemCount_1 : fetch 138 1 = some (.iconst 1, 1, 0, 0, 0) := rfl
theorem f_Ru_itemCount_2 : fetch 138 2 = some (.if_icmp .lt 9, 3, 11, 0, 0) := rfl
theorem f_Ru_itemCount_5 : fetch 138 5 = some (.iload_n 1, 1, 0, 0, 0) := rfl
theorem f_Ru_itemCount_6 : fetch 138 6 = some (.bipush 40, 2, 0, 0, 0) := rfl
theorem f_Ru_itemCount_8 : fetch 138 8 = some (.if_icmp .le 7, 3, 15, 0, 0) := rfl
theorem f_Ru_itemCount_11 : fetch 138 11 = some (.iconst 0, 1, 0, 0, 0) := rfl
theorem f_Ru_itemCount_12 : fetch 138 12 = some (.goto 11, 3, 23, 0, 0) := rfl
theorem f_Ru_itemCount_15 : fetch 138 15 = some (.aload_n 0, 1, 0, 0, 0) := rfl
theorem f_Ru_itemCount_16 : fetch 138 16 = some (.getfield 34, 3, 5, 3, 103) := rfl
theorem f_Ru_itemCount_19 : fetch 138 19 = some (.iload_n 1, 1, 0, 0, 0) := rfl
theorem f_Ru_itemCount_20 : fetch 138 20 = some (.iconst 1, 1, 0, 0, 0) := rfl
theorem f_Ru_itemCount_21 : fetch 138 21 = some (.isub, 1, 0, 0, 0) := rfl
theorem f_Ru_itemCount_22 : fetch 138 22 = some (.iaload, 1, 0, 0, 0) := rfl
theorem f_Ru_itemCount_23 : fetch 138 23 = some (.ireturn, 1, 0, 0, 0) := rfl
def F_Ru_itemCount_23  (y0 : Int32) (σ : SG) : Option (Int32 × SG) :=
  some (y0, σ)
set_option maxHeartbeats 4000000 in
theorem w_Ru_itemCount_23 {b d : Nat} {sc : SC} {pre tl : List PE} {B : Nat} {Q : Option Value → List PE → Prop} {res : Int32 × SG} (hB : B = b + pre.length)   (hQ : Q (some (.int res.1)) (HH pre tl SHc B res.2)) (lv : LV) (σ : SG) (y0 : Int32)  (hF : F_Ru_itemCount_23  y0 σ = some res) : Rn b sc d 138 23 lv [.int (y0)] (HH pre tl SHc B σ) Q := by
  unfold F_Ru_itemCount_23 at hF
  cases hF
  exact r_ireturn f_Ru_itemCount_23 hQ
def F_Ru_itemCount_11   (σ : SG) : Option (Int32 × SG) :=
  F_Ru_itemCount_23 ((0 : Int32)) σ
set_option maxHeartbeats 4000000 in
theorem w_Ru_itemCount_11 {b d : Nat} {sc : SC} {pre tl : List PE} {B : Nat} {Q : Option Value → List PE → Prop} {res : Int32 × SG} (hB : B = b + pre.length)   (hQ : Q (some (.int res.1)) (HH pre tl SHc B res.2)) (lv : LV) (σ : SG)   (hF : F_Ru_itemCount_11   σ = some res) : Rn b sc d 138 11 lv [] (HH pre tl SHc B σ) Q := by
  unfold F_Ru_itemCount_11 at hF
  refine r_iconst f_Ru_itemCount_11 (v := 0) (by decide) ?_
  refine r_goto f_Ru_itemCount_12 ?_
  exact w_Ru_itemCount_23 hB   hQ _ (σ) ((0 : Int32)) hF
def F_Ru_itemCount (a0 : Nat) (a1 : Int32) (σ : SG) : Option (Int32 × SG) :=
  if a1 < (1 : Int32) then
  F_Ru_itemCount_11 σ
  else if a1 ≤ (40 : Int32) then
  if (a1 - (1 : Int32)) < 0 ∨ 40 ≤ ((a1 - (1 : Int32))).toNatClampNeg then none else
  F_Ru_itemCount_23 ((σ.2.2.2.1 ((cref SHc (a0) 3)) (((a1 - (1 : Int32))).toNatClampNeg))) σ
  else F_Ru_itemCount_11 σ
set_option maxHeartbeats 4000000 in
theorem w_Ru_itemCount {b d : Nat} {pre tl : List PE} {B : Nat} {Q : Option Value → List PE → Prop} {res : Int32 × SG} (hB : B = b + pre.length)  {σ : SG} (a0 : Nat) (a1 : Int32) (ha0 : isC SHc (a0) 5 = true) (hF : F_Ru_itemCount a0 a1 σ = some res) (hQ : Q (some (.int res.1)) (HH pre tl SHc B res.2)) : Cl b d 138 [.ref (B + (a0)), .int (a1)] (HH pre tl SHc B σ) Q := by
  unfold Cl
  unfold F_Ru_itemCount at hF
  refine r_iload_n f_Ru_itemCount_0 rfl ?_
  refine r_iconst f_Ru_itemCount_1 (v := 1) (by decide) ?_
  refine r_icmp_lt f_Ru_itemCount_2 (fun c1 => ?_) (fun c1 => ?_)
  · rw [if_pos c1] at hF
    exact w_Ru_itemCount_11 hB   hQ _ (σ) hF
  · rw [if_neg c1] at hF
    refine r_iload_n f_Ru_itemCount_5 rfl ?_
    refine r_bipush f_Ru_itemCount_6 (v := 40) (by decide) ?_
    refine r_icmp_le f_Ru_itemCount_8 (fun c2 => ?_) (fun c2 => ?_)
    · rw [if_pos c2] at hF
      refine r_aload_n f_Ru_itemCount_15 rfl ?_
      refine t_getc hB ha0 f_Ru_itemCount_16 rfl ?_
      refine r_iload_n f_Ru_itemCount_19 rfl ?_
      refine r_iconst f_Ru_itemCount_20 (v := 1) (by decide) ?_
      refine r_isub f_Ru_itemCount_21 ?_
      by_cases c3 : (a1 - (1 : Int32)) < 0 ∨ 40 ≤ ((a1 - (1 : Int32))).toNatClampNeg
      · rw [if_pos c3] at hF; cases hF
      rw [if_neg c3] at hF
      refine t_iald hB (cc_5_3 ha0) f_Ru_itemCount_22 c3 ?_
      exact w_Ru_itemCount_23 hB   hQ _ (σ) ((σ.2.2.2.1 ((cref SHc (a0) 3)) (((a1 - (1 : Int32))).toNatClampNeg))) hF
    · rw [if_neg c2] at hF
      exact w_Ru_itemCount_11 hB   hQ _ (σ) hF
theorem f_Ru_pushSize_0 : fetch 137 0 = some (.aload_n 1, 1, 0, 0, 0) := rfl
theorem f_Ru_pushSize_1 : fetch 137 1 = some (.invokevirtual 160, 3, 7, 0, 135) := rfl
theorem f_Ru_pushSize_4 : fetch 137 4 = some (.istore_n 2, 1, 0, 0, 0) := rfl
theorem f_Ru_pushSize_5 : fetch 137 5 = some (.iload_n 2, 1, 0, 0, 0) := rfl
theorem f_Ru_pushSize_6 : fetch 137 6 = some (.ifCond .ne 9, 3, 15, 0, 0) := rfl
theorem f_Ru_pushSize_9 : fetch 137 9 = some (.aload_n 0, 1, 0, 0, 0) := rfl
theorem f_Ru_pushSize_10 : fetch 137 10 = some (.iconst 2, 1, 0, 0, 0) := rfl
theorem f_Ru_pushSize_11 : fetch 137 11 = some (.invokevirtual 167, 3, 128, 1, 137) := rfl
theorem f_Ru_pushSize_14 : fetch 137 14 = some (.ireturn, 1, 2, 0, 0) := rfl
theorem f_Ru_pushSize_15 : fetch 137 15 = some (.aload_n 1, 1, 0, 0, 0) := rfl
theorem f_Ru_pushSize_16 : fetch 137 16 = some (.aload_n 0, 1, 0, 0, 0) := rfl
theorem f_Ru_pushSize_17 : fetch 137 17 = some (.iload_n 2, 1, 0, 0, 0) := rfl
theorem f_Ru_pushSize_18 : fetch 137 18 = some (.invokevirtual 191, 3, 138, 1, 145) := rfl
theorem f_Ru_pushSize_21 : fetch 137 21 = some (.i2l, 1, 0, 0, 0) := rfl
theorem f_Ru_pushSize_22 : fetch 137 22 = some (.invokevirtual 132, 3, 4, 1, 128) := rfl
theorem f_Ru_pushSize_25 : fetch 137 25 = some (.iconst 1, 1, 0, 0, 0) := rfl
theorem f_Ru_pushSize_26 : fetch 137 26 = some (.ireturn, 1, 2, 0, 0) := rfl
def F_Ru_pushSize (a0 : Nat) (a1 : Nat) (σ : SG) : Option (Bool × SG) :=
  match F_Fr_popInt (a1) σ with
  | none => none
  | some q1 =>
  if q1.1 = 0 then
  match F_Ru_raise (a0) ((2 : Int32)) q1.2 with
  | none => none
  | some q5 =>
  some (q5.1, q5.2)
  else match F_Ru_itemCount (a0) (q1.1) q1.2 with
  | none => none
  | some q3 =>
  match F_Fr_push (a1) (((q3.1 : Int32).toInt64)) q3.2 with
  | none => none
  | some q4 =>
  some (true, q4)
set_option maxHeartbeats 4000000 in
theorem w_Ru_pushSize {b d : Nat} {pre tl : List PE} {B : Nat} {Q : Option Value → List PE → Prop} {res : Bool × SG} (hB : B = b + pre.length) (hd : 2 ≤ d)  {σ : SG} (a0 : Nat) (a1 : Nat) (ha0 : isC SHc (a0) 5 = true) (ha1 : isC SHc (a1) 0 = true) (hF : F_Ru_pushSize a0 a1 σ = some res) (hQ : Q (some (.int (bz res.1))) (HH pre tl SHc B res.2)) : Cl b d 137 [.ref (B + (a0)), .ref (B + (a1))] (HH pre tl SHc B σ) Q := by
  obtain ⟨e0, rfl⟩ : ∃ e, d = e + 1 := ⟨d - 1, by omega⟩
  unfold Cl
  unfold F_Ru_pushSize at hF
  refine r_aload_n f_Ru_pushSize_0 rfl ?_
  cases hq1 : F_Fr_popInt (a1) σ with
  | none => simp only [hq1] at hF; cases hF
  | some q1 =>
    simp only [hq1] at hF
    refine t_V0i hB ha1 rfl rfl f_Ru_pushSize_1 (by decide) (Nat.le_of_ble_eq_true rfl) (Nat.le_of_ble_eq_true rfl) (w_Fr_popInt hB (by omega) (a1) ha1 hq1 ⟨_, rfl, ?_⟩)
    refine r_istore_n f_Ru_pushSize_4 ?_
    refine r_iload_n f_Ru_pushSize_5 lk_put ?_
    refine r_if_ne f_Ru_pushSize_6 (fun c2 => ?_) (fun c2 => ?_)
    · rw [if_neg c2] at hF
      refine r_aload_n f_Ru_pushSize_15 (lk_put_ne rfl (by decide) (Or.inl rfl)) ?_
      refine r_aload_n f_Ru_pushSize_16 (lk_put_ne rfl (by decide) (Or.inl rfl)) ?_
      refine r_iload_n f_Ru_pushSize_17 lk_put ?_
      cases hq3 : F_Ru_itemCount (a0) (q1.1) q1.2 with
      | none => simp only [hq3] at hF; cases hF
      | some q3 =>
        simp only [hq3] at hF
        refine t_V1i hB ha0 rfl rfl f_Ru_pushSize_18 (by decide) (Nat.le_of_ble_eq_true rfl) (Nat.le_of_ble_eq_true rfl) (w_Ru_itemCount hB  (a0) (q1.1) ha0 hq3 ⟨_, rfl, ?_⟩)
        refine r_i2l f_Ru_pushSize_21 ?_
        cases hq4 : F_Fr_push (a1) (((q3.1 : Int32).toInt64)) q3.2 with
        | none => simp only [hq4] at hF; cases hF
        | some q4 =>
          simp only [hq4] at hF
          refine t_V1v hB ha1 rfl rfl f_Ru_pushSize_22 (by decide) (Nat.le_of_ble_eq_true rfl) (Nat.le_of_ble_eq_true rfl) (w_Fr_push hB  (a1) (((q3.1 : Int32).toInt64)) ha1 hq4 ⟨rfl, ?_⟩)
          refine r_iconst f_Ru_pushSize_25 (v := 1) (by decide) ?_
          cases hF
          exact r_zreturn f_Ru_pushSize_26 (bz_or (true)) hQ
    · rw [if_pos (Decidable.not_not.mp c2)] at hF
      refine r_aload_n f_Ru_pushSize_9 (lk_put_ne rfl (by decide) (Or.inl rfl)) ?_
      refine r_iconst f_Ru_pushSize_10 (v := 2) (by decide) ?_
      cases hq5 : F_Ru_raise (a0) ((2 : Int32)) q1.2 with
      | none => simp only [hq5] at hF; cases hF
      | some q5 =>
        simp only [hq5] at hF
        refine t_V1i hB ha0 rfl rfl f_Ru_pushSize_11 (by decide) (Nat.le_of_ble_eq_true rfl) (Nat.le_of_ble_eq_true rfl) (w_Ru_raise hB (by omega) (a0) ((2 : Int32)) ha0 hq5 ⟨_, rfl, ?_⟩)
        cases hF
        exact r_zreturn f_Ru_pushSize_14 (bz_or (q5.1)) hQ
theorem f_Ru_doItem_0 : fetch 139 0 = some (.iload_n 2, 1, 0, 0, 0) := rfl
theorem f_Ru_doItem_1 : fetch 139 1 = some (.bipush 23, 2, 0, 0, 0) := rfl
theorem f_Ru_doItem_3 : fetch 139 3 = some (.if_icmp .ne 10, 3, 13, 0, 0) := rfl
theorem f_Ru_doItem_6 : fetch 139 6 = some (.aload_n 1, 1, 0, 0, 0) := rfl
theorem f_Ru_doItem_7 : fetch 139 7 = some (.invokevirtual 140, 3, 5, 0, 130) := rfl
theorem f_Ru_doItem_10 : fetch 139 10 = some (.goto 4, 3, 14, 0, 0) := rfl
theorem f_Ru_doItem_13 : fetch 139 13 = some (.lconst 0, 1, 0, 0, 0) := rfl
theorem f_Ru_doItem_14 : fetch 139 14 = some (.lstore_n 3, 1, 0, 0, 0) := rfl
theorem f_Ru_doItem_15 : fetch 139 15 = some (.aload_n 1, 1, 0, 0, 0) := rfl
theorem f_Ru_doItem_16 : fetch 139 16 = some (.invokevirtual 160, 3, 7, 0, 135) := rfl
theorem f_Ru_doItem_19 : fetch 139 19 = some (.istore 5, 2, 0, 0, 0) := rfl
theorem f_Ru_doItem_21 : fetch 139 21 = some (.aload_n 1, 1, 0, 0, 0) := rfl
theorem f_Ru_doItem_22 : fetch 139 22 = some (.invokevirtual 160, 3, 7, 0, 135) := rfl
theorem f_Ru_doItem_25 : fetch 139 25 = some (.istore 6, 2, 0, 0, 0) := rfl
theorem f_Ru_doItem_27 : fetch 139 27 = some (.iload 6, 2, 0, 0, 0) := rfl
theorem f_Ru_doItem_29 : fetch 139 29 = some (.ifCond .ne 9, 3, 38, 0, 0) := rfl
theorem f_Ru_doItem_32 : fetch 139 32 = some (.aload_n 0, 1, 0, 0, 0) := rfl
theorem f_Ru_doItem_33 : fetch 139 33 = some (.iconst 2, 1, 0, 0, 0) := rfl
theorem f_Ru_doItem_34 : fetch 139 34 = some (.invokevirtual 167, 3, 128, 1, 137) := rfl
theorem f_Ru_doItem_37 : fetch 139 37 = some (.ireturn, 1, 2, 0, 0) := rfl
theorem f_Ru_doItem_38 : fetch 139 38 = some (.iload 5, 2, 0, 0, 0) := rfl
theorem f_Ru_doItem_40 : fetch 139 40 = some (.ifCond .lt 14, 3, 54, 0, 0) := rfl
theorem f_Ru_doItem_43 : fetch 139 43 = some (.iload 5, 2, 0, 0, 0) := rfl
theorem f_Ru_doItem_45 : fetch 139 45 = some (.aload_n 0, 1, 0, 0, 0) := rfl
theorem f_Ru_doItem_46 : fetch 139 46 = some (.iload 6, 2, 0, 0, 0) := rfl
theorem f_Ru_doItem_48 : fetch 139 48 = some (.invokevirtual 191, 3, 138, 1, 145) := rfl
theorem f_Ru_doItem_51 : fetch 139 51 = some (.if_icmp .lt 9, 3, 60, 0, 0) := rfl
theorem f_Ru_doItem_54 : fetch 139 54 = some (.aload_n 0, 1, 0, 0, 0) := rfl
theorem f_Ru_doItem_55 : fetch 139 55 = some (.iconst 3, 1, 0, 0, 0) := rfl
theorem f_Ru_doItem_56 : fetch 139 56 = some (.invokevirtual 167, 3, 128, 1, 137) := rfl
theorem f_Ru_doItem_59 : fetch 139 59 = some (.ireturn, 1, 2, 0, 0) := rfl
theorem f_Ru_doItem_60 : fetch 139 60 = some (.iload 6, 2, 0, 0, 0) := rfl
theorem f_Ru_doItem_62 : fetch 139 62 = some (.iload 5, 2, 0, 0, 0) := rfl
theorem f_Ru_doItem_64 : fetch 139 64 = some (.invokestatic 187, 3, 134, 2, 144) := rfl
theorem f_Ru_doItem_67 : fetch 139 67 = some (.istore 7, 2, 0, 0, 0) := rfl
theorem f_Ru_doItem_69 : fetch 139 69 = some (.iload_n 2, 1, 0, 0, 0) := rfl
theorem f_Ru_doItem_70 : fetch 139 70 = some (.bipush 23, 2, 0, 0, 0) := rfl
theorem f_Ru_doItem_72 : fetch 139 72 = some (.if_icmp .ne 13, 3, 85, 0, 0) := rfl
theorem f_Ru_doItem_75 : fetch 139 75 = some (.aload_n 0, 1, 0, 0, 0) := rfl
theorem f_Ru_doItem_76 : fetch 139 76 = some (.iload 7, 2, 0, 0, 0) := rfl
theorem f_Ru_doItem_78 : fetch 139 78 = some (.lload_n 3, 1, 0, 0, 0) := rfl
theorem f_Ru_doItem_79 : fetch 139 79 = some (.invokevirtual 77, 3, 123, 2, 119) := rfl
theorem f_Ru_doItem_82 : fetch 139 82 = some (.goto 25, 3, 107, 0, 0) := rfl
theorem f_Ru_doItem_85 : fetch 139 85 = some (.aload_n 1, 1, 0, 0, 0) := rfl
theorem f_Ru_doItem_86 : fetch 139 86 = some (.iload_n 2, 1, 0, 0, 0) := rfl
theorem f_Ru_doItem_87 : fetch 139 87 = some (.bipush 22, 2, 0, 0, 0) := rfl
theorem f_Ru_doItem_89 : fetch 139 89 = some (.if_icmp .ne 12, 3, 101, 0, 0) := rfl
theorem f_Ru_doItem_92 : fetch 139 92 = some (.aload_n 0, 1, 0, 0, 0) := rfl
theorem f_Ru_doItem_93 : fetch 139 93 = some (.iload 7, 2, 0, 0, 0) := rfl
theorem f_Ru_doItem_95 : fetch 139 95 = some (.invokevirtual 136, 3, 126, 1, 129) := rfl
theorem f_Ru_doItem_98 : fetch 139 98 = some (.goto 6, 3, 104, 0, 0) := rfl
theorem f_Ru_doItem_101 : fetch 139 101 = some (.iload 7, 2, 0, 0, 0) := rfl
theorem f_Ru_doItem_103 : fetch 139 103 = some (.i2l, 1, 0, 0, 0) := rfl
theorem f_Ru_doItem_104 : fetch 139 104 = some (.invokevirtual 132, 3, 4, 1, 128) := rfl
theorem f_Ru_doItem_107 : fetch 139 107 = some (.iconst 1, 1, 0, 0, 0) := rfl
theorem f_Ru_doItem_108 : fetch 139 108 = some (.ireturn, 1, 2, 0, 0) := rfl
def F_Ru_doItem_107   (σ : SG) : Option (Bool × SG) :=
  some (true, σ)
set_option maxHeartbeats 4000000 in
theorem w_Ru_doItem_107 {b d : Nat} {sc : SC} {pre tl : List PE} {B : Nat} {Q : Option Value → List PE → Prop} {res : Bool × SG} (hB : B = b + pre.length) (hd : 2 ≤ d)   (hQ : Q (some (.int (bz res.1))) (HH pre tl SHc B res.2)) (lv : LV) (σ : SG)   (hF : F_Ru_doItem_107   σ = some res) : Rn b sc d 139 107 lv [] (HH pre tl SHc B σ) Q := by
  obtain ⟨e0, rfl⟩ : ∃ e, d = e + 1 := ⟨d - 1, by omega⟩
  unfold F_Ru_doItem_107 at hF
  refine r_iconst f_Ru_doItem_107 (v := 1) (by decide) ?_
  cases hF
  exact r_zreturn f_Ru_doItem_108 (bz_or (true)) hQ
def F_Ru_doItem_104  (y0 : Nat) (y1 : Int64) (σ : SG) : Option (Bool × SG) :=
  match F_Fr_push (y0) (y1) σ with
  | none => none
  | some q1 =>
  F_Ru_doItem_107 q1
set_option maxHeartbeats 4000000 in
theorem w_Ru_doItem_104 {b d : Nat} {sc : SC} {pre tl : List PE} {B : Nat} {Q : Option Value → List PE → Prop} {res : Bool × SG} (hB : B = b + pre.length) (hd : 2 ≤ d)   (hQ : Q (some (.int (bz res.1))) (HH pre tl SHc B res.2)) (lv : LV) (σ : SG) (y0 : Nat) (y1 : Int64) (hy0 : isC SHc (y0) 0 = true) (hF : F_Ru_doItem_104  y0 y1 σ = some res) : Rn b sc d 139 104 lv [.long (y1), .ref (B + (y0))] (HH pre tl SHc B σ) Q := by
  obtain ⟨e0, rfl⟩ : ∃ e, d = e + 1 := ⟨d - 1, by omega⟩
  unfold F_Ru_doItem_104 at hF
  cases hq1 : F_Fr_push (y0) (y1) σ with
  | none => simp only [hq1] at hF; cases hF
  | some q1 =>
    simp only [hq1] at hF
    refine t_V1v hB hy0 rfl rfl f_Ru_doItem_104 (by decide) (Nat.le_of_ble_eq_true rfl) (Nat.le_of_ble_eq_true rfl) (w_Fr_push hB  (y0) (y1) hy0 hq1 ⟨rfl, ?_⟩)
    exact w_Ru_doItem_107 hB hd  hQ _ (q1) hF
def F_Ru_doItem_54  (x0 : Nat) (σ : SG) : Option (Bool × SG) :=
  match F_Ru_raise (x0) ((3 : Int32)) σ with
  | none => none
  | some q2 =>
  some (q2.1, q2.2)
set_option maxHeartbeats 4000000 in
theorem w_Ru_doItem_54 {b d : Nat} {sc : SC} {pre tl : List PE} {B : Nat} {Q : Option Value → List PE → Prop} {res : Bool × SG} (hB : B = b + pre.length) (hd : 2 ≤ d)   (hQ : Q (some (.int (bz res.1))) (HH pre tl SHc B res.2)) (lv : LV) (σ : SG) (x0 : Nat) (hx0 : isC SHc (x0) 5 = true) (l0 : lv.lookup 0 = some (.ref (B + (x0)))) (hF : F_Ru_doItem_54  x0 σ = some res) : Rn b sc d 139 54 lv [] (HH pre tl SHc B σ) Q := by
  obtain ⟨e0, rfl⟩ : ∃ e, d = e + 1 := ⟨d - 1, by omega⟩
  unfold F_Ru_doItem_54 at hF
  refine r_aload_n f_Ru_doItem_54 l0 ?_
  refine r_iconst f_Ru_doItem_55 (v := 3) (by decide) ?_
  cases hq2 : F_Ru_raise (x0) ((3 : Int32)) σ with
  | none => simp only [hq2] at hF; cases hF
  | some q2 =>
    simp only [hq2] at hF
    refine t_V1i hB hx0 rfl rfl f_Ru_doItem_56 (by decide) (Nat.le_of_ble_eq_true rfl) (Nat.le_of_ble_eq_true rfl) (w_Ru_raise hB (by omega) (x0) ((3 : Int32)) hx0 hq2 ⟨_, rfl, ?_⟩)
    cases hF
    exact r_zreturn f_Ru_doItem_59 (bz_or (q2.1)) hQ
def F_Ru_doItem_14  (x0 : Nat) (x1 : Nat) (x2 : Int32) (y0 : Int64) (σ : SG) : Option (Bool × SG) :=
  match F_Fr_popInt (x1) σ with
  | none => none
  | some q3 =>
  match F_Fr_popInt (x1) q3.2 with
  | none => none
  | some q4 =>
  if q4.1 = 0 then
  match F_Ru_raise (x0) ((2 : Int32)) q4.2 with
  | none => none
  | some q14 =>
  some (q14.1, q14.2)
  else if q3.1 < 0 then
  F_Ru_doItem_54 (x0) q4.2
  else match F_Ru_itemCount (x0) (q4.1) q4.2 with
  | none => none
  | some q7 =>
  if q3.1 < q7.1 then
  match F_Ru_addressIn (q4.1) (q3.1) q7.2 with
  | none => none
  | some q9 =>
  if x2 = (23 : Int32) then
  match F_Ru_setCell (x0) (q9.1) (y0) q9.2 with
  | none => none
  | some q13 =>
  F_Ru_doItem_107 q13
  else if x2 = (22 : Int32) then
  match F_Ru_cell (x0) (q9.1) q9.2 with
  | none => none
  | some q12 =>
  F_Ru_doItem_104 (x1) (q12.1) q12.2
  else F_Ru_doItem_104 (x1) (((q9.1 : Int32).toInt64)) q9.2
  else F_Ru_doItem_54 (x0) q7.2
set_option maxHeartbeats 4000000 in
theorem w_Ru_doItem_14 {b d : Nat} {sc : SC} {pre tl : List PE} {B : Nat} {Q : Option Value → List PE → Prop} {res : Bool × SG} (hB : B = b + pre.length) (hd : 2 ≤ d)   (hQ : Q (some (.int (bz res.1))) (HH pre tl SHc B res.2)) (lv : LV) (σ : SG) (x0 : Nat) (x1 : Nat) (x2 : Int32) (y0 : Int64) (hx0 : isC SHc (x0) 5 = true) (hx1 : isC SHc (x1) 0 = true) (l0 : lv.lookup 0 = some (.ref (B + (x0)))) (l1 : lv.lookup 1 = some (.ref (B + (x1)))) (l2 : lv.lookup 2 = some (.int (x2))) (hF : F_Ru_doItem_14  x0 x1 x2 y0 σ = some res) : Rn b sc d 139 14 lv [.long (y0)] (HH pre tl SHc B σ) Q := by
  obtain ⟨e0, rfl⟩ : ∃ e, d = e + 1 := ⟨d - 1, by omega⟩
  unfold F_Ru_doItem_14 at hF
  refine r_lstore_n f_Ru_doItem_14 ?_
  refine r_aload_n f_Ru_doItem_15 (lk_put2_ne l1 (by decide) (by decide) (Or.inl rfl)) ?_
  cases hq3 : F_Fr_popInt (x1) σ with
  | none => simp only [hq3] at hF; cases hF
  | some q3 =>
    simp only [hq3] at hF
    refine t_V0i hB hx1 rfl rfl f_Ru_doItem_16 (by decide) (Nat.le_of_ble_eq_true rfl) (Nat.le_of_ble_eq_true rfl) (w_Fr_popInt hB (by omega) (x1) hx1 hq3 ⟨_, rfl, ?_⟩)
    refine r_istore f_Ru_doItem_19 ?_
    refine r_aload_n f_Ru_doItem_21 (lk_put_ne (lk_put2_ne l1 (by decide) (by decide) (Or.inl rfl)) (by decide) (Or.inl rfl)) ?_
    cases hq4 : F_Fr_popInt (x1) q3.2 with
    | none => simp only [hq4] at hF; cases hF
    | some q4 =>
      simp only [hq4] at hF
      refine t_V0i hB hx1 rfl rfl f_Ru_doItem_22 (by decide) (Nat.le_of_ble_eq_true rfl) (Nat.le_of_ble_eq_true rfl) (w_Fr_popInt hB (by omega) (x1) hx1 hq4 ⟨_, rfl, ?_⟩)
      refine r_istore f_Ru_doItem_25 ?_
      refine r_iload f_Ru_doItem_27 lk_put ?_
      refine r_if_ne f_Ru_doItem_29 (fun c5 => ?_) (fun c5 => ?_)
      · rw [if_neg c5] at hF
        refine r_iload f_Ru_doItem_38 (lk_put_ne lk_put (by decide) (Or.inl rfl)) ?_
        refine r_if_lt f_Ru_doItem_40 (fun c6 => ?_) (fun c6 => ?_)
        · rw [if_pos c6] at hF
          exact w_Ru_doItem_54 hB hd  hQ _ (q4.2) (x0) hx0 (lk_put_ne (lk_put_ne (lk_put2_ne l0 (by decide) (by decide) (Or.inl rfl)) (by decide) (Or.inl rfl)) (by decide) (Or.inl rfl)) hF
        · rw [if_neg c6] at hF
          refine r_iload f_Ru_doItem_43 (lk_put_ne lk_put (by decide) (Or.inl rfl)) ?_
          refine r_aload_n f_Ru_doItem_45 (lk_put_ne (lk_put_ne (lk_put2_ne l0 (by decide) (by decide) (Or.inl rfl)) (by decide) (Or.inl rfl)) (by decide) (Or.inl rfl)) ?_
          refine r_iload f_Ru_doItem_46 lk_put ?_
          cases hq7 : F_Ru_itemCount (x0) (q4.1) q4.2 with
          | none => simp only [hq7] at hF; cases hF
          | some q7 =>
            simp only [hq7] at hF
            refine t_V1i hB hx0 rfl rfl f_Ru_doItem_48 (by decide) (Nat.le_of_ble_eq_true rfl) (Nat.le_of_ble_eq_true rfl) (w_Ru_itemCount hB  (x0) (q4.1) hx0 hq7 ⟨_, rfl, ?_⟩)
            refine r_icmp_lt f_Ru_doItem_51 (fun c8 => ?_) (fun c8 => ?_)
            · rw [if_pos c8] at hF
              refine r_iload f_Ru_doItem_60 lk_put ?_
              refine r_iload f_Ru_doItem_62 (lk_put_ne lk_put (by decide) (Or.inl rfl)) ?_
              cases hq9 : F_Ru_addressIn (q4.1) (q3.1) q7.2 with
              | none => simp only [hq9] at hF; cases hF
              | some q9 =>
                simp only [hq9] at hF
                refine t_S2i f_Ru_doItem_64 (by decide) (Nat.le_of_ble_eq_true rfl) (Nat.le_of_ble_eq_true rfl) (w_Ru_addressIn hB  (q4.1) (q3.1)  hq9 ⟨_, rfl, ?_⟩)
                refine r_istore f_Ru_doItem_67 ?_
                refine r_iload_n f_Ru_doItem_69 (lk_put_ne (lk_put_ne (lk_put_ne (lk_put2_ne l2 (by decide) (by decide) (Or.inl rfl)) (by decide) (Or.inl rfl)) (by decide) (Or.inl rfl)) (by decide) (Or.inl rfl)) ?_
                refine r_bipush f_Ru_doItem_70 (v := 23) (by decide) ?_
                refine r_icmp_ne f_Ru_doItem_72 (fun c10 => ?_) (fun c10 => ?_)
                · rw [if_neg c10] at hF
                  refine r_aload_n f_Ru_doItem_85 (lk_put_ne (lk_put_ne (lk_put_ne (lk_put2_ne l1 (by decide) (by decide) (Or.inl rfl)) (by decide) (Or.inl rfl)) (by decide) (Or.inl rfl)) (by decide) (Or.inl rfl)) ?_
                  refine r_iload_n f_Ru_doItem_86 (lk_put_ne (lk_put_ne (lk_put_ne (lk_put2_ne l2 (by decide) (by decide) (Or.inl rfl)) (by decide) (Or.inl rfl)) (by decide) (Or.inl rfl)) (by decide) (Or.inl rfl)) ?_
                  refine r_bipush f_Ru_doItem_87 (v := 22) (by decide) ?_
                  refine r_icmp_ne f_Ru_doItem_89 (fun c11 => ?_) (fun c11 => ?_)
                  · rw [if_neg c11] at hF
                    refine r_iload f_Ru_doItem_101 lk_put ?_
                    refine r_i2l f_Ru_doItem_103 ?_
                    exact w_Ru_doItem_104 hB hd  hQ _ (q9.2) (x1) (((q9.1 : Int32).toInt64)) hx1 hF
                  · rw [if_pos (Decidable.not_not.mp c11)] at hF
                    refine r_aload_n f_Ru_doItem_92 (lk_put_ne (lk_put_ne (lk_put_ne (lk_put2_ne l0 (by decide) (by decide) (Or.inl rfl)) (by decide) (Or.inl rfl)) (by decide) (Or.inl rfl)) (by decide) (Or.inl rfl)) ?_
                    refine r_iload f_Ru_doItem_93 lk_put ?_
                    cases hq12 : F_Ru_cell (x0) (q9.1) q9.2 with
                    | none => simp only [hq12] at hF; cases hF
                    | some q12 =>
                      simp only [hq12] at hF
                      refine t_V1l hB hx0 rfl rfl f_Ru_doItem_95 (by decide) (Nat.le_of_ble_eq_true rfl) (Nat.le_of_ble_eq_true rfl) (w_Ru_cell hB  (x0) (q9.1) hx0 hq12 ⟨_, rfl, ?_⟩)
                      refine r_goto f_Ru_doItem_98 ?_
                      exact w_Ru_doItem_104 hB hd  hQ _ (q12.2) (x1) (q12.1) hx1 hF
                · rw [if_pos (Decidable.not_not.mp c10)] at hF
                  refine r_aload_n f_Ru_doItem_75 (lk_put_ne (lk_put_ne (lk_put_ne (lk_put2_ne l0 (by decide) (by decide) (Or.inl rfl)) (by decide) (Or.inl rfl)) (by decide) (Or.inl rfl)) (by decide) (Or.inl rfl)) ?_
                  refine r_iload f_Ru_doItem_76 lk_put ?_
                  refine r_lload_n f_Ru_doItem_78 (lk_put_ne (lk_put_ne (lk_put_ne lk_put2 (by decide) (Or.inr (by decide))) (by decide) (Or.inr (by decide))) (by decide) (Or.inr (by decide))) ?_
                  cases hq13 : F_Ru_setCell (x0) (q9.1) (y0) q9.2 with
                  | none => simp only [hq13] at hF; cases hF
                  | some q13 =>
                    simp only [hq13] at hF
                    refine t_V2v hB hx0 rfl rfl f_Ru_doItem_79 (by decide) (Nat.le_of_ble_eq_true rfl) (Nat.le_of_ble_eq_true rfl) (w_Ru_setCell hB  (x0) (q9.1) (y0) hx0 hq13 ⟨rfl, ?_⟩)
                    refine r_goto f_Ru_doItem_82 ?_
                    exact w_Ru_doItem_107 hB hd  hQ _ (q13) hF
            · rw [if_neg c8] at hF
              exact w_Ru_doItem_54 hB hd  hQ _ (q7.2) (x0) hx0 (lk_put_ne (lk_put_ne (lk_put2_ne l0 (by decide) (by decide) (Or.inl rfl)) (by decide) (Or.inl rfl)) (by decide) (Or.inl rfl)) hF
      · rw [if_pos (Decidable.not_not.mp c5)] at hF
        refine r_aload_n f_Ru_doItem_32 (lk_put_ne (lk_put_ne (lk_put2_ne l0 (by decide) (by decide) (Or.inl rfl)) (by decide) (Or.inl rfl)) (by decide) (Or.inl rfl)) ?_
        refine r_iconst f_Ru_doItem_33 (v := 2) (by decide) ?_
        cases hq14 : F_Ru_raise (x0) ((2 : Int32)) q4.2 with
        | none => simp only [hq14] at hF; cases hF
        | some q14 =>
          simp only [hq14] at hF
          refine t_V1i hB hx0 rfl rfl f_Ru_doItem_34 (by decide) (Nat.le_of_ble_eq_true rfl) (Nat.le_of_ble_eq_true rfl) (w_Ru_raise hB (by omega) (x0) ((2 : Int32)) hx0 hq14 ⟨_, rfl, ?_⟩)
          cases hF
          exact r_zreturn f_Ru_doItem_37 (bz_or (q14.1)) hQ
def F_Ru_doItem (a0 : Nat) (a1 : Nat) (a2 : Int32) (σ : SG) : Option (Bool × SG) :=
  if a2 = (23 : Int32) then
  match F_Fr_pop (a1) σ with
  | none => none
  | some q16 =>
  F_Ru_doItem_14 (a0) (a1) (a2) (q16.1) q16.2
  else F_Ru_doItem_14 (a0) (a1) (a2) ((0 : Int64)) σ
set_option maxHeartbeats 4000000 in
theorem w_Ru_doItem {b d : Nat} {pre tl : List PE} {B : Nat} {Q : Option Value → List PE → Prop} {res : Bool × SG} (hB : B = b + pre.length) (hd : 2 ≤ d)  {σ : SG} (a0 : Nat) (a1 : Nat) (a2 : Int32) (ha0 : isC SHc (a0) 5 = true) (ha1 : isC SHc (a1) 0 = true) (hF : F_Ru_doItem a0 a1 a2 σ = some res) (hQ : Q (some (.int (bz res.1))) (HH pre tl SHc B res.2)) : Cl b d 139 [.ref (B + (a0)), .ref (B + (a1)), .int (a2)] (HH pre tl SHc B σ) Q := by
  obtain ⟨e0, rfl⟩ : ∃ e, d = e + 1 := ⟨d - 1, by omega⟩
  unfold Cl
  unfold F_Ru_doItem at hF
  refine r_iload_n f_Ru_doItem_0 rfl ?_
  refine r_bipush f_Ru_doItem_1 (v := 23) (by decide) ?_
  refine r_icmp_ne f_Ru_doItem_3 (fun c15 => ?_) (fun c15 => ?_)
  · rw [if_neg c15] at hF
    refine r_lconst f_Ru_doItem_13 (v := 0) (by decide) ?_
    exact w_Ru_doItem_14 hB hd  hQ _ (σ) (a0) (a1) (a2) ((0 : Int64)) ha0 ha1 rfl rfl rfl hF
  · rw [if_pos (Decidable.not_not.mp c15)] at hF
    refine r_aload_n f_Ru_doItem_6 rfl ?_
    cases hq16 : F_Fr_pop (a1) σ with
    | none => simp only [hq16] at hF; cases hF
    | some q16 =>
      simp only [hq16] at hF
      refine t_V0l hB ha1 rfl rfl f_Ru_doItem_7 (by decide) (Nat.le_of_ble_eq_true rfl) (Nat.le_of_ble_eq_true rfl) (w_Fr_pop hB  (a1) ha1 hq16 ⟨_, rfl, ?_⟩)
      refine r_goto f_Ru_doItem_10 ?_
      exact w_Ru_doItem_14 hB hd  hQ _ (q16.2) (a0) (a1) (a2) (q16.1) ha0 ha1 rfl rfl rfl hF
theorem f_Ru_doThing_0 : fetch 132 0 = some (.iload_n 2, 1, 0, 0, 0) := rfl
theorem f_Ru_doThing_1 : fetch 132 1 = some (.tableswitch 91 16 25 #[55, 62, 69, 69, 69, 79, 91, 91, 91, 85], 55, 92, 0, 0) := rfl
theorem f_Ru_doThing_56 : fetch 132 56 = some (.aload_n 1, 1, 0, 0, 0) := rfl
theorem f_Ru_doThing_57 : fetch 132 57 = some (.lconst 0, 1, 0, 0, 0) := rfl
theorem f_Ru_doThing_58 : fetch 132 58 = some (.invokevirtual 132, 3, 4, 1, 128) := rfl
theorem f_Ru_doThing_61 : fetch 132 61 = some (.iconst 1, 1, 0, 0, 0) := rfl
theorem f_Ru_doThing_62 : fetch 132 62 = some (.ireturn, 1, 2, 0, 0) := rfl
theorem f_Ru_doThing_63 : fetch 132 63 = some (.aload_n 0, 1, 0, 0, 0) := rfl
theorem f_Ru_doThing_64 : fetch 132 64 = some (.aload_n 1, 1, 0, 0, 0) := rfl
theorem f_Ru_doThing_65 : fetch 132 65 = some (.iconst 0, 1, 0, 0, 0) := rfl
theorem f_Ru_doThing_66 : fetch 132 66 = some (.invokevirtual 171, 3, 133, 2, 139) := rfl
theorem f_Ru_doThing_69 : fetch 132 69 = some (.ireturn, 1, 2, 0, 0) := rfl
theorem f_Ru_doThing_70 : fetch 132 70 = some (.aload_n 0, 1, 0, 0, 0) := rfl
theorem f_Ru_doThing_71 : fetch 132 71 = some (.aload_n 1, 1, 0, 0, 0) := rfl
theorem f_Ru_doThing_72 : fetch 132 72 = some (.iload_n 2, 1, 0, 0, 0) := rfl
theorem f_Ru_doThing_73 : fetch 132 73 = some (.iload_n 3, 1, 0, 0, 0) := rfl
theorem f_Ru_doThing_74 : fetch 132 74 = some (.iconst 4, 1, 0, 0, 0) := rfl
theorem f_Ru_doThing_75 : fetch 132 75 = some (.irem, 1, 0, 0, 0) := rfl
theorem f_Ru_doThing_76 : fetch 132 76 = some (.invokevirtual 174, 3, 135, 3, 140) := rfl
theorem f_Ru_doThing_79 : fetch 132 79 = some (.ireturn, 1, 2, 0, 0) := rfl
theorem f_Ru_doThing_80 : fetch 132 80 = some (.aload_n 0, 1, 0, 0, 0) := rfl
theorem f_Ru_doThing_81 : fetch 132 81 = some (.aload_n 1, 1, 0, 0, 0) := rfl
theorem f_Ru_doThing_82 : fetch 132 82 = some (.invokevirtual 177, 3, 136, 1, 141) := rfl
theorem f_Ru_doThing_85 : fetch 132 85 = some (.ireturn, 1, 2, 0, 0) := rfl
theorem f_Ru_doThing_86 : fetch 132 86 = some (.aload_n 0, 1, 0, 0, 0) := rfl
theorem f_Ru_doThing_87 : fetch 132 87 = some (.aload_n 1, 1, 0, 0, 0) := rfl
theorem f_Ru_doThing_88 : fetch 132 88 = some (.invokevirtual 181, 3, 137, 1, 142) := rfl
theorem f_Ru_doThing_91 : fetch 132 91 = some (.ireturn, 1, 2, 0, 0) := rfl
theorem f_Ru_doThing_92 : fetch 132 92 = some (.aload_n 0, 1, 0, 0, 0) := rfl
theorem f_Ru_doThing_93 : fetch 132 93 = some (.aload_n 1, 1, 0, 0, 0) := rfl
theorem f_Ru_doThing_94 : fetch 132 94 = some (.iload_n 2, 1, 0, 0, 0) := rfl
theorem f_Ru_doThing_95 : fetch 132 95 = some (.invokevirtual 184, 3, 139, 2, 143) := rfl
theorem f_Ru_doThing_98 : fetch 132 98 = some (.ireturn, 1, 2, 0, 0) := rfl
def F_Ru_doThing_92  (x0 : Nat) (x1 : Nat) (x2 : Int32) (σ : SG) : Option (Bool × SG) :=
  match F_Ru_doItem (x0) (x1) (x2) σ with
  | none => none
  | some q1 =>
  some (q1.1, q1.2)
set_option maxHeartbeats 4000000 in
theorem w_Ru_doThing_92 {b d : Nat} {sc : SC} {pre tl : List PE} {B : Nat} {Q : Option Value → List PE → Prop} {res : Bool × SG} (hB : B = b + pre.length) (hd : 4 ≤ d)   (hQ : Q (some (.int (bz res.1))) (HH pre tl SHc B res.2)) (lv : LV) (σ : SG) (x0 : Nat) (x1 : Nat) (x2 : Int32) (hx0 : isC SHc (x0) 5 = true) (hx1 : isC SHc (x1) 0 = true) (l0 : lv.lookup 0 = some (.ref (B + (x0)))) (l1 : lv.lookup 1 = some (.ref (B + (x1)))) (l2 : lv.lookup 2 = some (.int (x2))) (hF : F_Ru_doThing_92  x0 x1 x2 σ = some res) : Rn b sc d 132 92 lv [] (HH pre tl SHc B σ) Q := by
  obtain ⟨e0, rfl⟩ : ∃ e, d = e + 1 := ⟨d - 1, by omega⟩
  unfold F_Ru_doThing_92 at hF
  refine r_aload_n f_Ru_doThing_92 l0 ?_
  refine r_aload_n f_Ru_doThing_93 l1 ?_
  refine r_iload_n f_Ru_doThing_94 l2 ?_
  cases hq1 : F_Ru_doItem (x0) (x1) (x2) σ with
  | none => simp only [hq1] at hF; cases hF
  | some q1 =>
    simp only [hq1] at hF
    refine t_V2i hB hx0 rfl rfl f_Ru_doThing_95 (by decide) (Nat.le_of_ble_eq_true rfl) (Nat.le_of_ble_eq_true rfl) (w_Ru_doItem hB (by omega) (x0) (x1) (x2) hx0 hx1 hq1 ⟨_, rfl, ?_⟩)
    cases hF
    exact r_zreturn f_Ru_doThing_98 (bz_or (q1.1)) hQ
def F_Ru_doThing_70  (x0 : Nat) (x1 : Nat) (x2 : Int32) (x3 : Int32) (σ : SG) : Option (Bool × SG) :=
  match F_Ru_doField (x0) (x1) (x2) ((x3 - x3 / (4 : Int32) * (4 : Int32))) σ with
  | none => none
  | some q2 =>
  some (q2.1, q2.2)
set_option maxHeartbeats 4000000 in
theorem w_Ru_doThing_70 {b d : Nat} {sc : SC} {pre tl : List PE} {B : Nat} {Q : Option Value → List PE → Prop} {res : Bool × SG} (hB : B = b + pre.length) (hd : 4 ≤ d)   (hQ : Q (some (.int (bz res.1))) (HH pre tl SHc B res.2)) (lv : LV) (σ : SG) (x0 : Nat) (x1 : Nat) (x2 : Int32) (x3 : Int32) (hx0 : isC SHc (x0) 5 = true) (hx1 : isC SHc (x1) 0 = true) (l0 : lv.lookup 0 = some (.ref (B + (x0)))) (l1 : lv.lookup 1 = some (.ref (B + (x1)))) (l2 : lv.lookup 2 = some (.int (x2))) (l3 : lv.lookup 3 = some (.int (x3))) (hF : F_Ru_doThing_70  x0 x1 x2 x3 σ = some res) : Rn b sc d 132 70 lv [] (HH pre tl SHc B σ) Q := by
  obtain ⟨e0, rfl⟩ : ∃ e, d = e + 1 := ⟨d - 1, by omega⟩
  unfold F_Ru_doThing_70 at hF
  refine r_aload_n f_Ru_doThing_70 l0 ?_
  refine r_aload_n f_Ru_doThing_71 l1 ?_
  refine r_iload_n f_Ru_doThing_72 l2 ?_
  refine r_iload_n f_Ru_doThing_73 l3 ?_
  refine r_iconst f_Ru_doThing_74 (v := 4) (by decide) ?_
  refine r_irem f_Ru_doThing_75 (by decide) ?_
  cases hq2 : F_Ru_doField (x0) (x1) (x2) ((x3 - x3 / (4 : Int32) * (4 : Int32))) σ with
  | none => simp only [hq2] at hF; cases hF
  | some q2 =>
    simp only [hq2] at hF
    refine t_V3i hB hx0 rfl rfl f_Ru_doThing_76 (by decide) (Nat.le_of_ble_eq_true rfl) (Nat.le_of_ble_eq_true rfl) (w_Ru_doField hB (by omega) (x0) (x1) (x2) ((x3 - x3 / (4 : Int32) * (4 : Int32))) hx0 hx1 hq2 ⟨_, rfl, ?_⟩)
    cases hF
    exact r_zreturn f_Ru_doThing_79 (bz_or (q2.1)) hQ
def F_Ru_doThing (a0 : Nat) (a1 : Nat) (a2 : Int32) (a3 : Int32) (σ : SG) : Option (Bool × SG) :=
  if a2 = 16 then
  match F_Fr_push (a1) ((0 : Int64)) σ with
  | none => none
  | some q4 =>
  some (true, q4)
  else if a2 = 17 then
  match F_Ru_make (a0) (a1) ((0 : Int32)) σ with
  | none => none
  | some q6 =>
  some (q6.1, q6.2)
  else if a2 = 18 then
  F_Ru_doThing_70 (a0) (a1) (a2) (a3) σ
  else if a2 = 19 then
  F_Ru_doThing_70 (a0) (a1) (a2) (a3) σ
  else if a2 = 20 then
  F_Ru_doThing_70 (a0) (a1) (a2) (a3) σ
  else if a2 = 21 then
  match F_Ru_makeArray (a0) (a1) σ with
  | none => none
  | some q11 =>
  some (q11.1, q11.2)
  else if a2 = 22 then
  F_Ru_doThing_92 (a0) (a1) (a2) σ
  else if a2 = 23 then
  F_Ru_doThing_92 (a0) (a1) (a2) σ
  else if a2 = 24 then
  F_Ru_doThing_92 (a0) (a1) (a2) σ
  else if a2 = 25 then
  match F_Ru_pushSize (a0) (a1) σ with
  | none => none
  | some q16 =>
  some (q16.1, q16.2)
  else F_Ru_doThing_92 (a0) (a1) (a2) σ
set_option maxHeartbeats 4000000 in
theorem w_Ru_doThing {b d : Nat} {pre tl : List PE} {B : Nat} {Q : Option Value → List PE → Prop} {res : Bool × SG} (hB : B = b + pre.length) (hd : 4 ≤ d)  {σ : SG} (a0 : Nat) (a1 : Nat) (a2 : Int32) (a3 : Int32) (ha0 : isC SHc (a0) 5 = true) (ha1 : isC SHc (a1) 0 = true) (hF : F_Ru_doThing a0 a1 a2 a3 σ = some res) (hQ : Q (some (.int (bz res.1))) (HH pre tl SHc B res.2)) : Cl b d 132 [.ref (B + (a0)), .ref (B + (a1)), .int (a2), .int (a3)] (HH pre tl SHc B σ) Q := by
  obtain ⟨e0, rfl⟩ : ∃ e, d = e + 1 := ⟨d - 1, by omega⟩
  unfold Cl
  unfold F_Ru_doThing at hF
  refine r_iload_n f_Ru_doThing_0 rfl ?_
  by_cases c3 : a2 = 16
  · rw [if_pos c3] at hF
    refine r_tswI (t := 56) (off := 55) 0 f_Ru_doThing_1 (by rw [c3]; decide) (by rw [c3]; decide) (by rfl) (by decide) ?_
    refine r_aload_n f_Ru_doThing_56 rfl ?_
    refine r_lconst f_Ru_doThing_57 (v := 0) (by decide) ?_
    cases hq4 : F_Fr_push (a1) ((0 : Int64)) σ with
    | none => simp only [hq4] at hF; cases hF
    | some q4 =>
      simp only [hq4] at hF
      refine t_V1v hB ha1 rfl rfl f_Ru_doThing_58 (by decide) (Nat.le_of_ble_eq_true rfl) (Nat.le_of_ble_eq_true rfl) (w_Fr_push hB  (a1) ((0 : Int64)) ha1 hq4 ⟨rfl, ?_⟩)
      refine r_iconst f_Ru_doThing_61 (v := 1) (by decide) ?_
      cases hF
      exact r_zreturn f_Ru_doThing_62 (bz_or (true)) hQ
  rw [if_neg c3] at hF
  by_cases c5 : a2 = 17
  · rw [if_pos c5] at hF
    refine r_tswI (t := 63) (off := 62) 1 f_Ru_doThing_1 (by rw [c5]; decide) (by rw [c5]; decide) (by rfl) (by decide) ?_
    refine r_aload_n f_Ru_doThing_63 rfl ?_
    refine r_aload_n f_Ru_doThing_64 rfl ?_
    refine r_iconst f_Ru_doThing_65 (v := 0) (by decide) ?_
    cases hq6 : F_Ru_make (a0) (a1) ((0 : Int32)) σ with
    | none => simp only [hq6] at hF; cases hF
    | some q6 =>
      simp only [hq6] at hF
      refine t_V2i hB ha0 rfl rfl f_Ru_doThing_66 (by decide) (Nat.le_of_ble_eq_true rfl) (Nat.le_of_ble_eq_true rfl) (w_Ru_make hB (by omega) (a0) (a1) ((0 : Int32)) ha0 ha1 hq6 ⟨_, rfl, ?_⟩)
      cases hF
      exact r_zreturn f_Ru_doThing_69 (bz_or (q6.1)) hQ
  rw [if_neg c5] at hF
  by_cases c7 : a2 = 18
  · rw [if_pos c7] at hF
    refine r_tswI (t := 70) (off := 69) 2 f_Ru_doThing_1 (by rw [c7]; decide) (by rw [c7]; decide) (by rfl) (by decide) ?_
    exact w_Ru_doThing_70 hB hd  hQ _ (σ) (a0) (a1) (a2) (a3) ha0 ha1 rfl rfl rfl rfl hF
  rw [if_neg c7] at hF
  by_cases c8 : a2 = 19
  · rw [if_pos c8] at hF
    refine r_tswI (t := 70) (off := 69) 3 f_Ru_doThing_1 (by rw [c8]; decide) (by rw [c8]; decide) (by rfl) (by decide) ?_
    exact w_Ru_doThing_70 hB hd  hQ _ (σ) (a0) (a1) (a2) (a3) ha0 ha1 rfl rfl rfl rfl hF
  rw [if_neg c8] at hF
  by_cases c9 : a2 = 20
  · rw [if_pos c9] at hF
    refine r_tswI (t := 70) (off := 69) 4 f_Ru_doThing_1 (by rw [c9]; decide) (by rw [c9]; decide) (by rfl) (by decide) ?_
    exact w_Ru_doThing_70 hB hd  hQ _ (σ) (a0) (a1) (a2) (a3) ha0 ha1 rfl rfl rfl rfl hF
  rw [if_neg c9] at hF
  by_cases c10 : a2 = 21
  · rw [if_pos c10] at hF
    refine r_tswI (t := 80) (off := 79) 5 f_Ru_doThing_1 (by rw [c10]; decide) (by rw [c10]; decide) (by rfl) (by decide) ?_
    refine r_aload_n f_Ru_doThing_80 rfl ?_
    refine r_aload_n f_Ru_doThing_81 rfl ?_
    cases hq11 : F_Ru_makeArray (a0) (a1) σ with
    | none => simp only [hq11] at hF; cases hF
    | some q11 =>
      simp only [hq11] at hF
      refine t_V1i hB ha0 rfl rfl f_Ru_doThing_82 (by decide) (Nat.le_of_ble_eq_true rfl) (Nat.le_of_ble_eq_true rfl) (w_Ru_makeArray hB (by omega) (a0) (a1) ha0 ha1 hq11 ⟨_, rfl, ?_⟩)
      cases hF
      exact r_zreturn f_Ru_doThing_85 (bz_or (q11.1)) hQ
  rw [if_neg c10] at hF
  by_cases c12 : a2 = 22
  · rw [if_pos c12] at hF
    refine r_tswI (t := 92) (off := 91) 6 f_Ru_doThing_1 (by rw [c12]; decide) (by rw [c12]; decide) (by rfl) (by decide) ?_
    exact w_Ru_doThing_92 hB hd  hQ _ (σ) (a0) (a1) (a2) ha0 ha1 rfl rfl rfl hF
  rw [if_neg c12] at hF
  by_cases c13 : a2 = 23
  · rw [if_pos c13] at hF
    refine r_tswI (t := 92) (off := 91) 7 f_Ru_doThing_1 (by rw [c13]; decide) (by rw [c13]; decide) (by rfl) (by decide) ?_
    exact w_Ru_doThing_92 hB hd  hQ _ (σ) (a0) (a1) (a2) ha0 ha1 rfl rfl rfl hF
  rw [if_neg c13] at hF
  by_cases c14 : a2 = 24
  · rw [if_pos c14] at hF
    refine r_tswI (t := 92) (off := 91) 8 f_Ru_doThing_1 (by rw [c14]; decide) (by rw [c14]; decide) (by rfl) (by decide) ?_
    exact w_Ru_doThing_92 hB hd  hQ _ (σ) (a0) (a1) (a2) ha0 ha1 rfl rfl rfl hF
  rw [if_neg c14] at hF
  by_cases c15 : a2 = 25
  · rw [if_pos c15] at hF
    refine r_tswI (t := 86) (off := 85) 9 f_Ru_doThing_1 (by rw [c15]; decide) (by rw [c15]; decide) (by rfl) (by decide) ?_
    refine r_aload_n f_Ru_doThing_86 rfl ?_
    refine r_aload_n f_Ru_doThing_87 rfl ?_
    cases hq16 : F_Ru_pushSize (a0) (a1) σ with
    | none => simp only [hq16] at hF; cases hF
    | some q16 =>
      simp only [hq16] at hF
      refine t_V1i hB ha0 rfl rfl f_Ru_doThing_88 (by decide) (Nat.le_of_ble_eq_true rfl) (Nat.le_of_ble_eq_true rfl) (w_Ru_pushSize hB (by omega) (a0) (a1) ha0 ha1 hq16 ⟨_, rfl, ?_⟩)
      cases hF
      exact r_zreturn f_Ru_doThing_91 (bz_or (q16.1)) hQ
  rw [if_neg c15] at hF
  refine r_tswO f_Ru_doThing_1 (by have zc3 := lv_neT c3 (by decide : (16 : Int32).toInt = 16); have zc5 := lv_neT c5 (by decide : (17 : Int32).toInt = 17); have zc7 := lv_neT c7 (by decide : (18 : Int32).toInt = 18); have zc8 := lv_neT c8 (by decide : (19 : Int32).toInt = 19); have zc9 := lv_neT c9 (by decide : (20 : Int32).toInt = 20); have zc10 := lv_neT c10 (by decide : (21 : Int32).toInt = 21); have zc12 := lv_neT c12 (by decide : (22 : Int32).toInt = 22); have zc13 := lv_neT c13 (by decide : (23 : Int32).toInt = 23); have zc14 := lv_neT c14 (by decide : (24 : Int32).toInt = 24); have zc15 := lv_neT c15 (by decide : (25 : Int32).toInt = 25); omega) ?_
  exact w_Ru_doThing_92 hB hd  hQ _ (σ) (a0) (a1) (a2) ha0 ha1 rfl rfl rfl hF
theorem f_Ru_firstOf_0 : fetch 141 0 = some (.lload_n 0, 1, 0, 0, 0) := rfl
theorem f_Ru_firstOf_1 : fetch 141 1 = some (.bipush 32, 2, 0, 0, 0) := rfl
theorem f_Ru_firstOf_3 : fetch 141 3 = some (.lshr, 1, 0, 0, 0) := rfl
theorem f_Ru_firstOf_4 : fetch 141 4 = some (.l2i, 1, 0, 0, 0) := rfl
theorem f_Ru_firstOf_5 : fetch 141 5 = some (.ireturn, 1, 0, 0, 0) := rfl
def F_Ru_firstOf (a0 : Int64) (σ : SG) : Option (Int32 × SG) :=
  some ((((a0 >>> (((32 : Int32)).toInt64 &&& 63)) : Int64).toInt32), σ)
set_option maxHeartbeats 4000000 in
theorem w_Ru_firstOf {b d : Nat} {pre tl : List PE} {B : Nat} {Q : Option Value → List PE → Prop} {res : Int32 × SG} (hB : B = b + pre.length)  {σ : SG} (a0 : Int64)  (hF : F_Ru_firstOf a0 σ = some res) (hQ : Q (some (.int res.1)) (HH pre tl SHc B res.2)) : Cl b d 141 [.long (a0)] (HH pre tl SHc B σ) Q := by
  unfold Cl
  unfold F_Ru_firstOf at hF
  refine r_lload_n f_Ru_firstOf_0 rfl ?_
  refine r_bipush f_Ru_firstOf_1 (v := 32) (by decide) ?_
  refine r_lshr f_Ru_firstOf_3 ?_
  refine r_l2i f_Ru_firstOf_4 ?_
  cases hF
  exact r_ireturn f_Ru_firstOf_5 hQ
theorem f_Ru_makeBox_0 : fetch 142 0 = some (.aload_n 0, 1, 0, 0, 0) := rfl
theorem f_Ru_makeBox_1 : fetch 142 1 = some (.aload_n 1, 1, 0, 0, 0) := rfl
theorem f_Ru_makeBox_2 : fetch 142 2 = some (.iconst 0, 1, 0, 0, 0) := rfl
theorem f_Ru_makeBox_3 : fetch 142 3 = some (.invokevirtual 171, 3, 133, 2, 139) := rfl
theorem f_Ru_makeBox_6 : fetch 142 6 = some (.ifCond .ne 5, 3, 11, 0, 0) := rfl
theorem f_Ru_makeBox_9 : fetch 142 9 = some (.iconst 0, 1, 0, 0, 0) := rfl
theorem f_Ru_makeBox_10 : fetch 142 10 = some (.ireturn, 1, 2, 0, 0) := rfl
theorem f_Ru_makeBox_11 : fetch 142 11 = some (.aload_n 0, 1, 0, 0, 0) := rfl
theorem f_Ru_makeBox_12 : fetch 142 12 = some (.aload_n 0, 1, 0, 0, 0) := rfl
theorem f_Ru_makeBox_13 : fetch 142 13 = some (.getfield 51, 3, 5, 12, 108) := rfl
theorem f_Ru_makeBox_16 : fetch 142 16 = some (.iconst 0, 1, 0, 0, 0) := rfl
theorem f_Ru_makeBox_17 : fetch 142 17 = some (.invokestatic 187, 3, 134, 2, 144) := rfl
theorem f_Ru_makeBox_20 : fetch 142 20 = some (.lload_n 2, 1, 0, 0, 0) := rfl
theorem f_Ru_makeBox_21 : fetch 142 21 = some (.invokevirtual 77, 3, 123, 2, 119) := rfl
theorem f_Ru_makeBox_24 : fetch 142 24 = some (.iconst 1, 1, 0, 0, 0) := rfl
theorem f_Ru_makeBox_25 : fetch 142 25 = some (.ireturn, 1, 2, 0, 0) := rfl
def F_Ru_makeBox (a0 : Nat) (a1 : Nat) (a2 : Int64) (σ : SG) : Option (Bool × SG) :=
  match F_Ru_make (a0) (a1) ((0 : Int32)) σ with
  | none => none
  | some q1 =>
  if q1.1 = true then
  match F_Ru_addressIn ((q1.2.1 (a0) 12)) ((0 : Int32)) q1.2 with
  | none => none
  | some q3 =>
  match F_Ru_setCell (a0) (q3.1) (a2) q3.2 with
  | none => none
  | some q4 =>
  some (true, q4)
  else some (false, q1.2)
set_option maxHeartbeats 4000000 in
theorem w_Ru_makeBox {b d : Nat} {pre tl : List PE} {B : Nat} {Q : Option Value → List PE → Prop} {res : Bool × SG} (hB : B = b + pre.length) (hd : 3 ≤ d)  {σ : SG} (a0 : Nat) (a1 : Nat) (a2 : Int64) (ha0 : isC SHc (a0) 5 = true) (ha1 : isC SHc (a1) 0 = true) (hF : F_Ru_makeBox a0 a1 a2 σ = some res) (hQ : Q (some (.int (bz res.1))) (HH pre tl SHc B res.2)) : Cl b d 142 [.ref (B + (a0)), .ref (B + (a1)), .long (a2)] (HH pre tl SHc B σ) Q := by
  obtain ⟨e0, rfl⟩ : ∃ e, d = e + 1 := ⟨d - 1, by omega⟩
  unfold Cl
  unfold F_Ru_makeBox at hF
  refine r_aload_n f_Ru_makeBox_0 rfl ?_
  refine r_aload_n f_Ru_makeBox_1 rfl ?_
  refine r_iconst f_Ru_makeBox_2 (v := 0) (by decide) ?_
  cases hq1 : F_Ru_make (a0) (a1) ((0 : Int32)) σ with
  | none => simp only [hq1] at hF; cases hF
  | some q1 =>
    simp only [hq1] at hF
    refine t_V2i hB ha0 rfl rfl f_Ru_makeBox_3 (by decide) (Nat.le_of_ble_eq_true rfl) (Nat.le_of_ble_eq_true rfl) (w_Ru_make hB (by omega) (a0) (a1) ((0 : Int32)) ha0 ha1 hq1 ⟨_, rfl, ?_⟩)
    refine r_if_ne f_Ru_makeBox_6 (fun c2 => ?_) (fun c2 => ?_)
    · rw [if_pos (bz_t c2)] at hF
      refine r_aload_n f_Ru_makeBox_11 rfl ?_
      refine r_aload_n f_Ru_makeBox_12 rfl ?_
      refine t_geti hB ha0 f_Ru_makeBox_13 rfl ?_
      refine r_iconst f_Ru_makeBox_16 (v := 0) (by decide) ?_
      cases hq3 : F_Ru_addressIn ((q1.2.1 (a0) 12)) ((0 : Int32)) q1.2 with
      | none => simp only [hq3] at hF; cases hF
      | some q3 =>
        simp only [hq3] at hF
        refine t_S2i f_Ru_makeBox_17 (by decide) (Nat.le_of_ble_eq_true rfl) (Nat.le_of_ble_eq_true rfl) (w_Ru_addressIn hB  ((q1.2.1 (a0) 12)) ((0 : Int32))  hq3 ⟨_, rfl, ?_⟩)
        refine r_lload_n f_Ru_makeBox_20 rfl ?_
        cases hq4 : F_Ru_setCell (a0) (q3.1) (a2) q3.2 with
        | none => simp only [hq4] at hF; cases hF
        | some q4 =>
          simp only [hq4] at hF
          refine t_V2v hB ha0 rfl rfl f_Ru_makeBox_21 (by decide) (Nat.le_of_ble_eq_true rfl) (Nat.le_of_ble_eq_true rfl) (w_Ru_setCell hB  (a0) (q3.1) (a2) ha0 hq4 ⟨rfl, ?_⟩)
          refine r_iconst f_Ru_makeBox_24 (v := 1) (by decide) ?_
          cases hF
          exact r_zreturn f_Ru_makeBox_25 (bz_or (true)) hQ
    · rw [if_neg (bz_nt (Decidable.not_not.mp c2))] at hF
      refine r_iconst f_Ru_makeBox_9 (v := 0) (by decide) ?_
      cases hF
      exact r_zreturn f_Ru_makeBox_10 (bz_or (false)) hQ
theorem f_Ru_openBox_0 : fetch 143 0 = some (.iload_n 2, 1, 0, 0, 0) := rfl
theorem f_Ru_openBox_1 : fetch 143 1 = some (.ifCond .ne 9, 3, 10, 0, 0) := rfl
theorem f_Ru_openBox_4 : fetch 143 4 = some (.aload_n 0, 1, 0, 0, 0) := rfl
theorem f_Ru_openBox_5 : fetch 143 5 = some (.iconst 2, 1, 0, 0, 0) := rfl
theorem f_Ru_openBox_6 : fetch 143 6 = some (.invokevirtual 167, 3, 128, 1, 137) := rfl
theorem f_Ru_openBox_9 : fetch 143 9 = some (.ireturn, 1, 2, 0, 0) := rfl
theorem f_Ru_openBox_10 : fetch 143 10 = some (.aload_n 1, 1, 0, 0, 0) := rfl
theorem f_Ru_openBox_11 : fetch 143 11 = some (.aload_n 0, 1, 0, 0, 0) := rfl
theorem f_Ru_openBox_12 : fetch 143 12 = some (.iload_n 2, 1, 0, 0, 0) := rfl
theorem f_Ru_openBox_13 : fetch 143 13 = some (.iconst 0, 1, 0, 0, 0) := rfl
theorem f_Ru_openBox_14 : fetch 143 14 = some (.invokestatic 187, 3, 134, 2, 144) := rfl
theorem f_Ru_openBox_17 : fetch 143 17 = some (.invokevirtual 136, 3, 126, 1, 129) := rfl
theorem f_Ru_openBox_20 : fetch 143 20 = some (.invokevirtual 132, 3, 4, 1, 128) := rfl
theorem f_Ru_openBox_23 : fetch 143 23 = some (.iconst 1, 1, 0, 0, 0) := rfl
theorem f_Ru_openBox_24 : fetch 143 24 = some (.ireturn, 1, 2, 0, 0) := rfl
def F_Ru_openBox (a0 : Nat) (a1 : Nat) (a2 : Int32) (σ : SG) : Option (Bool × SG) :=
  if a2 = 0 then
  match F_Ru_raise (a0) ((2 : Int32)) σ with
  | none => none
  | some q5 =>
  some (q5.1, q5.2)
  else match F_Ru_addressIn (a2) ((0 : Int32)) σ with
  | none => none
  | some q2 =>
  match F_Ru_cell (a0) (q2.1) q2.2 with
  | none => none
  | some q3 =>
  match F_Fr_push (a1) (q3.1) q3.2 with
  | none => none
  | some q4 =>
  some (true, q4)
set_option maxHeartbeats 4000000 in
theorem w_Ru_openBox {b d : Nat} {pre tl : List PE} {B : Nat} {Q : Option Value → List PE → Prop} {res : Bool × SG} (hB : B = b + pre.length) (hd : 2 ≤ d)  {σ : SG} (a0 : Nat) (a1 : Nat) (a2 : Int32) (ha0 : isC SHc (a0) 5 = true) (ha1 : isC SHc (a1) 0 = true) (hF : F_Ru_openBox a0 a1 a2 σ = some res) (hQ : Q (some (.int (bz res.1))) (HH pre tl SHc B res.2)) : Cl b d 143 [.ref (B + (a0)), .ref (B + (a1)), .int (a2)] (HH pre tl SHc B σ) Q := by
  obtain ⟨e0, rfl⟩ : ∃ e, d = e + 1 := ⟨d - 1, by omega⟩
  unfold Cl
  unfold F_Ru_openBox at hF
  refine r_iload_n f_Ru_openBox_0 rfl ?_
  refine r_if_ne f_Ru_openBox_1 (fun c1 => ?_) (fun c1 => ?_)
  · rw [if_neg c1] at hF
    refine r_aload_n f_Ru_openBox_10 rfl ?_
    refine r_aload_n f_Ru_openBox_11 rfl ?_
    refine r_iload_n f_Ru_openBox_12 rfl ?_
    refine r_iconst f_Ru_openBox_13 (v := 0) (by decide) ?_
    cases hq2 : F_Ru_addressIn (a2) ((0 : Int32)) σ with
    | none => simp only [hq2] at hF; cases hF
    | some q2 =>
      simp only [hq2] at hF
      refine t_S2i f_Ru_openBox_14 (by decide) (Nat.le_of_ble_eq_true rfl) (Nat.le_of_ble_eq_true rfl) (w_Ru_addressIn hB  (a2) ((0 : Int32))  hq2 ⟨_, rfl, ?_⟩)
      cases hq3 : F_Ru_cell (a0) (q2.1) q2.2 with
      | none => simp only [hq3] at hF; cases hF
      | some q3 =>
        simp only [hq3] at hF
        refine t_V1l hB ha0 rfl rfl f_Ru_openBox_17 (by decide) (Nat.le_of_ble_eq_true rfl) (Nat.le_of_ble_eq_true rfl) (w_Ru_cell hB  (a0) (q2.1) ha0 hq3 ⟨_, rfl, ?_⟩)
        cases hq4 : F_Fr_push (a1) (q3.1) q3.2 with
        | none => simp only [hq4] at hF; cases hF
        | some q4 =>
          simp only [hq4] at hF
          refine t_V1v hB ha1 rfl rfl f_Ru_openBox_20 (by decide) (Nat.le_of_ble_eq_true rfl) (Nat.le_of_ble_eq_true rfl) (w_Fr_push hB  (a1) (q3.1) ha1 hq4 ⟨rfl, ?_⟩)
          refine r_iconst f_Ru_openBox_23 (v := 1) (by decide) ?_
          cases hF
          exact r_zreturn f_Ru_openBox_24 (bz_or (true)) hQ
  · rw [if_pos (Decidable.not_not.mp c1)] at hF
    refine r_aload_n f_Ru_openBox_4 rfl ?_
    refine r_iconst f_Ru_openBox_5 (v := 2) (by decide) ?_
    cases hq5 : F_Ru_raise (a0) ((2 : Int32)) σ with
    | none => simp only [hq5] at hF; cases hF
    | some q5 =>
      simp only [hq5] at hF
      refine t_V1i hB ha0 rfl rfl f_Ru_openBox_6 (by decide) (Nat.le_of_ble_eq_true rfl) (Nat.le_of_ble_eq_true rfl) (w_Ru_raise hB (by omega) (a0) ((2 : Int32)) ha0 hq5 ⟨_, rfl, ?_⟩)
      cases hF
      exact r_zreturn f_Ru_openBox_9 (bz_or (q5.1)) hQ
theorem f_Ru_doValue_0 : fetch 140 0 = some (.aload_n 1, 1, 0, 0, 0) := rfl
theorem f_Ru_doValue_1 : fetch 140 1 = some (.invokevirtual 140, 3, 5, 0, 130) := rfl
theorem f_Ru_doValue_4 : fetch 140 4 = some (.lstore_n 3, 1, 0, 0, 0) := rfl
theorem f_Ru_doValue_5 : fetch 140 5 = some (.iload_n 2, 1, 0, 0, 0) := rfl
theorem f_Ru_doValue_6 : fetch 140 6 = some (.tableswitch 107 26 31 #[38, 50, 61, 80, 91, 100], 38, 113, 0, 0) := rfl
theorem f_Ru_doValue_44 : fetch 140 44 = some (.aload_n 1, 1, 0, 0, 0) := rfl
theorem f_Ru_doValue_45 : fetch 140 45 = some (.aload_n 0, 1, 0, 0, 0) := rfl
theorem f_Ru_doValue_46 : fetch 140 46 = some (.lload_n 3, 1, 0, 0, 0) := rfl
theorem f_Ru_doValue_47 : fetch 140 47 = some (.l2i, 1, 0, 0, 0) := rfl
theorem f_Ru_doValue_48 : fetch 140 48 = some (.invokevirtual 136, 3, 126, 1, 129) := rfl
theorem f_Ru_doValue_51 : fetch 140 51 = some (.invokevirtual 132, 3, 4, 1, 128) := rfl
theorem f_Ru_doValue_54 : fetch 140 54 = some (.iconst 1, 1, 0, 0, 0) := rfl
theorem f_Ru_doValue_55 : fetch 140 55 = some (.ireturn, 1, 2, 0, 0) := rfl
theorem f_Ru_doValue_56 : fetch 140 56 = some (.aload_n 0, 1, 0, 0, 0) := rfl
theorem f_Ru_doValue_57 : fetch 140 57 = some (.aload_n 1, 1, 0, 0, 0) := rfl
theorem f_Ru_doValue_58 : fetch 140 58 = some (.invokevirtual 160, 3, 7, 0, 135) := rfl
theorem f_Ru_doValue_61 : fetch 140 61 = some (.lload_n 3, 1, 0, 0, 0) := rfl
theorem f_Ru_doValue_62 : fetch 140 62 = some (.invokevirtual 77, 3, 123, 2, 119) := rfl
theorem f_Ru_doValue_65 : fetch 140 65 = some (.iconst 1, 1, 0, 0, 0) := rfl
theorem f_Ru_doValue_66 : fetch 140 66 = some (.ireturn, 1, 2, 0, 0) := rfl
theorem f_Ru_doValue_67 : fetch 140 67 = some (.aload_n 1, 1, 0, 0, 0) := rfl
theorem f_Ru_doValue_68 : fetch 140 68 = some (.aload_n 1, 1, 0, 0, 0) := rfl
theorem f_Ru_doValue_69 : fetch 140 69 = some (.invokevirtual 140, 3, 5, 0, 130) := rfl
theorem f_Ru_doValue_72 : fetch 140 72 = some (.bipush 32, 2, 0, 0, 0) := rfl
theorem f_Ru_doValue_74 : fetch 140 74 = some (.lshl, 1, 0, 0, 0) := rfl
theorem f_Ru_doValue_75 : fetch 140 75 = some (.lload_n 3, 1, 0, 0, 0) := rfl
theorem f_Ru_doValue_76 : fetch 140 76 = some (.ldc2_w 194, 3, 4294967295, 0, 3) := rfl
theorem f_Ru_doValue_79 : fetch 140 79 = some (.land, 1, 0, 0, 0) := rfl
theorem f_Ru_doValue_80 : fetch 140 80 = some (.lor, 1, 0, 0, 0) := rfl
theorem f_Ru_doValue_81 : fetch 140 81 = some (.invokevirtual 132, 3, 4, 1, 128) := rfl
theorem f_Ru_doValue_84 : fetch 140 84 = some (.iconst 1, 1, 0, 0, 0) := rfl
theorem f_Ru_doValue_85 : fetch 140 85 = some (.ireturn, 1, 2, 0, 0) := rfl
theorem f_Ru_doValue_86 : fetch 140 86 = some (.aload_n 1, 1, 0, 0, 0) := rfl
theorem f_Ru_doValue_87 : fetch 140 87 = some (.lload_n 3, 1, 0, 0, 0) := rfl
theorem f_Ru_doValue_88 : fetch 140 88 = some (.invokestatic 196, 3, 141, 1, 146) := rfl
theorem f_Ru_doValue_91 : fetch 140 91 = some (.i2l, 1, 0, 0, 0) := rfl
theorem f_Ru_doValue_92 : fetch 140 92 = some (.invokevirtual 132, 3, 4, 1, 128) := rfl
theorem f_Ru_doValue_95 : fetch 140 95 = some (.iconst 1, 1, 0, 0, 0) := rfl
theorem f_Ru_doValue_96 : fetch 140 96 = some (.ireturn, 1, 2, 0, 0) := rfl
theorem f_Ru_doValue_97 : fetch 140 97 = some (.aload_n 1, 1, 0, 0, 0) := rfl
theorem f_Ru_doValue_98 : fetch 140 98 = some (.lload_n 3, 1, 0, 0, 0) := rfl
theorem f_Ru_doValue_99 : fetch 140 99 = some (.l2i, 1, 0, 0, 0) := rfl
theorem f_Ru_doValue_100 : fetch 140 100 = some (.i2l, 1, 0, 0, 0) := rfl
theorem f_Ru_doValue_101 : fetch 140 101 = some (.invokevirtual 132, 3, 4, 1, 128) := rfl
theorem f_Ru_doValue_104 : fetch 140 104 = some (.iconst 1, 1, 0, 0, 0) := rfl
theorem f_Ru_doValue_105 : fetch 140 105 = some (.ireturn, 1, 2, 0, 0) := rfl
theorem f_Ru_doValue_106 : fetch 140 106 = some (.aload_n 0, 1, 0, 0, 0) := rfl
theorem f_Ru_doValue_107 : fetch 140 107 = some (.aload_n 1, 1, 0, 0, 0) := rfl
theorem f_Ru_doValue_108 : fetch 140 108 = some (.lload_n 3, 1, 0, 0, 0) := rfl
theorem f_Ru_doValue_109 : fetch 140 109 = some (.invokevirtual 200, 3, 142, 2, 147) := rfl
theorem f_Ru_doValue_112 : fetch 140 112 = some (.ireturn, 1, 2, 0, 0) := rfl
theorem f_Ru_doValue_113 : fetch 140 113 = some (.aload_n 0, 1, 0, 0, 0) := rfl
theorem f_Ru_doValue_114 : fetch 140 114 = some (.aload_n 1, 1, 0, 0, 0) := rfl
theorem f_Ru_doValue_115 : fetch 140 115 = some (.lload_n 3, 1, 0, 0, 0) := rfl
theorem f_Ru_doValue_116 : fetch 140 116 = some (.l2i, 1, 0, 0, 0) := rfl
theorem f_Ru_doValue_117 : fetch 140 117 = some (.invokevirtual 204, 3, 143, 2, 148) := rfl
theorem f_Ru_doValue_120 : fetch 140 120 = some (.ireturn, 1, 2, 0, 0) := rfl
def F_Ru_doValue (a0 : Nat) (a1 : Nat) (a2 : Int32) (σ : SG) : Option (Bool × SG) :=
  match F_Fr_pop (a1) σ with
  | none => none
  | some q1 =>
  if a2 = 26 then
  match F_Ru_cell (a0) (((q1.1 : Int64).toInt32)) q1.2 with
  | none => none
  | some q3 =>
  match F_Fr_push (a1) (q3.1) q3.2 with
  | none => none
  | some q4 =>
  some (true, q4)
  else if a2 = 27 then
  match F_Fr_popInt (a1) q1.2 with
  | none => none
  | some q6 =>
  match F_Ru_setCell (a0) (q6.1) (q1.1) q6.2 with
  | none => none
  | some q7 =>
  some (true, q7)
  else if a2 = 28 then
  match F_Fr_pop (a1) q1.2 with
  | none => none
  | some q9 =>
  match F_Fr_push (a1) (((q9.1 <<< (((32 : Int32)).toInt64 &&& 63)) ||| (q1.1 &&& (4294967295 : Int64)))) q9.2 with
  | none => none
  | some q10 =>
  some (true, q10)
  else if a2 = 29 then
  match F_Ru_firstOf (q1.1) q1.2 with
  | none => none
  | some q12 =>
  match F_Fr_push (a1) (((q12.1 : Int32).toInt64)) q12.2 with
  | none => none
  | some q13 =>
  some (true, q13)
  else if a2 = 30 then
  match F_Fr_push (a1) (((((q1.1 : Int64).toInt32) : Int32).toInt64)) q1.2 with
  | none => none
  | some q15 =>
  some (true, q15)
  else if a2 = 31 then
  match F_Ru_makeBox (a0) (a1) (q1.1) q1.2 with
  | none => none
  | some q17 =>
  some (q17.1, q17.2)
  else match F_Ru_openBox (a0) (a1) (((q1.1 : Int64).toInt32)) q1.2 with
  | none => none
  | some q18 =>
  some (q18.1, q18.2)
set_option maxHeartbeats 4000000 in
theorem w_Ru_doValue {b d : Nat} {pre tl : List PE} {B : Nat} {Q : Option Value → List PE → Prop} {res : Bool × SG} (hB : B = b + pre.length) (hd : 4 ≤ d)  {σ : SG} (a0 : Nat) (a1 : Nat) (a2 : Int32) (ha0 : isC SHc (a0) 5 = true) (ha1 : isC SHc (a1) 0 = true) (hF : F_Ru_doValue a0 a1 a2 σ = some res) (hQ : Q (some (.int (bz res.1))) (HH pre tl SHc B res.2)) : Cl b d 140 [.ref (B + (a0)), .ref (B + (a1)), .int (a2)] (HH pre tl SHc B σ) Q := by
  obtain ⟨e0, rfl⟩ : ∃ e, d = e + 1 := ⟨d - 1, by omega⟩
  unfold Cl
  unfold F_Ru_doValue at hF
  refine r_aload_n f_Ru_doValue_0 rfl ?_
  cases hq1 : F_Fr_pop (a1) σ with
  | none => simp only [hq1] at hF; cases hF
  | some q1 =>
    simp only [hq1] at hF
    refine t_V0l hB ha1 rfl rfl f_Ru_doValue_1 (by decide) (Nat.le_of_ble_eq_true rfl) (Nat.le_of_ble_eq_true rfl) (w_Fr_pop hB  (a1) ha1 hq1 ⟨_, rfl, ?_⟩)
    refine r_lstore_n f_Ru_doValue_4 ?_
    refine r_iload_n f_Ru_doValue_5 (lk_put2_ne rfl (by decide) (by decide) (Or.inl rfl)) ?_
    by_cases c2 : a2 = 26
    · rw [if_pos c2] at hF
      refine r_tswI (t := 44) (off := 38) 0 f_Ru_doValue_6 (by rw [c2]; decide) (by rw [c2]; decide) (by rfl) (by decide) ?_
      refine r_aload_n f_Ru_doValue_44 (lk_put2_ne rfl (by decide) (by decide) (Or.inl rfl)) ?_
      refine r_aload_n f_Ru_doValue_45 (lk_put2_ne rfl (by decide) (by decide) (Or.inl rfl)) ?_
      refine r_lload_n f_Ru_doValue_46 lk_put2 ?_
      refine r_l2i f_Ru_doValue_47 ?_
      cases hq3 : F_Ru_cell (a0) (((q1.1 : Int64).toInt32)) q1.2 with
      | none => simp only [hq3] at hF; cases hF
      | some q3 =>
        simp only [hq3] at hF
        refine t_V1l hB ha0 rfl rfl f_Ru_doValue_48 (by decide) (Nat.le_of_ble_eq_true rfl) (Nat.le_of_ble_eq_true rfl) (w_Ru_cell hB  (a0) (((q1.1 : Int64).toInt32)) ha0 hq3 ⟨_, rfl, ?_⟩)
        cases hq4 : F_Fr_push (a1) (q3.1) q3.2 with
        | none => simp only [hq4] at hF; cases hF
        | some q4 =>
          simp only [hq4] at hF
          refine t_V1v hB ha1 rfl rfl f_Ru_doValue_51 (by decide) (Nat.le_of_ble_eq_true rfl) (Nat.le_of_ble_eq_true rfl) (w_Fr_push hB  (a1) (q3.1) ha1 hq4 ⟨rfl, ?_⟩)
          refine r_iconst f_Ru_doValue_54 (v := 1) (by decide) ?_
          cases hF
          exact r_zreturn f_Ru_doValue_55 (bz_or (true)) hQ
    rw [if_neg c2] at hF
    by_cases c5 : a2 = 27
    · rw [if_pos c5] at hF
      refine r_tswI (t := 56) (off := 50) 1 f_Ru_doValue_6 (by rw [c5]; decide) (by rw [c5]; decide) (by rfl) (by decide) ?_
      refine r_aload_n f_Ru_doValue_56 (lk_put2_ne rfl (by decide) (by decide) (Or.inl rfl)) ?_
      refine r_aload_n f_Ru_doValue_57 (lk_put2_ne rfl (by decide) (by decide) (Or.inl rfl)) ?_
      cases hq6 : F_Fr_popInt (a1) q1.2 with
      | none => simp only [hq6] at hF; cases hF
      | some q6 =>
        simp only [hq6] at hF
        refine t_V0i hB ha1 rfl rfl f_Ru_doValue_58 (by decide) (Nat.le_of_ble_eq_true rfl) (Nat.le_of_ble_eq_true rfl) (w_Fr_popInt hB (by omega) (a1) ha1 hq6 ⟨_, rfl, ?_⟩)
        refine r_lload_n f_Ru_doValue_61 lk_put2 ?_
        cases hq7 : F_Ru_setCell (a0) (q6.1) (q1.1) q6.2 with
        | none => simp only [hq7] at hF; cases hF
        | some q7 =>
          simp only [hq7] at hF
          refine t_V2v hB ha0 rfl rfl f_Ru_doValue_62 (by decide) (Nat.le_of_ble_eq_true rfl) (Nat.le_of_ble_eq_true rfl) (w_Ru_setCell hB  (a0) (q6.1) (q1.1) ha0 hq7 ⟨rfl, ?_⟩)
          refine r_iconst f_Ru_doValue_65 (v := 1) (by decide) ?_
          cases hF
          exact r_zreturn f_Ru_doValue_66 (bz_or (true)) hQ
    rw [if_neg c5] at hF
    by_cases c8 : a2 = 28
    · rw [if_pos c8] at hF
      refine r_tswI (t := 67) (off := 61) 2 f_Ru_doValue_6 (by rw [c8]; decide) (by rw [c8]; decide) (by rfl) (by decide) ?_
      refine r_aload_n f_Ru_doValue_67 (lk_put2_ne rfl (by decide) (by decide) (Or.inl rfl)) ?_
      refine r_aload_n f_Ru_doValue_68 (lk_put2_ne rfl (by decide) (by decide) (Or.inl rfl)) ?_
      cases hq9 : F_Fr_pop (a1) q1.2 with
      | none => simp only [hq9] at hF; cases hF
      | some q9 =>
        simp only [hq9] at hF
        refine t_V0l hB ha1 rfl rfl f_Ru_doValue_69 (by decide) (Nat.le_of_ble_eq_true rfl) (Nat.le_of_ble_eq_true rfl) (w_Fr_pop hB  (a1) ha1 hq9 ⟨_, rfl, ?_⟩)
        refine r_bipush f_Ru_doValue_72 (v := 32) (by decide) ?_
        refine r_lshl f_Ru_doValue_74 ?_
        refine r_lload_n f_Ru_doValue_75 lk_put2 ?_
        refine r_ldc2 f_Ru_doValue_76 (v := 4294967295) (by decide) ?_
        refine r_land f_Ru_doValue_79 ?_
        refine r_lor f_Ru_doValue_80 ?_
        cases hq10 : F_Fr_push (a1) (((q9.1 <<< (((32 : Int32)).toInt64 &&& 63)) ||| (q1.1 &&& (4294967295 : Int64)))) q9.2 with
        | none => simp only [hq10] at hF; cases hF
        | some q10 =>
          simp only [hq10] at hF
          refine t_V1v hB ha1 rfl rfl f_Ru_doValue_81 (by decide) (Nat.le_of_ble_eq_true rfl) (Nat.le_of_ble_eq_true rfl) (w_Fr_push hB  (a1) (((q9.1 <<< (((32 : Int32)).toInt64 &&& 63)) ||| (q1.1 &&& (4294967295 : Int64)))) ha1 hq10 ⟨rfl, ?_⟩)
          refine r_iconst f_Ru_doValue_84 (v := 1) (by decide) ?_
          cases hF
          exact r_zreturn f_Ru_doValue_85 (bz_or (true)) hQ
    rw [if_neg c8] at hF
    by_cases c11 : a2 = 29
    · rw [if_pos c11] at hF
      refine r_tswI (t := 86) (off := 80) 3 f_Ru_doValue_6 (by rw [c11]; decide) (by rw [c11]; decide) (by rfl) (by decide) ?_
      refine r_aload_n f_Ru_doValue_86 (lk_put2_ne rfl (by decide) (by decide) (Or.inl rfl)) ?_
      refine r_lload_n f_Ru_doValue_87 lk_put2 ?_
      cases hq12 : F_Ru_firstOf (q1.1) q1.2 with
      | none => simp only [hq12] at hF; cases hF
      | some q12 =>
        simp only [hq12] at hF
        refine t_S1i f_Ru_doValue_88 (by decide) (Nat.le_of_ble_eq_true rfl) (Nat.le_of_ble_eq_true rfl) (w_Ru_firstOf hB  (q1.1)  hq12 ⟨_, rfl, ?_⟩)
        refine r_i2l f_Ru_doValue_91 ?_
        cases hq13 : F_Fr_push (a1) (((q12.1 : Int32).toInt64)) q12.2 with
        | none => simp only [hq13] at hF; cases hF
        | some q13 =>
          simp only [hq13] at hF
          refine t_V1v hB ha1 rfl rfl f_Ru_doValue_92 (by decide) (Nat.le_of_ble_eq_true rfl) (Nat.le_of_ble_eq_true rfl) (w_Fr_push hB  (a1) (((q12.1 : Int32).toInt64)) ha1 hq13 ⟨rfl, ?_⟩)
          refine r_iconst f_Ru_doValue_95 (v := 1) (by decide) ?_
          cases hF
          exact r_zreturn f_Ru_doValue_96 (bz_or (true)) hQ
    rw [if_neg c11] at hF
    by_cases c14 : a2 = 30
    · rw [if_pos c14] at hF
      refine r_tswI (t := 97) (off := 91) 4 f_Ru_doValue_6 (by rw [c14]; decide) (by rw [c14]; decide) (by rfl) (by decide) ?_
      refine r_aload_n f_Ru_doValue_97 (lk_put2_ne rfl (by decide) (by decide) (Or.inl rfl)) ?_
      refine r_lload_n f_Ru_doValue_98 lk_put2 ?_
      refine r_l2i f_Ru_doValue_99 ?_
      refine r_i2l f_Ru_doValue_100 ?_
      cases hq15 : F_Fr_push (a1) (((((q1.1 : Int64).toInt32) : Int32).toInt64)) q1.2 with
      | none => simp only [hq15] at hF; cases hF
      | some q15 =>
        simp only [hq15] at hF
        refine t_V1v hB ha1 rfl rfl f_Ru_doValue_101 (by decide) (Nat.le_of_ble_eq_true rfl) (Nat.le_of_ble_eq_true rfl) (w_Fr_push hB  (a1) (((((q1.1 : Int64).toInt32) : Int32).toInt64)) ha1 hq15 ⟨rfl, ?_⟩)
        refine r_iconst f_Ru_doValue_104 (v := 1) (by decide) ?_
        cases hF
        exact r_zreturn f_Ru_doValue_105 (bz_or (true)) hQ
    rw [if_neg c14] at hF
    by_cases c16 : a2 = 31
    · rw [if_pos c16] at hF
      refine r_tswI (t := 106) (off := 100) 5 f_Ru_doValue_6 (by rw [c16]; decide) (by rw [c16]; decide) (by rfl) (by decide) ?_
      refine r_aload_n f_Ru_doValue_106 (lk_put2_ne rfl (by decide) (by decide) (Or.inl rfl)) ?_
      refine r_aload_n f_Ru_doValue_107 (lk_put2_ne rfl (by decide) (by decide) (Or.inl rfl)) ?_
      refine r_lload_n f_Ru_doValue_108 lk_put2 ?_
      cases hq17 : F_Ru_makeBox (a0) (a1) (q1.1) q1.2 with
      | none => simp only [hq17] at hF; cases hF
      | some q17 =>
        simp only [hq17] at hF
        refine t_V2i hB ha0 rfl rfl f_Ru_doValue_109 (by decide) (Nat.le_of_ble_eq_true rfl) (Nat.le_of_ble_eq_true rfl) (w_Ru_makeBox hB (by omega) (a0) (a1) (q1.1) ha0 ha1 hq17 ⟨_, rfl, ?_⟩)
        cases hF
        exact r_zreturn f_Ru_doValue_112 (bz_or (q17.1)) hQ
    rw [if_neg c16] at hF
    refine r_tswO f_Ru_doValue_6 (by have zc2 := lv_neT c2 (by decide : (26 : Int32).toInt = 26); have zc5 := lv_neT c5 (by decide : (27 : Int32).toInt = 27); have zc8 := lv_neT c8 (by decide : (28 : Int32).toInt = 28); have zc11 := lv_neT c11 (by decide : (29 : Int32).toInt = 29); have zc14 := lv_neT c14 (by decide : (30 : Int32).toInt = 30); have zc16 := lv_neT c16 (by decide : (31 : Int32).toInt = 31); omega) ?_
    refine r_aload_n f_Ru_doValue_113 (lk_put2_ne rfl (by decide) (by decide) (Or.inl rfl)) ?_
    refine r_aload_n f_Ru_doValue_114 (lk_put2_ne rfl (by decide) (by decide) (Or.inl rfl)) ?_
    refine r_lload_n f_Ru_doValue_115 lk_put2 ?_
    refine r_l2i f_Ru_doValue_116 ?_
    cases hq18 : F_Ru_openBox (a0) (a1) (((q1.1 : Int64).toInt32)) q1.2 with
    | none => simp only [hq18] at hF; cases hF
    | some q18 =>
      simp only [hq18] at hF
      refine t_V2i hB ha0 rfl rfl f_Ru_doValue_117 (by decide) (Nat.le_of_ble_eq_true rfl) (Nat.le_of_ble_eq_true rfl) (w_Ru_openBox hB (by omega) (a0) (a1) (((q1.1 : Int64).toInt32)) ha0 ha1 hq18 ⟨_, rfl, ?_⟩)
      cases hF
      exact r_zreturn f_Ru_doValue_120 (bz_or (q18.1)) hQ
theorem f_Ru_call_0 : fetch 145 0 = some (.aload_n 0, 1, 0, 0, 0) := rfl
theorem f_Ru_call_1 : fetch 145 1 = some (.getfield 48, 3, 5, 11, 107) := rfl
theorem f_Ru_call_4 : fetch 145 4 = some (.bipush 8, 2, 0, 0, 0) := rfl
theorem f_Ru_call_6 : fetch 145 6 = some (.if_icmp .lt 9, 3, 15, 0, 0) := rfl
theorem f_Ru_call_9 : fetch 145 9 = some (.aload_n 0, 1, 0, 0, 0) := rfl
theorem f_Ru_call_10 : fetch 145 10 = some (.iconst 5, 1, 0, 0, 0) := rfl
theorem f_Ru_call_11 : fetch 145 11 = some (.invokevirtual 167, 3, 128, 1, 137) := rfl
theorem f_Ru_call_14 : fetch 145 14 = some (.ireturn, 1, 2, 0, 0) := rfl
theorem f_Ru_call_15 : fetch 145 15 = some (.aload_n 0, 1, 0, 0, 0) := rfl
theorem f_Ru_call_16 : fetch 145 16 = some (.iload_n 2, 1, 0, 0, 0) := rfl
theorem f_Ru_call_17 : fetch 145 17 = some (.invokevirtual 54, 3, 121, 1, 114) := rfl
theorem f_Ru_call_20 : fetch 145 20 = some (.astore_n 3, 1, 0, 0, 0) := rfl
theorem f_Ru_call_21 : fetch 145 21 = some (.aload_n 3, 1, 0, 0, 0) := rfl
theorem f_Ru_call_22 : fetch 145 22 = some (.getfield 80, 3, 0, 1, 110) := rfl
theorem f_Ru_call_25 : fetch 145 25 = some (.getfield 220, 3, 2, 1, 117) := rfl
theorem f_Ru_call_28 : fetch 145 28 = some (.iconst 1, 1, 0, 0, 0) := rfl
theorem f_Ru_call_29 : fetch 145 29 = some (.isub, 1, 0, 0, 0) := rfl
theorem f_Ru_call_30 : fetch 145 30 = some (.istore 4, 2, 0, 0, 0) := rfl
theorem f_Ru_call_32 : fetch 145 32 = some (.iload 4, 2, 0, 0, 0) := rfl
theorem f_Ru_call_34 : fetch 145 34 = some (.ifCond .lt 19, 3, 53, 0, 0) := rfl
theorem f_Ru_call_37 : fetch 145 37 = some (.aload_n 3, 1, 0, 0, 0) := rfl
theorem f_Ru_call_38 : fetch 145 38 = some (.iload 4, 2, 0, 0, 0) := rfl
theorem f_Ru_call_40 : fetch 145 40 = some (.aload_n 1, 1, 0, 0, 0) := rfl
theorem f_Ru_call_41 : fetch 145 41 = some (.invokevirtual 140, 3, 5, 0, 130) := rfl
theorem f_Ru_call_44 : fetch 145 44 = some (.invokevirtual 58, 3, 3, 2, 115) := rfl
theorem f_Ru_call_47 : fetch 145 47 = some (.iinc 4 (-1), 3, 0, 0, 0) := rfl
theorem f_Ru_call_50 : fetch 145 50 = some (.goto (-18), 3, 32, 0, 0) := rfl
theorem f_Ru_call_53 : fetch 145 53 = some (.iconst 0, 1, 0, 0, 0) := rfl
theorem f_Ru_call_54 : fetch 145 54 = some (.ireturn, 1, 2, 0, 0) := rfl
def F_Ru_call_32  : Nat → Nat → Option Nat → Int32 → SG → Option (Bool × SG)
  | 0, _, _, _, _ => none
  | n + 1, x1, x3, x4, σ =>
  if x4 < 0 then
  some (false, σ)
  else match F_Fr_pop (x1) σ with
  | none => none
  | some q2 =>
  match x3 with
  | none => none
  | some k3 => if isC SHc k3 0 = true then
  match F_Fr_setArgument (k3) (x4) (q2.1) q2.2 with
  | none => none
  | some q5 =>
  F_Ru_call_32  n (x1) (some (k3)) ((x4 + (-1))) q5
  else none
set_option maxHeartbeats 4000000 in
theorem w_Ru_call_32 {b d : Nat} {sc : SC} {pre tl : List PE} {B : Nat} {Q : Option Value → List PE → Prop} {res : Bool × SG} (hB : B = b + pre.length) (hd : 2 ≤ d)   (hQ : Q (some (.int (bz res.1))) (HH pre tl SHc B res.2)) : ∀ (n : Nat) (lv : LV) (σ : SG) (x1 : Nat) (x3 : Option Nat) (x4 : Int32), isC SHc (x1) 0 = true → lv.lookup 1 = some (.ref (B + (x1))) → lv.lookup 3 = some (ov B (x3)) → lv.lookup 4 = some (.int (x4)) → F_Ru_call_32  n x1 x3 x4 σ = some res → Rn b sc d 145 32 lv [] (HH pre tl SHc B σ) Q := by
  obtain ⟨e0, rfl⟩ : ∃ e, d = e + 1 := ⟨d - 1, by omega⟩
  intro n
  induction n with
  | zero => intro lv σ x1 x3 x4 hx1 l1 l3 l4 hF; cases hF
  | succ n ih =>
    intro lv σ x1 x3 x4 hx1 l1 l3 l4 hF
    unfold F_Ru_call_32 at hF
    refine r_iload f_Ru_call_32 l4 ?_
    refine r_if_lt f_Ru_call_34 (fun c1 => ?_) (fun c1 => ?_)
    · rw [if_pos c1] at hF
      refine r_iconst f_Ru_call_53 (v := 0) (by decide) ?_
      cases hF
      exact r_zreturn f_Ru_call_54 (bz_or (false)) hQ
    · rw [if_neg c1] at hF
      refine r_aload_n_O f_Ru_call_37 l3 ?_
      refine r_iload f_Ru_call_38 l4 ?_
      refine r_aload_n f_Ru_call_40 l1 ?_
      cases hq2 : F_Fr_pop (x1) σ with
      | none => simp only [hq2] at hF; cases hF
      | some q2 =>
        simp only [hq2] at hF
        refine t_V0l hB hx1 rfl rfl f_Ru_call_41 (by decide) (Nat.le_of_ble_eq_true rfl) (by simp only [List.map_cons, List.map_nil, catO, List.sum_cons, List.sum_nil]; exact Nat.le_of_ble_eq_true rfl) (w_Fr_pop hB  (x1) hx1 hq2 ⟨_, rfl, ?_⟩)
        cases c4 : (x3 : Option Nat) with
        | none => simp only [c4] at hF; cases hF
        | some k3 =>
          simp only [c4] at *
          by_cases c4k : isC SHc k3 0 = true
          · rw [if_pos c4k] at hF
            try simp only [ov]
            cases hq5 : F_Fr_setArgument (k3) (x4) (q2.1) q2.2 with
            | none => simp only [hq5] at hF; cases hF
            | some q5 =>
              simp only [hq5] at hF
              refine t_V2v hB c4k rfl rfl f_Ru_call_44 (by decide) (Nat.le_of_ble_eq_true rfl) (Nat.le_of_ble_eq_true rfl) (w_Fr_setArgument hB  (k3) (x4) (q2.1) c4k hq5 ⟨rfl, ?_⟩)
              refine r_iinc f_Ru_call_47 l4 (w := x4 + (-1)) rfl ?_
              refine r_goto f_Ru_call_50 ?_
              exact ih _ (q5) (x1) (some (k3)) ((x4 + (-1))) hx1 (lk_put_ne l1 (by decide) (Or.inl rfl)) (lk_put_ne l3 (by decide) (Or.inl rfl)) lk_put hF
          · rw [if_neg c4k] at hF; cases hF
def F_Ru_call (a0 : Nat) (a1 : Nat) (a2 : Int32) (σ : SG) : Option (Bool × SG) :=
  if (σ.1 (a0) 11) < (8 : Int32) then
  match F_Ru_activate (a0) (a2) σ with
  | none => none
  | some q7 =>
  match q7.1 with
  | none => none
  | some k8 => if isC SHc k8 0 = true then
  if isC SHc ((q7.2.2.2.1 (k8) 1)) 2 = true then
  F_Ru_call_32  5000 (a1) (some (k8)) (((q7.2.1 ((q7.2.2.2.1 (k8) 1)) 1) - (1 : Int32))) q7.2
  else none
  else none
  else match F_Ru_raise (a0) ((5 : Int32)) σ with
  | none => none
  | some q11 =>
  some (q11.1, q11.2)
set_option maxHeartbeats 4000000 in
theorem w_Ru_call {b d : Nat} {pre tl : List PE} {B : Nat} {Q : Option Value → List PE → Prop} {res : Bool × SG} (hB : B = b + pre.length) (hd : 2 ≤ d)  {σ : SG} (a0 : Nat) (a1 : Nat) (a2 : Int32) (ha0 : isC SHc (a0) 5 = true) (ha1 : isC SHc (a1) 0 = true) (hF : F_Ru_call a0 a1 a2 σ = some res) (hQ : Q (some (.int (bz res.1))) (HH pre tl SHc B res.2)) : Cl b d 145 [.ref (B + (a0)), .ref (B + (a1)), .int (a2)] (HH pre tl SHc B σ) Q := by
  obtain ⟨e0, rfl⟩ : ∃ e, d = e + 1 := ⟨d - 1, by omega⟩
  unfold Cl
  unfold F_Ru_call at hF
  refine r_aload_n f_Ru_call_0 rfl ?_
  refine t_geti hB ha0 f_Ru_call_1 rfl ?_
  refine r_bipush f_Ru_call_4 (v := 8) (by decide) ?_
  refine r_icmp_lt f_Ru_call_6 (fun c6 => ?_) (fun c6 => ?_)
  · rw [if_pos c6] at hF
    refine r_aload_n f_Ru_call_15 rfl ?_
    refine r_iload_n f_Ru_call_16 rfl ?_
    cases hq7 : F_Ru_activate (a0) (a2) σ with
    | none => simp only [hq7] at hF; cases hF
    | some q7 =>
      simp only [hq7] at hF
      refine t_V1o hB ha0 rfl rfl f_Ru_call_17 (by decide) (Nat.le_of_ble_eq_true rfl) (Nat.le_of_ble_eq_true rfl) (w_Ru_activate hB (by omega) (a0) (a2) ha0 hq7 ⟨_, rfl, ?_⟩)
      refine r_astore_n_O f_Ru_call_20 ?_
      refine r_aload_n_O f_Ru_call_21 lk_put ?_
      cases c9 : (q7.1 : Option Nat) with
      | none => simp only [c9] at hF; cases hF
      | some k8 =>
        simp only [c9] at *
        by_cases c9k : isC SHc k8 0 = true
        · rw [if_pos c9k] at hF
          try simp only [ov]
          by_cases c10 : isC SHc ((q7.2.2.2.1 (k8) 1)) 2 = true
          case neg => rw [if_neg c10] at hF; cases hF
          rw [if_pos c10] at hF
          refine t_getm hB c9k f_Ru_call_22 rfl ?_
          refine t_geti hB c10 f_Ru_call_25 rfl ?_
          refine r_iconst f_Ru_call_28 (v := 1) (by decide) ?_
          refine r_isub f_Ru_call_29 ?_
          refine r_istore f_Ru_call_30 ?_
          exact w_Ru_call_32 hB hd  hQ 5000 _ (q7.2) (a1) (some (k8)) (((q7.2.1 ((q7.2.2.2.1 (k8) 1)) 1) - (1 : Int32))) ha1 (lk_put_ne (lk_put_ne rfl (by decide) (Or.inl rfl)) (by decide) (Or.inl rfl)) (lk_put_ne lk_put (by decide) (Or.inl rfl)) lk_put hF
        · rw [if_neg c9k] at hF; cases hF
  · rw [if_neg c6] at hF
    refine r_aload_n f_Ru_call_9 rfl ?_
    refine r_iconst f_Ru_call_10 (v := 5) (by decide) ?_
    cases hq11 : F_Ru_raise (a0) ((5 : Int32)) σ with
    | none => simp only [hq11] at hF; cases hF
    | some q11 =>
      simp only [hq11] at hF
      refine t_V1i hB ha0 rfl rfl f_Ru_call_11 (by decide) (Nat.le_of_ble_eq_true rfl) (Nat.le_of_ble_eq_true rfl) (w_Ru_raise hB (by omega) (a0) ((5 : Int32)) ha0 hq11 ⟨_, rfl, ?_⟩)
      cases hF
      exact r_zreturn f_Ru_call_14 (bz_or (q11.1)) hQ
theorem f_Ru_numberOf_0 : fetch 147 0 = some (.iload_n 0, 1, 0, 0, 0) := rfl
theorem f_Ru_numberOf_1 : fetch 147 1 = some (.iconst 1, 1, 0, 0, 0) := rfl
theorem f_Ru_numberOf_2 : fetch 147 2 = some (.if_icmp .ne 6, 3, 8, 0, 0) := rfl
theorem f_Ru_numberOf_5 : fetch 147 5 = some (.lload_n 1, 1, 0, 0, 0) := rfl
theorem f_Ru_numberOf_6 : fetch 147 6 = some (.l2i, 1, 0, 0, 0) := rfl
theorem f_Ru_numberOf_7 : fetch 147 7 = some (.ireturn, 1, 0, 0, 0) := rfl
theorem f_Ru_numberOf_8 : fetch 147 8 = some (.iload_n 0, 1, 0, 0, 0) := rfl
theorem f_Ru_numberOf_9 : fetch 147 9 = some (.iconst 2, 1, 0, 0, 0) := rfl
theorem f_Ru_numberOf_10 : fetch 147 10 = some (.if_icmp .ne 10, 3, 20, 0, 0) := rfl
theorem f_Ru_numberOf_13 : fetch 147 13 = some (.lload_n 1, 1, 0, 0, 0) := rfl
theorem f_Ru_numberOf_14 : fetch 147 14 = some (.invokestatic 196, 3, 141, 1, 146) := rfl
theorem f_Ru_numberOf_17 : fetch 147 17 = some (.goto 4, 3, 21, 0, 0) := rfl
theorem f_Ru_numberOf_20 : fetch 147 20 = some (.iconst 0, 1, 0, 0, 0) := rfl
theorem f_Ru_numberOf_21 : fetch 147 21 = some (.ireturn, 1, 0, 0, 0) := rfl
def F_Ru_numberOf_21  (y0 : Int32) (σ : SG) : Option (Int32 × SG) :=
  some (y0, σ)
set_option maxHeartbeats 4000000 in
theorem w_Ru_numberOf_21 {b d : Nat} {sc : SC} {pre tl : List PE} {B : Nat} {Q : Option Value → List PE → Prop} {res : Int32 × SG} (hB : B = b + pre.length) (hd : 1 ≤ d)   (hQ : Q (some (.int res.1)) (HH pre tl SHc B res.2)) (lv : LV) (σ : SG) (y0 : Int32)  (hF : F_Ru_numberOf_21  y0 σ = some res) : Rn b sc d 147 21 lv [.int (y0)] (HH pre tl SHc B σ) Q := by
  obtain ⟨e0, rfl⟩ : ∃ e, d = e + 1 := ⟨d - 1, by omega⟩
  unfold F_Ru_numberOf_21 at hF
  cases hF
  exact r_ireturn f_Ru_numberOf_21 hQ
def F_Ru_numberOf (a0 : Int32) (a1 : Int64) (σ : SG) : Option (Int32 × SG) :=
  if a0 = (1 : Int32) then
  some (((a1 : Int64).toInt32), σ)
  else if a0 = (2 : Int32) then
  match F_Ru_firstOf (a1) σ with
  | none => none
  | some q3 =>
  F_Ru_numberOf_21 (q3.1) q3.2
  else F_Ru_numberOf_21 ((0 : Int32)) σ
set_option maxHeartbeats 4000000 in
theorem w_Ru_numberOf {b d : Nat} {pre tl : List PE} {B : Nat} {Q : Option Value → List PE → Prop} {res : Int32 × SG} (hB : B = b + pre.length) (hd : 1 ≤ d)  {σ : SG} (a0 : Int32) (a1 : Int64)  (hF : F_Ru_numberOf a0 a1 σ = some res) (hQ : Q (some (.int res.1)) (HH pre tl SHc B res.2)) : Cl b d 147 [.int (a0), .long (a1)] (HH pre tl SHc B σ) Q := by
  obtain ⟨e0, rfl⟩ : ∃ e, d = e + 1 := ⟨d - 1, by omega⟩
  unfold Cl
  unfold F_Ru_numberOf at hF
  refine r_iload_n f_Ru_numberOf_0 rfl ?_
  refine r_iconst f_Ru_numberOf_1 (v := 1) (by decide) ?_
  refine r_icmp_ne f_Ru_numberOf_2 (fun c1 => ?_) (fun c1 => ?_)
  · rw [if_neg c1] at hF
    refine r_iload_n f_Ru_numberOf_8 rfl ?_
    refine r_iconst f_Ru_numberOf_9 (v := 2) (by decide) ?_
    refine r_icmp_ne f_Ru_numberOf_10 (fun c2 => ?_) (fun c2 => ?_)
    · rw [if_neg c2] at hF
      refine r_iconst f_Ru_numberOf_20 (v := 0) (by decide) ?_
      exact w_Ru_numberOf_21 hB hd  hQ _ (σ) ((0 : Int32)) hF
    · rw [if_pos (Decidable.not_not.mp c2)] at hF
      refine r_lload_n f_Ru_numberOf_13 rfl ?_
      cases hq3 : F_Ru_firstOf (a1) σ with
      | none => simp only [hq3] at hF; cases hF
      | some q3 =>
        simp only [hq3] at hF
        refine t_S1i f_Ru_numberOf_14 (by decide) (Nat.le_of_ble_eq_true rfl) (Nat.le_of_ble_eq_true rfl) (w_Ru_firstOf hB  (a1)  hq3 ⟨_, rfl, ?_⟩)
        refine r_goto f_Ru_numberOf_17 ?_
        exact w_Ru_numberOf_21 hB hd  hQ _ (q3.2) (q3.1) hF
  · rw [if_pos (Decidable.not_not.mp c1)] at hF
    refine r_lload_n f_Ru_numberOf_5 rfl ?_
    refine r_l2i f_Ru_numberOf_6 ?_
    cases hF
    exact r_ireturn f_Ru_numberOf_7 hQ
