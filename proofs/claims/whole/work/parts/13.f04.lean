theorem f_Mo_inHandler_0 : fetch 59 0 = some (.iload_n 2, 1, 0, 0, 0) := rfl
theorem f_Mo_inHandler_1 : fetch 59 1 = some (.aload_n 0, 1, 0, 0, 0) := rfl
theorem f_Mo_inHandler_2 : fetch 59 2 = some (.getfield 40, 3, 8, 15, 37) := rfl
theorem f_Mo_inHandler_5 : fetch 59 5 = some (.iload_n 1, 1, 0, 0, 0) := rfl
theorem f_Mo_inHandler_6 : fetch 59 6 = some (.iaload, 1, 0, 0, 0) := rfl
theorem f_Mo_inHandler_7 : fetch 59 7 = some (.if_icmp .lt 17, 3, 24, 0, 0) := rfl
theorem f_Mo_inHandler_10 : fetch 59 10 = some (.iload_n 2, 1, 0, 0, 0) := rfl
theorem f_Mo_inHandler_11 : fetch 59 11 = some (.aload_n 0, 1, 0, 0, 0) := rfl
theorem f_Mo_inHandler_12 : fetch 59 12 = some (.getfield 43, 3, 8, 16, 38) := rfl
theorem f_Mo_inHandler_15 : fetch 59 15 = some (.iload_n 1, 1, 0, 0, 0) := rfl
theorem f_Mo_inHandler_16 : fetch 59 16 = some (.iaload, 1, 0, 0, 0) := rfl
theorem f_Mo_inHandler_17 : fetch 59 17 = some (.if_icmp .ge 7, 3, 24, 0, 0) := rfl
theorem f_Mo_inHandler_20 : fetch 59 20 = some (.iconst 1, 1, 0, 0, 0) := rfl
theorem f_Mo_inHandler_21 : fetch 59 21 = some (.goto 4, 3, 25, 0, 0) := rfl
theorem f_Mo_inHandler_24 : fetch 59 24 = some (.iconst 0, 1, 0, 0, 0) := rfl
theorem f_Mo_inHandler_25 : fetch 59 25 = some (.ireturn, 1, 2, 0, 0) := rfl
def F_Mo_inHandler_25  (y0 : Bool) (σ : SG) : Option (Bool × SG) :=
  some (y0, σ)
set_option maxHeartbeats 4000000 in
theorem w_Mo_inHandler_25 {b d : Nat} {sc : SC} {pre tl : List PE} {B : Nat} {Q : Option Value → List PE → Prop} {res : Bool × SG} (hB : B = b + pre.length)   (hQ : Q (some (.int (bz res.1))) (HH pre tl SHm B res.2)) (lv : LV) (σ : SG) (y0 : Bool)  (hF : F_Mo_inHandler_25  y0 σ = some res) : Rn b sc d 59 25 lv [.int (bz (y0))] (HH pre tl SHm B σ) Q := by
  unfold F_Mo_inHandler_25 at hF
  cases hF
  exact r_zreturn f_Mo_inHandler_25 (bz_or (y0)) hQ
def F_Mo_inHandler_24   (σ : SG) : Option (Bool × SG) :=
  F_Mo_inHandler_25 (false) σ
set_option maxHeartbeats 4000000 in
theorem w_Mo_inHandler_24 {b d : Nat} {sc : SC} {pre tl : List PE} {B : Nat} {Q : Option Value → List PE → Prop} {res : Bool × SG} (hB : B = b + pre.length)   (hQ : Q (some (.int (bz res.1))) (HH pre tl SHm B res.2)) (lv : LV) (σ : SG)   (hF : F_Mo_inHandler_24   σ = some res) : Rn b sc d 59 24 lv [] (HH pre tl SHm B σ) Q := by
  unfold F_Mo_inHandler_24 at hF
  refine r_iconst f_Mo_inHandler_24 (v := 0) (by decide) ?_
  exact w_Mo_inHandler_25 hB   hQ _ (σ) (false) hF
def F_Mo_inHandler (a0 : Nat) (a1 : Int32) (a2 : Int32) (σ : SG) : Option (Bool × SG) :=
  if a1 < 0 ∨ 18 ≤ (a1).toNatClampNeg then none else
  if a2 < (σ.2.2.2.1 ((cref SHm (a0) 15)) ((a1).toNatClampNeg)) then
  F_Mo_inHandler_24 σ
  else if a1 < 0 ∨ 18 ≤ (a1).toNatClampNeg then none else
  if (σ.2.2.2.1 ((cref SHm (a0) 16)) ((a1).toNatClampNeg)) ≤ a2 then
  F_Mo_inHandler_24 σ
  else F_Mo_inHandler_25 (true) σ
set_option maxHeartbeats 4000000 in
theorem w_Mo_inHandler {b d : Nat} {pre tl : List PE} {B : Nat} {Q : Option Value → List PE → Prop} {res : Bool × SG} (hB : B = b + pre.length)  {σ : SG} (a0 : Nat) (a1 : Int32) (a2 : Int32) (ha0 : isC SHm (a0) 8 = true) (hF : F_Mo_inHandler a0 a1 a2 σ = some res) (hQ : Q (some (.int (bz res.1))) (HH pre tl SHm B res.2)) : Cl b d 59 [.ref (B + (a0)), .int (a1), .int (a2)] (HH pre tl SHm B σ) Q := by
  unfold Cl
  unfold F_Mo_inHandler at hF
  refine r_iload_n f_Mo_inHandler_0 rfl ?_
  refine r_aload_n f_Mo_inHandler_1 rfl ?_
  refine t_getc hB ha0 f_Mo_inHandler_2 rfl ?_
  refine r_iload_n f_Mo_inHandler_5 rfl ?_
  by_cases c1 : a1 < 0 ∨ 18 ≤ (a1).toNatClampNeg
  · rw [if_pos c1] at hF; cases hF
  rw [if_neg c1] at hF
  refine t_iald hB (cc_8_15 ha0) f_Mo_inHandler_6 c1 ?_
  refine r_icmp_lt f_Mo_inHandler_7 (fun c2 => ?_) (fun c2 => ?_)
  · rw [if_pos c2] at hF
    exact w_Mo_inHandler_24 hB   hQ _ (σ) hF
  · rw [if_neg c2] at hF
    refine r_iload_n f_Mo_inHandler_10 rfl ?_
    refine r_aload_n f_Mo_inHandler_11 rfl ?_
    refine t_getc hB ha0 f_Mo_inHandler_12 rfl ?_
    refine r_iload_n f_Mo_inHandler_15 rfl ?_
    by_cases c3 : a1 < 0 ∨ 18 ≤ (a1).toNatClampNeg
    · rw [if_pos c3] at hF; cases hF
    rw [if_neg c3] at hF
    refine t_iald hB (cc_8_16 ha0) f_Mo_inHandler_16 c3 ?_
    refine r_icmp_ge f_Mo_inHandler_17 (fun c4 => ?_) (fun c4 => ?_)
    · rw [if_pos c4] at hF
      exact w_Mo_inHandler_24 hB   hQ _ (σ) hF
    · rw [if_neg c4] at hF
      refine r_iconst f_Mo_inHandler_20 (v := 1) (by decide) ?_
      refine r_goto f_Mo_inHandler_21 ?_
      exact w_Mo_inHandler_25 hB   hQ _ (σ) (true) hF
theorem f_Mo_calls_0 : fetch 57 0 = some (.iload_n 2, 1, 0, 0, 0) := rfl
theorem f_Mo_calls_1 : fetch 57 1 = some (.bipush 33, 2, 0, 0, 0) := rfl
theorem f_Mo_calls_3 : fetch 57 3 = some (.if_icmp .ne 11, 3, 14, 0, 0) := rfl
theorem f_Mo_calls_6 : fetch 57 6 = some (.aload_n 0, 1, 0, 0, 0) := rfl
theorem f_Mo_calls_7 : fetch 57 7 = some (.iload_n 1, 1, 0, 0, 0) := rfl
theorem f_Mo_calls_8 : fetch 57 8 = some (.invokevirtual 157, 3, 47, 1, 61) := rfl
theorem f_Mo_calls_11 : fetch 57 11 = some (.goto 4, 3, 15, 0, 0) := rfl
theorem f_Mo_calls_14 : fetch 57 14 = some (.iconst 0, 1, 0, 0, 0) := rfl
theorem f_Mo_calls_15 : fetch 57 15 = some (.istore_n 3, 1, 0, 0, 0) := rfl
theorem f_Mo_calls_16 : fetch 57 16 = some (.iload_n 2, 1, 0, 0, 0) := rfl
theorem f_Mo_calls_17 : fetch 57 17 = some (.bipush 33, 2, 0, 0, 0) := rfl
theorem f_Mo_calls_19 : fetch 57 19 = some (.if_icmp .ne 96, 3, 115, 0, 0) := rfl
theorem f_Mo_calls_22 : fetch 57 22 = some (.aload_n 0, 1, 0, 0, 0) := rfl
theorem f_Mo_calls_23 : fetch 57 23 = some (.iload_n 3, 1, 0, 0, 0) := rfl
theorem f_Mo_calls_24 : fetch 57 24 = some (.aload_n 0, 1, 0, 0, 0) := rfl
theorem f_Mo_calls_25 : fetch 57 25 = some (.getfield 136, 3, 8, 7, 62) := rfl
theorem f_Mo_calls_28 : fetch 57 28 = some (.if_icmp .ge 7, 3, 35, 0, 0) := rfl
theorem f_Mo_calls_31 : fetch 57 31 = some (.iconst 1, 1, 0, 0, 0) := rfl
theorem f_Mo_calls_32 : fetch 57 32 = some (.goto 4, 3, 36, 0, 0) := rfl
theorem f_Mo_calls_35 : fetch 57 35 = some (.iconst 0, 1, 0, 0, 0) := rfl
theorem f_Mo_calls_36 : fetch 57 36 = some (.invokevirtual 229, 3, 49, 1, 64) := rfl
theorem f_Mo_calls_39 : fetch 57 39 = some (.aload_n 0, 1, 0, 0, 0) := rfl
theorem f_Mo_calls_40 : fetch 57 40 = some (.getfield 181, 3, 8, 27, 66) := rfl
theorem f_Mo_calls_43 : fetch 57 43 = some (.ifCond .eq 14, 3, 57, 0, 0) := rfl
theorem f_Mo_calls_46 : fetch 57 46 = some (.aload_n 0, 1, 0, 0, 0) := rfl
theorem f_Mo_calls_47 : fetch 57 47 = some (.getfield 22, 3, 8, 9, 31) := rfl
theorem f_Mo_calls_50 : fetch 57 50 = some (.iload_n 3, 1, 0, 0, 0) := rfl
theorem f_Mo_calls_51 : fetch 57 51 = some (.iaload, 1, 0, 0, 0) := rfl
theorem f_Mo_calls_52 : fetch 57 52 = some (.iconst 1, 1, 0, 0, 0) := rfl
theorem f_Mo_calls_53 : fetch 57 53 = some (.isub, 1, 0, 0, 0) := rfl
theorem f_Mo_calls_54 : fetch 57 54 = some (.goto 4, 3, 58, 0, 0) := rfl
theorem f_Mo_calls_57 : fetch 57 57 = some (.iconst (-1), 1, 0, 0, 0) := rfl
theorem f_Mo_calls_58 : fetch 57 58 = some (.istore 4, 2, 0, 0, 0) := rfl
theorem f_Mo_calls_60 : fetch 57 60 = some (.iload 4, 2, 0, 0, 0) := rfl
theorem f_Mo_calls_62 : fetch 57 62 = some (.ifCond .lt 24, 3, 86, 0, 0) := rfl
theorem f_Mo_calls_65 : fetch 57 65 = some (.aload_n 0, 1, 0, 0, 0) := rfl
theorem f_Mo_calls_66 : fetch 57 66 = some (.aload_n 0, 1, 0, 0, 0) := rfl
theorem f_Mo_calls_67 : fetch 57 67 = some (.getfield 25, 3, 8, 10, 32) := rfl
theorem f_Mo_calls_70 : fetch 57 70 = some (.iconst 3, 1, 0, 0, 0) := rfl
theorem f_Mo_calls_71 : fetch 57 71 = some (.iload_n 3, 1, 0, 0, 0) := rfl
theorem f_Mo_calls_72 : fetch 57 72 = some (.imul, 1, 0, 0, 0) := rfl
theorem f_Mo_calls_73 : fetch 57 73 = some (.iload 4, 2, 0, 0, 0) := rfl
theorem f_Mo_calls_75 : fetch 57 75 = some (.iadd, 1, 0, 0, 0) := rfl
theorem f_Mo_calls_76 : fetch 57 76 = some (.iaload, 1, 0, 0, 0) := rfl
theorem f_Mo_calls_77 : fetch 57 77 = some (.invokevirtual 238, 3, 50, 1, 63) := rfl
theorem f_Mo_calls_80 : fetch 57 80 = some (.iinc 4 (-1), 3, 0, 0, 0) := rfl
theorem f_Mo_calls_83 : fetch 57 83 = some (.goto (-23), 3, 60, 0, 0) := rfl
theorem f_Mo_calls_86 : fetch 57 86 = some (.aload_n 0, 1, 0, 0, 0) := rfl
theorem f_Mo_calls_87 : fetch 57 87 = some (.getfield 181, 3, 8, 27, 66) := rfl
theorem f_Mo_calls_90 : fetch 57 90 = some (.ifCond .eq 211, 3, 301, 0, 0) := rfl
theorem f_Mo_calls_93 : fetch 57 93 = some (.aload_n 0, 1, 0, 0, 0) := rfl
theorem f_Mo_calls_94 : fetch 57 94 = some (.getfield 19, 3, 8, 8, 30) := rfl
theorem f_Mo_calls_97 : fetch 57 97 = some (.iload_n 3, 1, 0, 0, 0) := rfl
theorem f_Mo_calls_98 : fetch 57 98 = some (.iaload, 1, 0, 0, 0) := rfl
theorem f_Mo_calls_99 : fetch 57 99 = some (.ifCond .le 202, 3, 301, 0, 0) := rfl
theorem f_Mo_calls_102 : fetch 57 102 = some (.aload_n 0, 1, 0, 0, 0) := rfl
theorem f_Mo_calls_103 : fetch 57 103 = some (.aload_n 0, 1, 0, 0, 0) := rfl
theorem f_Mo_calls_104 : fetch 57 104 = some (.getfield 19, 3, 8, 8, 30) := rfl
theorem f_Mo_calls_107 : fetch 57 107 = some (.iload_n 3, 1, 0, 0, 0) := rfl
theorem f_Mo_calls_108 : fetch 57 108 = some (.iaload, 1, 0, 0, 0) := rfl
theorem f_Mo_calls_109 : fetch 57 109 = some (.invokevirtual 232, 3, 46, 1, 60) := rfl
theorem f_Mo_calls_112 : fetch 57 112 = some (.goto 189, 3, 301, 0, 0) := rfl
theorem f_Mo_calls_115 : fetch 57 115 = some (.iload_n 2, 1, 0, 0, 0) := rfl
theorem f_Mo_calls_116 : fetch 57 116 = some (.bipush 34, 2, 0, 0, 0) := rfl
theorem f_Mo_calls_118 : fetch 57 118 = some (.if_icmp .ne 97, 3, 215, 0, 0) := rfl
theorem f_Mo_calls_121 : fetch 57 121 = some (.aload_n 0, 1, 0, 0, 0) := rfl
theorem f_Mo_calls_122 : fetch 57 122 = some (.getfield 19, 3, 8, 8, 30) := rfl
theorem f_Mo_calls_125 : fetch 57 125 = some (.aload_n 0, 1, 0, 0, 0) := rfl
theorem f_Mo_calls_126 : fetch 57 126 = some (.getfield 154, 3, 8, 24, 65) := rfl
theorem f_Mo_calls_129 : fetch 57 129 = some (.iaload, 1, 0, 0, 0) := rfl
theorem f_Mo_calls_130 : fetch 57 130 = some (.ifCond .le 16, 3, 146, 0, 0) := rfl
theorem f_Mo_calls_133 : fetch 57 133 = some (.aload_n 0, 1, 0, 0, 0) := rfl
theorem f_Mo_calls_134 : fetch 57 134 = some (.aload_n 0, 1, 0, 0, 0) := rfl
theorem f_Mo_calls_135 : fetch 57 135 = some (.getfield 19, 3, 8, 8, 30) := rfl
theorem f_Mo_calls_138 : fetch 57 138 = some (.aload_n 0, 1, 0, 0, 0) := rfl
theorem f_Mo_calls_139 : fetch 57 139 = some (.getfield 154, 3, 8, 24, 65) := rfl
theorem f_Mo_calls_142 : fetch 57 142 = some (.iaload, 1, 0, 0, 0) := rfl
theorem f_Mo_calls_143 : fetch 57 143 = some (.invokevirtual 238, 3, 50, 1, 63) := rfl
theorem f_Mo_calls_146 : fetch 57 146 = some (.iconst 3, 1, 0, 0, 0) := rfl
theorem f_Mo_calls_147 : fetch 57 147 = some (.aload_n 0, 1, 0, 0, 0) := rfl
theorem f_Mo_calls_148 : fetch 57 148 = some (.getfield 154, 3, 8, 24, 65) := rfl
theorem f_Mo_calls_151 : fetch 57 151 = some (.imul, 1, 0, 0, 0) := rfl
theorem f_Mo_calls_152 : fetch 57 152 = some (.istore 4, 2, 0, 0, 0) := rfl
theorem f_Mo_calls_154 : fetch 57 154 = some (.iload 4, 2, 0, 0, 0) := rfl
theorem f_Mo_calls_156 : fetch 57 156 = some (.iconst 3, 1, 0, 0, 0) := rfl
theorem f_Mo_calls_157 : fetch 57 157 = some (.aload_n 0, 1, 0, 0, 0) := rfl
theorem f_Mo_calls_158 : fetch 57 158 = some (.getfield 154, 3, 8, 24, 65) := rfl
theorem f_Mo_calls_161 : fetch 57 161 = some (.imul, 1, 0, 0, 0) := rfl
theorem f_Mo_calls_162 : fetch 57 162 = some (.aload_n 0, 1, 0, 0, 0) := rfl
theorem f_Mo_calls_163 : fetch 57 163 = some (.getfield 34, 3, 8, 13, 35) := rfl
theorem f_Mo_calls_166 : fetch 57 166 = some (.aload_n 0, 1, 0, 0, 0) := rfl
theorem f_Mo_calls_167 : fetch 57 167 = some (.getfield 154, 3, 8, 24, 65) := rfl
theorem f_Mo_calls_170 : fetch 57 170 = some (.iaload, 1, 0, 0, 0) := rfl
theorem f_Mo_calls_171 : fetch 57 171 = some (.iadd, 1, 0, 0, 0) := rfl
theorem f_Mo_calls_172 : fetch 57 172 = some (.if_icmp .ge 40, 3, 212, 0, 0) := rfl
theorem f_Mo_calls_175 : fetch 57 175 = some (.aload_n 0, 1, 0, 0, 0) := rfl
theorem f_Mo_calls_176 : fetch 57 176 = some (.iload_n 1, 1, 0, 0, 0) := rfl
theorem f_Mo_calls_177 : fetch 57 177 = some (.aload_n 0, 1, 0, 0, 0) := rfl
theorem f_Mo_calls_178 : fetch 57 178 = some (.getfield 37, 3, 8, 14, 36) := rfl
theorem f_Mo_calls_181 : fetch 57 181 = some (.iload 4, 2, 0, 0, 0) := rfl
theorem f_Mo_calls_183 : fetch 57 183 = some (.iaload, 1, 0, 0, 0) := rfl
theorem f_Mo_calls_184 : fetch 57 184 = some (.if_icmp .lt 14, 3, 198, 0, 0) := rfl
theorem f_Mo_calls_187 : fetch 57 187 = some (.iload_n 1, 1, 0, 0, 0) := rfl
theorem f_Mo_calls_188 : fetch 57 188 = some (.aload_n 0, 1, 0, 0, 0) := rfl
theorem f_Mo_calls_189 : fetch 57 189 = some (.getfield 43, 3, 8, 16, 38) := rfl
theorem f_Mo_calls_192 : fetch 57 192 = some (.iload 4, 2, 0, 0, 0) := rfl
theorem f_Mo_calls_194 : fetch 57 194 = some (.iaload, 1, 0, 0, 0) := rfl
theorem f_Mo_calls_195 : fetch 57 195 = some (.if_icmp .lt 7, 3, 202, 0, 0) := rfl
theorem f_Mo_calls_198 : fetch 57 198 = some (.iconst 1, 1, 0, 0, 0) := rfl
theorem f_Mo_calls_199 : fetch 57 199 = some (.goto 4, 3, 203, 0, 0) := rfl
theorem f_Mo_calls_202 : fetch 57 202 = some (.iconst 0, 1, 0, 0, 0) := rfl
theorem f_Mo_calls_203 : fetch 57 203 = some (.invokevirtual 229, 3, 49, 1, 64) := rfl
theorem f_Mo_calls_206 : fetch 57 206 = some (.iinc 4 1, 3, 0, 0, 0) := rfl
theorem f_Mo_calls_209 : fetch 57 209 = some (.goto (-55), 3, 154, 0, 0) := rfl
theorem f_Mo_calls_212 : fetch 57 212 = some (.goto 89, 3, 301, 0, 0) := rfl
theorem f_Mo_calls_215 : fetch 57 215 = some (.iload_n 2, 1, 0, 0, 0) := rfl
theorem f_Mo_calls_216 : fetch 57 216 = some (.bipush 35, 2, 0, 0, 0) := rfl
theorem f_Mo_calls_218 : fetch 57 218 = some (.if_icmp .ne 11, 3, 229, 0, 0) := rfl
theorem f_Mo_calls_221 : fetch 57 221 = some (.aload_n 0, 1, 0, 0, 0) := rfl
theorem f_Mo_calls_222 : fetch 57 222 = some (.iconst 1, 1, 0, 0, 0) := rfl
theorem f_Mo_calls_223 : fetch 57 223 = some (.invokevirtual 238, 3, 50, 1, 63) := rfl
theorem f_Mo_calls_226 : fetch 57 226 = some (.goto 75, 3, 301, 0, 0) := rfl
theorem f_Mo_calls_229 : fetch 57 229 = some (.iload_n 2, 1, 0, 0, 0) := rfl
theorem f_Mo_calls_230 : fetch 57 230 = some (.bipush 37, 2, 0, 0, 0) := rfl
theorem f_Mo_calls_232 : fetch 57 232 = some (.if_icmp .ne 69, 3, 301, 0, 0) := rfl
theorem f_Mo_calls_235 : fetch 57 235 = some (.aload_n 0, 1, 0, 0, 0) := rfl
theorem f_Mo_calls_236 : fetch 57 236 = some (.iload_n 1, 1, 0, 0, 0) := rfl
theorem f_Mo_calls_237 : fetch 57 237 = some (.invokevirtual 254, 3, 58, 1, 70) := rfl
theorem f_Mo_calls_240 : fetch 57 240 = some (.istore 4, 2, 0, 0, 0) := rfl
theorem f_Mo_calls_242 : fetch 57 242 = some (.aload_n 0, 1, 0, 0, 0) := rfl
theorem f_Mo_calls_243 : fetch 57 243 = some (.aload_n 0, 1, 0, 0, 0) := rfl
theorem f_Mo_calls_244 : fetch 57 244 = some (.getfield 191, 3, 8, 25, 67) := rfl
theorem f_Mo_calls_247 : fetch 57 247 = some (.ifCond .ne 50, 3, 297, 0, 0) := rfl
theorem f_Mo_calls_250 : fetch 57 250 = some (.iload 4, 2, 0, 0, 0) := rfl
theorem f_Mo_calls_252 : fetch 57 252 = some (.ifCond .lt 45, 3, 297, 0, 0) := rfl
theorem f_Mo_calls_255 : fetch 57 255 = some (.aload_n 0, 1, 0, 0, 0) := rfl
theorem f_Mo_calls_256 : fetch 57 256 = some (.getfield 46, 3, 8, 17, 39) := rfl
theorem f_Mo_calls_259 : fetch 57 259 = some (.iload 4, 2, 0, 0, 0) := rfl
theorem f_Mo_calls_261 : fetch 57 261 = some (.ifCond .ge 7, 3, 268, 0, 0) := rfl
theorem f_Mo_calls_264 : fetch 57 264 = some (.iconst 0, 1, 0, 0, 0) := rfl
theorem f_Mo_calls_265 : fetch 57 265 = some (.goto 5, 3, 270, 0, 0) := rfl
theorem f_Mo_calls_268 : fetch 57 268 = some (.iload 4, 2, 0, 0, 0) := rfl
theorem f_Mo_calls_270 : fetch 57 270 = some (.baload, 1, 0, 0, 0) := rfl
theorem f_Mo_calls_271 : fetch 57 271 = some (.ifCond .eq 26, 3, 297, 0, 0) := rfl
theorem f_Mo_calls_274 : fetch 57 274 = some (.aload_n 0, 1, 0, 0, 0) := rfl
theorem f_Mo_calls_275 : fetch 57 275 = some (.iload 4, 2, 0, 0, 0) := rfl
theorem f_Mo_calls_277 : fetch 57 277 = some (.ifCond .ge 7, 3, 284, 0, 0) := rfl
theorem f_Mo_calls_280 : fetch 57 280 = some (.iconst 0, 1, 0, 0, 0) := rfl
theorem f_Mo_calls_281 : fetch 57 281 = some (.goto 5, 3, 286, 0, 0) := rfl
theorem f_Mo_calls_284 : fetch 57 284 = some (.iload 4, 2, 0, 0, 0) := rfl
theorem f_Mo_calls_286 : fetch 57 286 = some (.iload_n 1, 1, 0, 0, 0) := rfl
theorem f_Mo_calls_287 : fetch 57 287 = some (.invokevirtual 226, 3, 59, 2, 71) := rfl
theorem f_Mo_calls_290 : fetch 57 290 = some (.ifCond .eq 7, 3, 297, 0, 0) := rfl
theorem f_Mo_calls_293 : fetch 57 293 = some (.iconst 1, 1, 0, 0, 0) := rfl
theorem f_Mo_calls_294 : fetch 57 294 = some (.goto 4, 3, 298, 0, 0) := rfl
theorem f_Mo_calls_297 : fetch 57 297 = some (.iconst 0, 1, 0, 0, 0) := rfl
theorem f_Mo_calls_298 : fetch 57 298 = some (.invokevirtual 229, 3, 49, 1, 64) := rfl
theorem f_Mo_calls_301 : fetch 57 301 = some (.return_, 1, 0, 0, 0) := rfl
def F_Mo_calls_301   (σ : SG) : Option (SG) :=
  some σ
set_option maxHeartbeats 4000000 in
theorem w_Mo_calls_301 {b d : Nat} {sc : SC} {pre tl : List PE} {B : Nat} {Q : Option Value → List PE → Prop} {res : SG} (hB : B = b + pre.length) (hd : 2 ≤ d)   (hQ : Q none (HH pre tl SHm B res)) (lv : LV) (σ : SG)   (hF : F_Mo_calls_301   σ = some res) : Rn b sc d 57 301 lv [] (HH pre tl SHm B σ) Q := by
  obtain ⟨e0, rfl⟩ : ∃ e, d = e + 1 := ⟨d - 1, by omega⟩
  unfold F_Mo_calls_301 at hF
  cases hF
  exact r_return f_Mo_calls_301 hQ
def F_Mo_calls_298  (y0 : Nat) (y1 : Bool) (σ : SG) : Option (SG) :=
  match F_Mo_need (y0) (y1) σ with
  | none => none
  | some q1 =>
  F_Mo_calls_301 q1
set_option maxHeartbeats 4000000 in
theorem w_Mo_calls_298 {b d : Nat} {sc : SC} {pre tl : List PE} {B : Nat} {Q : Option Value → List PE → Prop} {res : SG} (hB : B = b + pre.length) (hd : 2 ≤ d)   (hQ : Q none (HH pre tl SHm B res)) (lv : LV) (σ : SG) (y0 : Nat) (y1 : Bool) (hy0 : isC SHm (y0) 8 = true) (hF : F_Mo_calls_298  y0 y1 σ = some res) : Rn b sc d 57 298 lv [.int (bz (y1)), .ref (B + (y0))] (HH pre tl SHm B σ) Q := by
  obtain ⟨e0, rfl⟩ : ∃ e, d = e + 1 := ⟨d - 1, by omega⟩
  unfold F_Mo_calls_298 at hF
  cases hq1 : F_Mo_need (y0) (y1) σ with
  | none => simp only [hq1] at hF; cases hF
  | some q1 =>
    simp only [hq1] at hF
    refine t_V1v hB hy0 rfl rfl f_Mo_calls_298 (by decide) (Nat.le_of_ble_eq_true rfl) (Nat.le_of_ble_eq_true rfl) (w_Mo_need hB  (y0) (y1) hy0 hq1 ⟨rfl, ?_⟩)
    exact w_Mo_calls_301 hB hd  hQ _ (q1) hF
def F_Mo_calls_297  (y0 : Nat) (σ : SG) : Option (SG) :=
  F_Mo_calls_298 (y0) (false) σ
set_option maxHeartbeats 4000000 in
theorem w_Mo_calls_297 {b d : Nat} {sc : SC} {pre tl : List PE} {B : Nat} {Q : Option Value → List PE → Prop} {res : SG} (hB : B = b + pre.length) (hd : 2 ≤ d)   (hQ : Q none (HH pre tl SHm B res)) (lv : LV) (σ : SG) (y0 : Nat) (hy0 : isC SHm (y0) 8 = true) (hF : F_Mo_calls_297  y0 σ = some res) : Rn b sc d 57 297 lv [.ref (B + (y0))] (HH pre tl SHm B σ) Q := by
  obtain ⟨e0, rfl⟩ : ∃ e, d = e + 1 := ⟨d - 1, by omega⟩
  unfold F_Mo_calls_297 at hF
  refine r_iconst f_Mo_calls_297 (v := 0) (by decide) ?_
  exact w_Mo_calls_298 hB hd  hQ _ (σ) (y0) (false) hy0 hF
def F_Mo_calls_286  (x1 : Int32) (y0 : Nat) (y1 : Nat) (y2 : Int32) (σ : SG) : Option (SG) :=
  match F_Mo_inHandler (y1) (y2) (x1) σ with
  | none => none
  | some q2 =>
  if q2.1 = true then
  F_Mo_calls_298 (y0) (true) q2.2
  else F_Mo_calls_297 (y0) q2.2
set_option maxHeartbeats 4000000 in
theorem w_Mo_calls_286 {b d : Nat} {sc : SC} {pre tl : List PE} {B : Nat} {Q : Option Value → List PE → Prop} {res : SG} (hB : B = b + pre.length) (hd : 2 ≤ d)   (hQ : Q none (HH pre tl SHm B res)) (lv : LV) (σ : SG) (x1 : Int32) (y0 : Nat) (y1 : Nat) (y2 : Int32) (hy0 : isC SHm (y0) 8 = true) (hy1 : isC SHm (y1) 8 = true) (l1 : lv.lookup 1 = some (.int (x1))) (hF : F_Mo_calls_286  x1 y0 y1 y2 σ = some res) : Rn b sc d 57 286 lv [.int (y2), .ref (B + (y1)), .ref (B + (y0))] (HH pre tl SHm B σ) Q := by
  obtain ⟨e0, rfl⟩ : ∃ e, d = e + 1 := ⟨d - 1, by omega⟩
  unfold F_Mo_calls_286 at hF
  refine r_iload_n f_Mo_calls_286 l1 ?_
  cases hq2 : F_Mo_inHandler (y1) (y2) (x1) σ with
  | none => simp only [hq2] at hF; cases hF
  | some q2 =>
    simp only [hq2] at hF
    refine t_V2i hB hy1 rfl rfl f_Mo_calls_287 (by decide) (Nat.le_of_ble_eq_true rfl) (Nat.le_of_ble_eq_true rfl) (w_Mo_inHandler hB  (y1) (y2) (x1) hy1 hq2 ⟨_, rfl, ?_⟩)
    refine r_if_eq f_Mo_calls_290 (fun c3 => ?_) (fun c3 => ?_)
    · rw [if_neg (bz_nt c3)] at hF
      exact w_Mo_calls_297 hB hd  hQ _ (q2.2) (y0) hy0 hF
    · rw [if_pos (bz_t c3)] at hF
      refine r_iconst f_Mo_calls_293 (v := 1) (by decide) ?_
      refine r_goto f_Mo_calls_294 ?_
      exact w_Mo_calls_298 hB hd  hQ _ (q2.2) (y0) (true) hy0 hF
def F_Mo_calls_270  (x0 : Nat) (x1 : Int32) (x4 : Int32) (y0 : Nat) (y1 : Nat) (y2 : Int32) (σ : SG) : Option (SG) :=
  if y2 < 0 ∨ 18 ≤ (y2).toNatClampNeg then none else
  if (zb (σ.2.2.2.1 (y1) ((y2).toNatClampNeg))) = true then
  if 0 ≤ x4 then
  F_Mo_calls_286 (x1) (y0) (x0) (x4) σ
  else F_Mo_calls_286 (x1) (y0) (x0) ((0 : Int32)) σ
  else F_Mo_calls_297 (y0) σ
set_option maxHeartbeats 4000000 in
theorem w_Mo_calls_270 {b d : Nat} {sc : SC} {pre tl : List PE} {B : Nat} {Q : Option Value → List PE → Prop} {res : SG} (hB : B = b + pre.length) (hd : 2 ≤ d)   (hQ : Q none (HH pre tl SHm B res)) (lv : LV) (σ : SG) (x0 : Nat) (x1 : Int32) (x4 : Int32) (y0 : Nat) (y1 : Nat) (y2 : Int32) (hx0 : isC SHm (x0) 8 = true) (hy0 : isC SHm (y0) 8 = true) (hy1 : isA SHm (y1) 2 18 = true) (l0 : lv.lookup 0 = some (.ref (B + (x0)))) (l1 : lv.lookup 1 = some (.int (x1))) (l4 : lv.lookup 4 = some (.int (x4))) (hF : F_Mo_calls_270  x0 x1 x4 y0 y1 y2 σ = some res) : Rn b sc d 57 270 lv [.int (y2), .ref (B + (y1)), .ref (B + (y0))] (HH pre tl SHm B σ) Q := by
  obtain ⟨e0, rfl⟩ : ∃ e, d = e + 1 := ⟨d - 1, by omega⟩
  unfold F_Mo_calls_270 at hF
  by_cases c4 : y2 < 0 ∨ 18 ≤ (y2).toNatClampNeg
  · rw [if_pos c4] at hF; cases hF
  rw [if_neg c4] at hF
  refine t_bald hB hy1 f_Mo_calls_270 c4 ?_
  refine r_if_eq f_Mo_calls_271 (fun c5 => ?_) (fun c5 => ?_)
  · rw [if_neg (bz_nt c5)] at hF
    exact w_Mo_calls_297 hB hd  hQ _ (σ) (y0) hy0 hF
  · rw [if_pos (bz_t c5)] at hF
    refine r_aload_n f_Mo_calls_274 l0 ?_
    refine r_iload f_Mo_calls_275 l4 ?_
    refine r_if_ge f_Mo_calls_277 (fun c6 => ?_) (fun c6 => ?_)
    · rw [if_pos c6] at hF
      refine r_iload f_Mo_calls_284 l4 ?_
      exact w_Mo_calls_286 hB hd  hQ _ (σ) (x1) (y0) (x0) (x4) hy0 hx0 l1 hF
    · rw [if_neg c6] at hF
      refine r_iconst f_Mo_calls_280 (v := 0) (by decide) ?_
      refine r_goto f_Mo_calls_281 ?_
      exact w_Mo_calls_286 hB hd  hQ _ (σ) (x1) (y0) (x0) ((0 : Int32)) hy0 hx0 l1 hF
def F_Mo_calls_203 (rec154 : Nat → Int32 → Int32 → SG → Option (SG)) (x0 : Nat) (x1 : Int32) (x4 : Int32) (y0 : Nat) (y1 : Bool) (σ : SG) : Option (SG) :=
  match F_Mo_need (y0) (y1) σ with
  | none => none
  | some q7 =>
  rec154 (x0) (x1) ((x4 + 1)) q7
set_option maxHeartbeats 4000000 in
theorem w_Mo_calls_203 {b d : Nat} {sc : SC} {pre tl : List PE} {B : Nat} {Q : Option Value → List PE → Prop} {res : SG} (hB : B = b + pre.length) (hd : 2 ≤ d) {rec154 : Nat → Int32 → Int32 → SG → Option (SG)} (hr154 : ∀ (lv : LV) (σ : SG) (x0 : Nat) (x1 : Int32) (x4 : Int32), isC SHm (x0) 8 = true → lv.lookup 0 = some (.ref (B + (x0))) → lv.lookup 1 = some (.int (x1)) → lv.lookup 4 = some (.int (x4)) →  rec154 x0 x1 x4 σ = some res → Rn b sc d 57 154 lv [] (HH pre tl SHm B σ) Q) (hQ : Q none (HH pre tl SHm B res)) (lv : LV) (σ : SG) (x0 : Nat) (x1 : Int32) (x4 : Int32) (y0 : Nat) (y1 : Bool) (hx0 : isC SHm (x0) 8 = true) (hy0 : isC SHm (y0) 8 = true) (l0 : lv.lookup 0 = some (.ref (B + (x0)))) (l1 : lv.lookup 1 = some (.int (x1))) (l4 : lv.lookup 4 = some (.int (x4))) (hF : F_Mo_calls_203 rec154 x0 x1 x4 y0 y1 σ = some res) : Rn b sc d 57 203 lv [.int (bz (y1)), .ref (B + (y0))] (HH pre tl SHm B σ) Q := by
  obtain ⟨e0, rfl⟩ : ∃ e, d = e + 1 := ⟨d - 1, by omega⟩
  unfold F_Mo_calls_203 at hF
  cases hq7 : F_Mo_need (y0) (y1) σ with
  | none => simp only [hq7] at hF; cases hF
  | some q7 =>
    simp only [hq7] at hF
    refine t_V1v hB hy0 rfl rfl f_Mo_calls_203 (by decide) (Nat.le_of_ble_eq_true rfl) (Nat.le_of_ble_eq_true rfl) (w_Mo_need hB  (y0) (y1) hy0 hq7 ⟨rfl, ?_⟩)
    refine r_iinc f_Mo_calls_206 l4 (w := x4 + 1) rfl ?_
    refine r_goto f_Mo_calls_209 ?_
    exact hr154 _ (q7) (x0) (x1) ((x4 + 1)) hx0 (lk_put_ne l0 (by decide) (Or.inl rfl)) (lk_put_ne l1 (by decide) (Or.inl rfl)) lk_put hF
def F_Mo_calls_198 (rec154 : Nat → Int32 → Int32 → SG → Option (SG)) (x0 : Nat) (x1 : Int32) (x4 : Int32) (y0 : Nat) (σ : SG) : Option (SG) :=
  F_Mo_calls_203 (rec154) (x0) (x1) (x4) (y0) (true) σ
set_option maxHeartbeats 4000000 in
theorem w_Mo_calls_198 {b d : Nat} {sc : SC} {pre tl : List PE} {B : Nat} {Q : Option Value → List PE → Prop} {res : SG} (hB : B = b + pre.length) (hd : 2 ≤ d) {rec154 : Nat → Int32 → Int32 → SG → Option (SG)} (hr154 : ∀ (lv : LV) (σ : SG) (x0 : Nat) (x1 : Int32) (x4 : Int32), isC SHm (x0) 8 = true → lv.lookup 0 = some (.ref (B + (x0))) → lv.lookup 1 = some (.int (x1)) → lv.lookup 4 = some (.int (x4)) →  rec154 x0 x1 x4 σ = some res → Rn b sc d 57 154 lv [] (HH pre tl SHm B σ) Q) (hQ : Q none (HH pre tl SHm B res)) (lv : LV) (σ : SG) (x0 : Nat) (x1 : Int32) (x4 : Int32) (y0 : Nat) (hx0 : isC SHm (x0) 8 = true) (hy0 : isC SHm (y0) 8 = true) (l0 : lv.lookup 0 = some (.ref (B + (x0)))) (l1 : lv.lookup 1 = some (.int (x1))) (l4 : lv.lookup 4 = some (.int (x4))) (hF : F_Mo_calls_198 rec154 x0 x1 x4 y0 σ = some res) : Rn b sc d 57 198 lv [.ref (B + (y0))] (HH pre tl SHm B σ) Q := by
  obtain ⟨e0, rfl⟩ : ∃ e, d = e + 1 := ⟨d - 1, by omega⟩
  unfold F_Mo_calls_198 at hF
  refine r_iconst f_Mo_calls_198 (v := 1) (by decide) ?_
  refine r_goto f_Mo_calls_199 ?_
  exact w_Mo_calls_203 hB hd (hr154) hQ _ (σ) (x0) (x1) (x4) (y0) (true) hx0 hy0 l0 l1 l4 hF
def F_Mo_calls_154  : Nat → Nat → Int32 → Int32 → SG → Option (SG)
  | 0, _, _, _, _ => none
  | n + 1, x0, x1, x4, σ =>
  if (σ.1 (x0) 24) < 0 ∨ 6 ≤ ((σ.1 (x0) 24)).toNatClampNeg then none else
  if (((3 : Int32) * (σ.1 (x0) 24)) + (σ.2.2.2.1 ((cref SHm (x0) 13)) (((σ.1 (x0) 24)).toNatClampNeg))) ≤ x4 then
  F_Mo_calls_301 σ
  else if x4 < 0 ∨ 18 ≤ (x4).toNatClampNeg then none else
  if x1 < (σ.2.2.2.1 ((cref SHm (x0) 14)) ((x4).toNatClampNeg)) then
  F_Mo_calls_198 (F_Mo_calls_154  n) (x0) (x1) (x4) (x0) σ
  else if x4 < 0 ∨ 18 ≤ (x4).toNatClampNeg then none else
  if x1 < (σ.2.2.2.1 ((cref SHm (x0) 16)) ((x4).toNatClampNeg)) then
  F_Mo_calls_203 (F_Mo_calls_154  n) (x0) (x1) (x4) (x0) (false) σ
  else F_Mo_calls_198 (F_Mo_calls_154  n) (x0) (x1) (x4) (x0) σ
set_option maxHeartbeats 4000000 in
theorem w_Mo_calls_154 {b d : Nat} {sc : SC} {pre tl : List PE} {B : Nat} {Q : Option Value → List PE → Prop} {res : SG} (hB : B = b + pre.length) (hd : 2 ≤ d)   (hQ : Q none (HH pre tl SHm B res)) : ∀ (n : Nat) (lv : LV) (σ : SG) (x0 : Nat) (x1 : Int32) (x4 : Int32), isC SHm (x0) 8 = true → lv.lookup 0 = some (.ref (B + (x0))) → lv.lookup 1 = some (.int (x1)) → lv.lookup 4 = some (.int (x4)) → F_Mo_calls_154  n x0 x1 x4 σ = some res → Rn b sc d 57 154 lv [] (HH pre tl SHm B σ) Q := by
  obtain ⟨e0, rfl⟩ : ∃ e, d = e + 1 := ⟨d - 1, by omega⟩
  intro n
  induction n with
  | zero => intro lv σ x0 x1 x4 hx0 l0 l1 l4 hF; cases hF
  | succ n ih =>
    intro lv σ x0 x1 x4 hx0 l0 l1 l4 hF
    unfold F_Mo_calls_154 at hF
    refine r_iload f_Mo_calls_154 l4 ?_
    refine r_iconst f_Mo_calls_156 (v := 3) (by decide) ?_
    refine r_aload_n f_Mo_calls_157 l0 ?_
    refine t_geti hB hx0 f_Mo_calls_158 rfl ?_
    refine r_imul f_Mo_calls_161 ?_
    refine r_aload_n f_Mo_calls_162 l0 ?_
    refine t_getc hB hx0 f_Mo_calls_163 rfl ?_
    refine r_aload_n f_Mo_calls_166 l0 ?_
    refine t_geti hB hx0 f_Mo_calls_167 rfl ?_
    by_cases c8 : (σ.1 (x0) 24) < 0 ∨ 6 ≤ ((σ.1 (x0) 24)).toNatClampNeg
    · rw [if_pos c8] at hF; cases hF
    rw [if_neg c8] at hF
    refine t_iald hB (cc_8_13 hx0) f_Mo_calls_170 c8 ?_
    refine r_iadd f_Mo_calls_171 ?_
    refine r_icmp_ge f_Mo_calls_172 (fun c9 => ?_) (fun c9 => ?_)
    · rw [if_pos c9] at hF
      refine r_goto f_Mo_calls_212 ?_
      exact w_Mo_calls_301 hB hd  hQ _ (σ) hF
    · rw [if_neg c9] at hF
      refine r_aload_n f_Mo_calls_175 l0 ?_
      refine r_iload_n f_Mo_calls_176 l1 ?_
      refine r_aload_n f_Mo_calls_177 l0 ?_
      refine t_getc hB hx0 f_Mo_calls_178 rfl ?_
      refine r_iload f_Mo_calls_181 l4 ?_
      by_cases c10 : x4 < 0 ∨ 18 ≤ (x4).toNatClampNeg
      · rw [if_pos c10] at hF; cases hF
      rw [if_neg c10] at hF
      refine t_iald hB (cc_8_14 hx0) f_Mo_calls_183 c10 ?_
      refine r_icmp_lt f_Mo_calls_184 (fun c11 => ?_) (fun c11 => ?_)
      · rw [if_pos c11] at hF
        exact w_Mo_calls_198 hB hd (ih) hQ _ (σ) (x0) (x1) (x4) (x0) hx0 hx0 l0 l1 l4 hF
      · rw [if_neg c11] at hF
        refine r_iload_n f_Mo_calls_187 l1 ?_
        refine r_aload_n f_Mo_calls_188 l0 ?_
        refine t_getc hB hx0 f_Mo_calls_189 rfl ?_
        refine r_iload f_Mo_calls_192 l4 ?_
        by_cases c12 : x4 < 0 ∨ 18 ≤ (x4).toNatClampNeg
        · rw [if_pos c12] at hF; cases hF
        rw [if_neg c12] at hF
        refine t_iald hB (cc_8_16 hx0) f_Mo_calls_194 c12 ?_
        refine r_icmp_lt f_Mo_calls_195 (fun c13 => ?_) (fun c13 => ?_)
        · rw [if_pos c13] at hF
          refine r_iconst f_Mo_calls_202 (v := 0) (by decide) ?_
          exact w_Mo_calls_203 hB hd (ih) hQ _ (σ) (x0) (x1) (x4) (x0) (false) hx0 hx0 l0 l1 l4 hF
        · rw [if_neg c13] at hF
          exact w_Mo_calls_198 hB hd (ih) hQ _ (σ) (x0) (x1) (x4) (x0) hx0 hx0 l0 l1 l4 hF
def F_Mo_calls_146  (x0 : Nat) (x1 : Int32) (σ : SG) : Option (SG) :=
  F_Mo_calls_154  5000 (x0) (x1) (((3 : Int32) * (σ.1 (x0) 24))) σ
set_option maxHeartbeats 4000000 in
theorem w_Mo_calls_146 {b d : Nat} {sc : SC} {pre tl : List PE} {B : Nat} {Q : Option Value → List PE → Prop} {res : SG} (hB : B = b + pre.length) (hd : 2 ≤ d)   (hQ : Q none (HH pre tl SHm B res)) (lv : LV) (σ : SG) (x0 : Nat) (x1 : Int32) (hx0 : isC SHm (x0) 8 = true) (l0 : lv.lookup 0 = some (.ref (B + (x0)))) (l1 : lv.lookup 1 = some (.int (x1))) (hF : F_Mo_calls_146  x0 x1 σ = some res) : Rn b sc d 57 146 lv [] (HH pre tl SHm B σ) Q := by
  obtain ⟨e0, rfl⟩ : ∃ e, d = e + 1 := ⟨d - 1, by omega⟩
  unfold F_Mo_calls_146 at hF
  refine r_iconst f_Mo_calls_146 (v := 3) (by decide) ?_
  refine r_aload_n f_Mo_calls_147 l0 ?_
  refine t_geti hB hx0 f_Mo_calls_148 rfl ?_
  refine r_imul f_Mo_calls_151 ?_
  refine r_istore f_Mo_calls_152 ?_
  exact w_Mo_calls_154 hB hd  hQ 5000 _ (σ) (x0) (x1) (((3 : Int32) * (σ.1 (x0) 24))) hx0 (lk_put_ne l0 (by decide) (Or.inl rfl)) (lk_put_ne l1 (by decide) (Or.inl rfl)) lk_put hF
def F_Mo_calls_60  : Nat → Nat → Int32 → Int32 → SG → Option (SG)
  | 0, _, _, _, _ => none
  | n + 1, x0, x3, x4, σ =>
  if x4 < 0 then
  if (zb (σ.1 (x0) 27)) = true then
  if x3 < 0 ∨ 6 ≤ (x3).toNatClampNeg then none else
  if (σ.2.2.2.1 ((cref SHm (x0) 8)) ((x3).toNatClampNeg)) ≤ 0 then
  F_Mo_calls_301 σ
  else if x3 < 0 ∨ 6 ≤ (x3).toNatClampNeg then none else
  match F_Mo_push (x0) ((σ.2.2.2.1 ((cref SHm (x0) 8)) ((x3).toNatClampNeg))) σ with
  | none => none
  | some q19 =>
  F_Mo_calls_301 q19
  else F_Mo_calls_301 σ
  else if (((3 : Int32) * x3) + x4) < 0 ∨ 18 ≤ ((((3 : Int32) * x3) + x4)).toNatClampNeg then none else
  match F_Mo_take (x0) ((σ.2.2.2.1 ((cref SHm (x0) 10)) (((((3 : Int32) * x3) + x4)).toNatClampNeg))) σ with
  | none => none
  | some q21 =>
  F_Mo_calls_60  n (x0) (x3) ((x4 + (-1))) q21
set_option maxHeartbeats 4000000 in
theorem w_Mo_calls_60 {b d : Nat} {sc : SC} {pre tl : List PE} {B : Nat} {Q : Option Value → List PE → Prop} {res : SG} (hB : B = b + pre.length) (hd : 2 ≤ d)   (hQ : Q none (HH pre tl SHm B res)) : ∀ (n : Nat) (lv : LV) (σ : SG) (x0 : Nat) (x3 : Int32) (x4 : Int32), isC SHm (x0) 8 = true → lv.lookup 0 = some (.ref (B + (x0))) → lv.lookup 3 = some (.int (x3)) → lv.lookup 4 = some (.int (x4)) → F_Mo_calls_60  n x0 x3 x4 σ = some res → Rn b sc d 57 60 lv [] (HH pre tl SHm B σ) Q := by
  obtain ⟨e0, rfl⟩ : ∃ e, d = e + 1 := ⟨d - 1, by omega⟩
  intro n
  induction n with
  | zero => intro lv σ x0 x3 x4 hx0 l0 l3 l4 hF; cases hF
  | succ n ih =>
    intro lv σ x0 x3 x4 hx0 l0 l3 l4 hF
    unfold F_Mo_calls_60 at hF
    refine r_iload f_Mo_calls_60 l4 ?_
    refine r_if_lt f_Mo_calls_62 (fun c14 => ?_) (fun c14 => ?_)
    · rw [if_pos c14] at hF
      refine r_aload_n f_Mo_calls_86 l0 ?_
      refine t_getz hB hx0 f_Mo_calls_87 rfl ?_
      refine r_if_eq f_Mo_calls_90 (fun c15 => ?_) (fun c15 => ?_)
      · rw [if_neg (bz_nt c15)] at hF
        exact w_Mo_calls_301 hB hd  hQ _ (σ) hF
      · rw [if_pos (bz_t c15)] at hF
        refine r_aload_n f_Mo_calls_93 l0 ?_
        refine t_getc hB hx0 f_Mo_calls_94 rfl ?_
        refine r_iload_n f_Mo_calls_97 l3 ?_
        by_cases c16 : x3 < 0 ∨ 6 ≤ (x3).toNatClampNeg
        · rw [if_pos c16] at hF; cases hF
        rw [if_neg c16] at hF
        refine t_iald hB (cc_8_8 hx0) f_Mo_calls_98 c16 ?_
        refine r_if_le f_Mo_calls_99 (fun c17 => ?_) (fun c17 => ?_)
        · rw [if_pos c17] at hF
          exact w_Mo_calls_301 hB hd  hQ _ (σ) hF
        · rw [if_neg c17] at hF
          refine r_aload_n f_Mo_calls_102 l0 ?_
          refine r_aload_n f_Mo_calls_103 l0 ?_
          refine t_getc hB hx0 f_Mo_calls_104 rfl ?_
          refine r_iload_n f_Mo_calls_107 l3 ?_
          by_cases c18 : x3 < 0 ∨ 6 ≤ (x3).toNatClampNeg
          · rw [if_pos c18] at hF; cases hF
          rw [if_neg c18] at hF
          refine t_iald hB (cc_8_8 hx0) f_Mo_calls_108 c18 ?_
          cases hq19 : F_Mo_push (x0) ((σ.2.2.2.1 ((cref SHm (x0) 8)) ((x3).toNatClampNeg))) σ with
          | none => simp only [hq19] at hF; cases hF
          | some q19 =>
            simp only [hq19] at hF
            refine t_V1v hB hx0 rfl rfl f_Mo_calls_109 (by decide) (Nat.le_of_ble_eq_true rfl) (Nat.le_of_ble_eq_true rfl) (w_Mo_push hB  (x0) ((σ.2.2.2.1 ((cref SHm (x0) 8)) ((x3).toNatClampNeg))) hx0 hq19 ⟨rfl, ?_⟩)
            refine r_goto f_Mo_calls_112 ?_
            exact w_Mo_calls_301 hB hd  hQ _ (q19) hF
    · rw [if_neg c14] at hF
      refine r_aload_n f_Mo_calls_65 l0 ?_
      refine r_aload_n f_Mo_calls_66 l0 ?_
      refine t_getc hB hx0 f_Mo_calls_67 rfl ?_
      refine r_iconst f_Mo_calls_70 (v := 3) (by decide) ?_
      refine r_iload_n f_Mo_calls_71 l3 ?_
      refine r_imul f_Mo_calls_72 ?_
      refine r_iload f_Mo_calls_73 l4 ?_
      refine r_iadd f_Mo_calls_75 ?_
      by_cases c20 : (((3 : Int32) * x3) + x4) < 0 ∨ 18 ≤ ((((3 : Int32) * x3) + x4)).toNatClampNeg
      · rw [if_pos c20] at hF; cases hF
      rw [if_neg c20] at hF
      refine t_iald hB (cc_8_10 hx0) f_Mo_calls_76 c20 ?_
      cases hq21 : F_Mo_take (x0) ((σ.2.2.2.1 ((cref SHm (x0) 10)) (((((3 : Int32) * x3) + x4)).toNatClampNeg))) σ with
      | none => simp only [hq21] at hF; cases hF
      | some q21 =>
        simp only [hq21] at hF
        refine t_V1v hB hx0 rfl rfl f_Mo_calls_77 (by decide) (Nat.le_of_ble_eq_true rfl) (Nat.le_of_ble_eq_true rfl) (w_Mo_take hB (by omega) (x0) ((σ.2.2.2.1 ((cref SHm (x0) 10)) (((((3 : Int32) * x3) + x4)).toNatClampNeg))) hx0 hq21 ⟨rfl, ?_⟩)
        refine r_iinc f_Mo_calls_80 l4 (w := x4 + (-1)) rfl ?_
        refine r_goto f_Mo_calls_83 ?_
        exact ih _ (q21) (x0) (x3) ((x4 + (-1))) hx0 (lk_put_ne l0 (by decide) (Or.inl rfl)) (lk_put_ne l3 (by decide) (Or.inl rfl)) lk_put hF
def F_Mo_calls_58  (x0 : Nat) (x3 : Int32) (y0 : Int32) (σ : SG) : Option (SG) :=
  F_Mo_calls_60  5000 (x0) (x3) (y0) σ
set_option maxHeartbeats 4000000 in
theorem w_Mo_calls_58 {b d : Nat} {sc : SC} {pre tl : List PE} {B : Nat} {Q : Option Value → List PE → Prop} {res : SG} (hB : B = b + pre.length) (hd : 2 ≤ d)   (hQ : Q none (HH pre tl SHm B res)) (lv : LV) (σ : SG) (x0 : Nat) (x3 : Int32) (y0 : Int32) (hx0 : isC SHm (x0) 8 = true) (l0 : lv.lookup 0 = some (.ref (B + (x0)))) (l3 : lv.lookup 3 = some (.int (x3))) (hF : F_Mo_calls_58  x0 x3 y0 σ = some res) : Rn b sc d 57 58 lv [.int (y0)] (HH pre tl SHm B σ) Q := by
  obtain ⟨e0, rfl⟩ : ∃ e, d = e + 1 := ⟨d - 1, by omega⟩
  unfold F_Mo_calls_58 at hF
  refine r_istore f_Mo_calls_58 ?_
  exact w_Mo_calls_60 hB hd  hQ 5000 _ (σ) (x0) (x3) (y0) hx0 (lk_put_ne l0 (by decide) (Or.inl rfl)) (lk_put_ne l3 (by decide) (Or.inl rfl)) lk_put hF
def F_Mo_calls_36  (x0 : Nat) (x3 : Int32) (y0 : Nat) (y1 : Bool) (σ : SG) : Option (SG) :=
  match F_Mo_need (y0) (y1) σ with
  | none => none
  | some q22 =>
  if (zb (q22.1 (x0) 27)) = true then
  if x3 < 0 ∨ 6 ≤ (x3).toNatClampNeg then none else
  F_Mo_calls_58 (x0) (x3) (((q22.2.2.2.1 ((cref SHm (x0) 9)) ((x3).toNatClampNeg)) - (1 : Int32))) q22
  else F_Mo_calls_58 (x0) (x3) (((-1) : Int32)) q22
set_option maxHeartbeats 4000000 in
theorem w_Mo_calls_36 {b d : Nat} {sc : SC} {pre tl : List PE} {B : Nat} {Q : Option Value → List PE → Prop} {res : SG} (hB : B = b + pre.length) (hd : 2 ≤ d)   (hQ : Q none (HH pre tl SHm B res)) (lv : LV) (σ : SG) (x0 : Nat) (x3 : Int32) (y0 : Nat) (y1 : Bool) (hx0 : isC SHm (x0) 8 = true) (hy0 : isC SHm (y0) 8 = true) (l0 : lv.lookup 0 = some (.ref (B + (x0)))) (l3 : lv.lookup 3 = some (.int (x3))) (hF : F_Mo_calls_36  x0 x3 y0 y1 σ = some res) : Rn b sc d 57 36 lv [.int (bz (y1)), .ref (B + (y0))] (HH pre tl SHm B σ) Q := by
  obtain ⟨e0, rfl⟩ : ∃ e, d = e + 1 := ⟨d - 1, by omega⟩
  unfold F_Mo_calls_36 at hF
  cases hq22 : F_Mo_need (y0) (y1) σ with
  | none => simp only [hq22] at hF; cases hF
  | some q22 =>
    simp only [hq22] at hF
    refine t_V1v hB hy0 rfl rfl f_Mo_calls_36 (by decide) (Nat.le_of_ble_eq_true rfl) (Nat.le_of_ble_eq_true rfl) (w_Mo_need hB  (y0) (y1) hy0 hq22 ⟨rfl, ?_⟩)
    refine r_aload_n f_Mo_calls_39 l0 ?_
    refine t_getz hB hx0 f_Mo_calls_40 rfl ?_
    refine r_if_eq f_Mo_calls_43 (fun c23 => ?_) (fun c23 => ?_)
    · rw [if_neg (bz_nt c23)] at hF
      refine r_iconst f_Mo_calls_57 (v := (-1)) (by decide) ?_
      exact w_Mo_calls_58 hB hd  hQ _ (q22) (x0) (x3) (((-1) : Int32)) hx0 l0 l3 hF
    · rw [if_pos (bz_t c23)] at hF
      refine r_aload_n f_Mo_calls_46 l0 ?_
      refine t_getc hB hx0 f_Mo_calls_47 rfl ?_
      refine r_iload_n f_Mo_calls_50 l3 ?_
      by_cases c24 : x3 < 0 ∨ 6 ≤ (x3).toNatClampNeg
      · rw [if_pos c24] at hF; cases hF
      rw [if_neg c24] at hF
      refine t_iald hB (cc_8_9 hx0) f_Mo_calls_51 c24 ?_
      refine r_iconst f_Mo_calls_52 (v := 1) (by decide) ?_
      refine r_isub f_Mo_calls_53 ?_
      refine r_goto f_Mo_calls_54 ?_
      exact w_Mo_calls_58 hB hd  hQ _ (q22) (x0) (x3) (((q22.2.2.2.1 ((cref SHm (x0) 9)) ((x3).toNatClampNeg)) - (1 : Int32))) hx0 l0 l3 hF
def F_Mo_calls_15  (x0 : Nat) (x1 : Int32) (x2 : Int32) (y0 : Int32) (σ : SG) : Option (SG) :=
  if x2 = (33 : Int32) then
  if (σ.1 (x0) 7) ≤ y0 then
  F_Mo_calls_36 (x0) (y0) (x0) (false) σ
  else F_Mo_calls_36 (x0) (y0) (x0) (true) σ
  else if x2 = (34 : Int32) then
  if (σ.1 (x0) 24) < 0 ∨ 6 ≤ ((σ.1 (x0) 24)).toNatClampNeg then none else
  if (σ.2.2.2.1 ((cref SHm (x0) 8)) (((σ.1 (x0) 24)).toNatClampNeg)) ≤ 0 then
  F_Mo_calls_146 (x0) (x1) σ
  else if (σ.1 (x0) 24) < 0 ∨ 6 ≤ ((σ.1 (x0) 24)).toNatClampNeg then none else
  match F_Mo_take (x0) ((σ.2.2.2.1 ((cref SHm (x0) 8)) (((σ.1 (x0) 24)).toNatClampNeg))) σ with
  | none => none
  | some q37 =>
  F_Mo_calls_146 (x0) (x1) q37
  else if x2 = (35 : Int32) then
  match F_Mo_take (x0) ((1 : Int32)) σ with
  | none => none
  | some q33 =>
  F_Mo_calls_301 q33
  else if x2 = (37 : Int32) then
  match F_Mo_innermost (x0) (x1) σ with
  | none => none
  | some q29 =>
  if (q29.2.1 (x0) 25) = 0 then
  if q29.1 < 0 then
  F_Mo_calls_297 (x0) q29.2
  else if 0 ≤ q29.1 then
  F_Mo_calls_270 (x0) (x1) (q29.1) (x0) ((cref SHm (x0) 17)) (q29.1) q29.2
  else F_Mo_calls_270 (x0) (x1) (q29.1) (x0) ((cref SHm (x0) 17)) ((0 : Int32)) q29.2
  else F_Mo_calls_297 (x0) q29.2
  else F_Mo_calls_301 σ
set_option maxHeartbeats 4000000 in
theorem w_Mo_calls_15 {b d : Nat} {sc : SC} {pre tl : List PE} {B : Nat} {Q : Option Value → List PE → Prop} {res : SG} (hB : B = b + pre.length) (hd : 2 ≤ d)   (hQ : Q none (HH pre tl SHm B res)) (lv : LV) (σ : SG) (x0 : Nat) (x1 : Int32) (x2 : Int32) (y0 : Int32) (hx0 : isC SHm (x0) 8 = true) (l0 : lv.lookup 0 = some (.ref (B + (x0)))) (l1 : lv.lookup 1 = some (.int (x1))) (l2 : lv.lookup 2 = some (.int (x2))) (hF : F_Mo_calls_15  x0 x1 x2 y0 σ = some res) : Rn b sc d 57 15 lv [.int (y0)] (HH pre tl SHm B σ) Q := by
  obtain ⟨e0, rfl⟩ : ∃ e, d = e + 1 := ⟨d - 1, by omega⟩
  unfold F_Mo_calls_15 at hF
  refine r_istore_n f_Mo_calls_15 ?_
  refine r_iload_n f_Mo_calls_16 (lk_put_ne l2 (by decide) (Or.inl rfl)) ?_
  refine r_bipush f_Mo_calls_17 (v := 33) (by decide) ?_
  refine r_icmp_ne f_Mo_calls_19 (fun c25 => ?_) (fun c25 => ?_)
  · rw [if_neg c25] at hF
    refine r_iload_n f_Mo_calls_115 (lk_put_ne l2 (by decide) (Or.inl rfl)) ?_
    refine r_bipush f_Mo_calls_116 (v := 34) (by decide) ?_
    refine r_icmp_ne f_Mo_calls_118 (fun c26 => ?_) (fun c26 => ?_)
    · rw [if_neg c26] at hF
      refine r_iload_n f_Mo_calls_215 (lk_put_ne l2 (by decide) (Or.inl rfl)) ?_
      refine r_bipush f_Mo_calls_216 (v := 35) (by decide) ?_
      refine r_icmp_ne f_Mo_calls_218 (fun c27 => ?_) (fun c27 => ?_)
      · rw [if_neg c27] at hF
        refine r_iload_n f_Mo_calls_229 (lk_put_ne l2 (by decide) (Or.inl rfl)) ?_
        refine r_bipush f_Mo_calls_230 (v := 37) (by decide) ?_
        refine r_icmp_ne f_Mo_calls_232 (fun c28 => ?_) (fun c28 => ?_)
        · rw [if_neg c28] at hF
          exact w_Mo_calls_301 hB hd  hQ _ (σ) hF
        · rw [if_pos (Decidable.not_not.mp c28)] at hF
          refine r_aload_n f_Mo_calls_235 (lk_put_ne l0 (by decide) (Or.inl rfl)) ?_
          refine r_iload_n f_Mo_calls_236 (lk_put_ne l1 (by decide) (Or.inl rfl)) ?_
          cases hq29 : F_Mo_innermost (x0) (x1) σ with
          | none => simp only [hq29] at hF; cases hF
          | some q29 =>
            simp only [hq29] at hF
            refine t_V1i hB hx0 rfl rfl f_Mo_calls_237 (by decide) (Nat.le_of_ble_eq_true rfl) (Nat.le_of_ble_eq_true rfl) (w_Mo_innermost hB  (x0) (x1) hx0 hq29 ⟨_, rfl, ?_⟩)
            refine r_istore f_Mo_calls_240 ?_
            refine r_aload_n f_Mo_calls_242 (lk_put_ne (lk_put_ne l0 (by decide) (Or.inl rfl)) (by decide) (Or.inl rfl)) ?_
            refine r_aload_n f_Mo_calls_243 (lk_put_ne (lk_put_ne l0 (by decide) (Or.inl rfl)) (by decide) (Or.inl rfl)) ?_
            refine t_geti hB hx0 f_Mo_calls_244 rfl ?_
            refine r_if_ne f_Mo_calls_247 (fun c30 => ?_) (fun c30 => ?_)
            · rw [if_neg c30] at hF
              exact w_Mo_calls_297 hB hd  hQ _ (q29.2) (x0) hx0 hF
            · rw [if_pos (Decidable.not_not.mp c30)] at hF
              refine r_iload f_Mo_calls_250 lk_put ?_
              refine r_if_lt f_Mo_calls_252 (fun c31 => ?_) (fun c31 => ?_)
              · rw [if_pos c31] at hF
                exact w_Mo_calls_297 hB hd  hQ _ (q29.2) (x0) hx0 hF
              · rw [if_neg c31] at hF
                refine r_aload_n f_Mo_calls_255 (lk_put_ne (lk_put_ne l0 (by decide) (Or.inl rfl)) (by decide) (Or.inl rfl)) ?_
                refine t_getc hB hx0 f_Mo_calls_256 rfl ?_
                refine r_iload f_Mo_calls_259 lk_put ?_
                refine r_if_ge f_Mo_calls_261 (fun c32 => ?_) (fun c32 => ?_)
                · rw [if_pos c32] at hF
                  refine r_iload f_Mo_calls_268 lk_put ?_
                  exact w_Mo_calls_270 hB hd  hQ _ (q29.2) (x0) (x1) (q29.1) (x0) ((cref SHm (x0) 17)) (q29.1) hx0 hx0 (cc_8_17 hx0) (lk_put_ne (lk_put_ne l0 (by decide) (Or.inl rfl)) (by decide) (Or.inl rfl)) (lk_put_ne (lk_put_ne l1 (by decide) (Or.inl rfl)) (by decide) (Or.inl rfl)) lk_put hF
                · rw [if_neg c32] at hF
                  refine r_iconst f_Mo_calls_264 (v := 0) (by decide) ?_
                  refine r_goto f_Mo_calls_265 ?_
                  exact w_Mo_calls_270 hB hd  hQ _ (q29.2) (x0) (x1) (q29.1) (x0) ((cref SHm (x0) 17)) ((0 : Int32)) hx0 hx0 (cc_8_17 hx0) (lk_put_ne (lk_put_ne l0 (by decide) (Or.inl rfl)) (by decide) (Or.inl rfl)) (lk_put_ne (lk_put_ne l1 (by decide) (Or.inl rfl)) (by decide) (Or.inl rfl)) lk_put hF
      · rw [if_pos (Decidable.not_not.mp c27)] at hF
        refine r_aload_n f_Mo_calls_221 (lk_put_ne l0 (by decide) (Or.inl rfl)) ?_
        refine r_iconst f_Mo_calls_222 (v := 1) (by decide) ?_
        cases hq33 : F_Mo_take (x0) ((1 : Int32)) σ with
        | none => simp only [hq33] at hF; cases hF
        | some q33 =>
          simp only [hq33] at hF
          refine t_V1v hB hx0 rfl rfl f_Mo_calls_223 (by decide) (Nat.le_of_ble_eq_true rfl) (Nat.le_of_ble_eq_true rfl) (w_Mo_take hB (by omega) (x0) ((1 : Int32)) hx0 hq33 ⟨rfl, ?_⟩)
          refine r_goto f_Mo_calls_226 ?_
          exact w_Mo_calls_301 hB hd  hQ _ (q33) hF
    · rw [if_pos (Decidable.not_not.mp c26)] at hF
      refine r_aload_n f_Mo_calls_121 (lk_put_ne l0 (by decide) (Or.inl rfl)) ?_
      refine t_getc hB hx0 f_Mo_calls_122 rfl ?_
      refine r_aload_n f_Mo_calls_125 (lk_put_ne l0 (by decide) (Or.inl rfl)) ?_
      refine t_geti hB hx0 f_Mo_calls_126 rfl ?_
      by_cases c34 : (σ.1 (x0) 24) < 0 ∨ 6 ≤ ((σ.1 (x0) 24)).toNatClampNeg
      · rw [if_pos c34] at hF; cases hF
      rw [if_neg c34] at hF
      refine t_iald hB (cc_8_8 hx0) f_Mo_calls_129 c34 ?_
      refine r_if_le f_Mo_calls_130 (fun c35 => ?_) (fun c35 => ?_)
      · rw [if_pos c35] at hF
        exact w_Mo_calls_146 hB hd  hQ _ (σ) (x0) (x1) hx0 (lk_put_ne l0 (by decide) (Or.inl rfl)) (lk_put_ne l1 (by decide) (Or.inl rfl)) hF
      · rw [if_neg c35] at hF
        refine r_aload_n f_Mo_calls_133 (lk_put_ne l0 (by decide) (Or.inl rfl)) ?_
        refine r_aload_n f_Mo_calls_134 (lk_put_ne l0 (by decide) (Or.inl rfl)) ?_
        refine t_getc hB hx0 f_Mo_calls_135 rfl ?_
        refine r_aload_n f_Mo_calls_138 (lk_put_ne l0 (by decide) (Or.inl rfl)) ?_
        refine t_geti hB hx0 f_Mo_calls_139 rfl ?_
        by_cases c36 : (σ.1 (x0) 24) < 0 ∨ 6 ≤ ((σ.1 (x0) 24)).toNatClampNeg
        · rw [if_pos c36] at hF; cases hF
        rw [if_neg c36] at hF
        refine t_iald hB (cc_8_8 hx0) f_Mo_calls_142 c36 ?_
        cases hq37 : F_Mo_take (x0) ((σ.2.2.2.1 ((cref SHm (x0) 8)) (((σ.1 (x0) 24)).toNatClampNeg))) σ with
        | none => simp only [hq37] at hF; cases hF
        | some q37 =>
          simp only [hq37] at hF
          refine t_V1v hB hx0 rfl rfl f_Mo_calls_143 (by decide) (Nat.le_of_ble_eq_true rfl) (Nat.le_of_ble_eq_true rfl) (w_Mo_take hB (by omega) (x0) ((σ.2.2.2.1 ((cref SHm (x0) 8)) (((σ.1 (x0) 24)).toNatClampNeg))) hx0 hq37 ⟨rfl, ?_⟩)
          exact w_Mo_calls_146 hB hd  hQ _ (q37) (x0) (x1) hx0 (lk_put_ne l0 (by decide) (Or.inl rfl)) (lk_put_ne l1 (by decide) (Or.inl rfl)) hF
  · rw [if_pos (Decidable.not_not.mp c25)] at hF
    refine r_aload_n f_Mo_calls_22 (lk_put_ne l0 (by decide) (Or.inl rfl)) ?_
    refine r_iload_n f_Mo_calls_23 lk_put ?_
    refine r_aload_n f_Mo_calls_24 (lk_put_ne l0 (by decide) (Or.inl rfl)) ?_
    refine t_geti hB hx0 f_Mo_calls_25 rfl ?_
    refine r_icmp_ge f_Mo_calls_28 (fun c38 => ?_) (fun c38 => ?_)
    · rw [if_pos c38] at hF
      refine r_iconst f_Mo_calls_35 (v := 0) (by decide) ?_
      exact w_Mo_calls_36 hB hd  hQ _ (σ) (x0) (y0) (x0) (false) hx0 hx0 (lk_put_ne l0 (by decide) (Or.inl rfl)) lk_put hF
    · rw [if_neg c38] at hF
      refine r_iconst f_Mo_calls_31 (v := 1) (by decide) ?_
      refine r_goto f_Mo_calls_32 ?_
      exact w_Mo_calls_36 hB hd  hQ _ (σ) (x0) (y0) (x0) (true) hx0 hx0 (lk_put_ne l0 (by decide) (Or.inl rfl)) lk_put hF
def F_Mo_calls (a0 : Nat) (a1 : Int32) (a2 : Int32) (σ : SG) : Option (SG) :=
  if a2 = (33 : Int32) then
  match F_Mo_operand (a0) (a1) σ with
  | none => none
  | some q40 =>
  F_Mo_calls_15 (a0) (a1) (a2) (q40.1) q40.2
  else F_Mo_calls_15 (a0) (a1) (a2) ((0 : Int32)) σ
set_option maxHeartbeats 4000000 in
theorem w_Mo_calls {b d : Nat} {pre tl : List PE} {B : Nat} {Q : Option Value → List PE → Prop} {res : SG} (hB : B = b + pre.length) (hd : 2 ≤ d)  {σ : SG} (a0 : Nat) (a1 : Int32) (a2 : Int32) (ha0 : isC SHm (a0) 8 = true) (hF : F_Mo_calls a0 a1 a2 σ = some res) (hQ : Q none (HH pre tl SHm B res)) : Cl b d 57 [.ref (B + (a0)), .int (a1), .int (a2)] (HH pre tl SHm B σ) Q := by
  obtain ⟨e0, rfl⟩ : ∃ e, d = e + 1 := ⟨d - 1, by omega⟩
  unfold Cl
  unfold F_Mo_calls at hF
  refine r_iload_n f_Mo_calls_0 rfl ?_
  refine r_bipush f_Mo_calls_1 (v := 33) (by decide) ?_
  refine r_icmp_ne f_Mo_calls_3 (fun c39 => ?_) (fun c39 => ?_)
  · rw [if_neg c39] at hF
    refine r_iconst f_Mo_calls_14 (v := 0) (by decide) ?_
    exact w_Mo_calls_15 hB hd  hQ _ (σ) (a0) (a1) (a2) ((0 : Int32)) ha0 rfl rfl rfl hF
  · rw [if_pos (Decidable.not_not.mp c39)] at hF
    refine r_aload_n f_Mo_calls_6 rfl ?_
    refine r_iload_n f_Mo_calls_7 rfl ?_
    cases hq40 : F_Mo_operand (a0) (a1) σ with
    | none => simp only [hq40] at hF; cases hF
    | some q40 =>
      simp only [hq40] at hF
      refine t_V1i hB ha0 rfl rfl f_Mo_calls_8 (by decide) (Nat.le_of_ble_eq_true rfl) (Nat.le_of_ble_eq_true rfl) (w_Mo_operand hB  (a0) (a1) ha0 hq40 ⟨_, rfl, ?_⟩)
      refine r_goto f_Mo_calls_11 ?_
      exact w_Mo_calls_15 hB hd  hQ _ (q40.2) (a0) (a1) (a2) (q40.1) ha0 rfl rfl rfl hF
theorem f_Mo_signed_0 : fetch 61 0 = some (.iload_n 0, 1, 0, 0, 0) := rfl
theorem f_Mo_signed_1 : fetch 61 1 = some (.bipush 127, 2, 0, 0, 0) := rfl
theorem f_Mo_signed_3 : fetch 61 3 = some (.if_icmp .le 11, 3, 14, 0, 0) := rfl
theorem f_Mo_signed_6 : fetch 61 6 = some (.iload_n 0, 1, 0, 0, 0) := rfl
theorem f_Mo_signed_7 : fetch 61 7 = some (.sipush 256, 3, 0, 0, 0) := rfl
theorem f_Mo_signed_10 : fetch 61 10 = some (.isub, 1, 0, 0, 0) := rfl
theorem f_Mo_signed_11 : fetch 61 11 = some (.goto 4, 3, 15, 0, 0) := rfl
theorem f_Mo_signed_14 : fetch 61 14 = some (.iload_n 0, 1, 0, 0, 0) := rfl
theorem f_Mo_signed_15 : fetch 61 15 = some (.ireturn, 1, 0, 0, 0) := rfl
def F_Mo_signed_15  (y0 : Int32) (σ : SG) : Option (Int32 × SG) :=
  some (y0, σ)
set_option maxHeartbeats 4000000 in
theorem w_Mo_signed_15 {b d : Nat} {sc : SC} {pre tl : List PE} {B : Nat} {Q : Option Value → List PE → Prop} {res : Int32 × SG} (hB : B = b + pre.length)   (hQ : Q (some (.int res.1)) (HH pre tl SHm B res.2)) (lv : LV) (σ : SG) (y0 : Int32)  (hF : F_Mo_signed_15  y0 σ = some res) : Rn b sc d 61 15 lv [.int (y0)] (HH pre tl SHm B σ) Q := by
  unfold F_Mo_signed_15 at hF
  cases hF
  exact r_ireturn f_Mo_signed_15 hQ
def F_Mo_signed (a0 : Int32) (σ : SG) : Option (Int32 × SG) :=
  if a0 ≤ (127 : Int32) then
  F_Mo_signed_15 (a0) σ
  else F_Mo_signed_15 ((a0 - (256 : Int32))) σ
set_option maxHeartbeats 4000000 in
theorem w_Mo_signed {b d : Nat} {pre tl : List PE} {B : Nat} {Q : Option Value → List PE → Prop} {res : Int32 × SG} (hB : B = b + pre.length)  {σ : SG} (a0 : Int32)  (hF : F_Mo_signed a0 σ = some res) (hQ : Q (some (.int res.1)) (HH pre tl SHm B res.2)) : Cl b d 61 [.int (a0)] (HH pre tl SHm B σ) Q := by
  unfold Cl
  unfold F_Mo_signed at hF
  refine r_iload_n f_Mo_signed_0 rfl ?_
  refine r_bipush f_Mo_signed_1 (v := 127) (by decide) ?_
  refine r_icmp_le f_Mo_signed_3 (fun c1 => ?_) (fun c1 => ?_)
  · rw [if_pos c1] at hF
    refine r_iload_n f_Mo_signed_14 rfl ?_
    exact w_Mo_signed_15 hB   hQ _ (σ) (a0) hF
  · rw [if_neg c1] at hF
    refine r_iload_n f_Mo_signed_6 rfl ?_
    refine r_sipush f_Mo_signed_7 (v := 256) (by decide) ?_
    refine r_isub f_Mo_signed_10 ?_
    refine r_goto f_Mo_signed_11 ?_
    exact w_Mo_signed_15 hB   hQ _ (σ) ((a0 - (256 : Int32))) hF
theorem f_Mo_target_0 : fetch 60 0 = some (.iload_n 1, 1, 0, 0, 0) := rfl
theorem f_Mo_target_1 : fetch 60 1 = some (.iconst 2, 1, 0, 0, 0) := rfl
theorem f_Mo_target_2 : fetch 60 2 = some (.iadd, 1, 0, 0, 0) := rfl
theorem f_Mo_target_3 : fetch 60 3 = some (.aload_n 0, 1, 0, 0, 0) := rfl
theorem f_Mo_target_4 : fetch 60 4 = some (.iload_n 1, 1, 0, 0, 0) := rfl
theorem f_Mo_target_5 : fetch 60 5 = some (.invokevirtual 157, 3, 47, 1, 61) := rfl
theorem f_Mo_target_8 : fetch 60 8 = some (.invokestatic 161, 3, 61, 1, 72) := rfl
theorem f_Mo_target_11 : fetch 60 11 = some (.iadd, 1, 0, 0, 0) := rfl
theorem f_Mo_target_12 : fetch 60 12 = some (.ireturn, 1, 0, 0, 0) := rfl
def F_Mo_target (a0 : Nat) (a1 : Int32) (σ : SG) : Option (Int32 × SG) :=
  match F_Mo_operand (a0) (a1) σ with
  | none => none
  | some q1 =>
  match F_Mo_signed (q1.1) q1.2 with
  | none => none
  | some q2 =>
  some (((a1 + (2 : Int32)) + q2.1), q2.2)
set_option maxHeartbeats 4000000 in
theorem w_Mo_target {b d : Nat} {pre tl : List PE} {B : Nat} {Q : Option Value → List PE → Prop} {res : Int32 × SG} (hB : B = b + pre.length) (hd : 1 ≤ d)  {σ : SG} (a0 : Nat) (a1 : Int32) (ha0 : isC SHm (a0) 8 = true) (hF : F_Mo_target a0 a1 σ = some res) (hQ : Q (some (.int res.1)) (HH pre tl SHm B res.2)) : Cl b d 60 [.ref (B + (a0)), .int (a1)] (HH pre tl SHm B σ) Q := by
  obtain ⟨e0, rfl⟩ : ∃ e, d = e + 1 := ⟨d - 1, by omega⟩
  unfold Cl
  unfold F_Mo_target at hF
  refine r_iload_n f_Mo_target_0 rfl ?_
  refine r_iconst f_Mo_target_1 (v := 2) (by decide) ?_
  refine r_iadd f_Mo_target_2 ?_
  refine r_aload_n f_Mo_target_3 rfl ?_
  refine r_iload_n f_Mo_target_4 rfl ?_
  cases hq1 : F_Mo_operand (a0) (a1) σ with
  | none => simp only [hq1] at hF; cases hF
  | some q1 =>
    simp only [hq1] at hF
    refine t_V1i hB ha0 rfl rfl f_Mo_target_5 (by decide) (Nat.le_of_ble_eq_true rfl) (Nat.le_of_ble_eq_true rfl) (w_Mo_operand hB  (a0) (a1) ha0 hq1 ⟨_, rfl, ?_⟩)
    cases hq2 : F_Mo_signed (q1.1) q1.2 with
    | none => simp only [hq2] at hF; cases hF
    | some q2 =>
      simp only [hq2] at hF
      refine t_S1i f_Mo_target_8 (by decide) (Nat.le_of_ble_eq_true rfl) (Nat.le_of_ble_eq_true rfl) (w_Mo_signed hB  (q1.1)  hq2 ⟨_, rfl, ?_⟩)
      refine r_iadd f_Mo_target_11 ?_
      cases hF
      exact r_ireturn f_Mo_target_12 hQ
theorem f_Mo_leaves_0 : fetch 62 0 = some (.iconst 3, 1, 0, 0, 0) := rfl
theorem f_Mo_leaves_1 : fetch 62 1 = some (.aload_n 0, 1, 0, 0, 0) := rfl
theorem f_Mo_leaves_2 : fetch 62 2 = some (.getfield 154, 3, 8, 24, 65) := rfl
theorem f_Mo_leaves_5 : fetch 62 5 = some (.imul, 1, 0, 0, 0) := rfl
theorem f_Mo_leaves_6 : fetch 62 6 = some (.istore_n 3, 1, 0, 0, 0) := rfl
theorem f_Mo_leaves_7 : fetch 62 7 = some (.iload_n 3, 1, 0, 0, 0) := rfl
theorem f_Mo_leaves_8 : fetch 62 8 = some (.iconst 3, 1, 0, 0, 0) := rfl
theorem f_Mo_leaves_9 : fetch 62 9 = some (.aload_n 0, 1, 0, 0, 0) := rfl
theorem f_Mo_leaves_10 : fetch 62 10 = some (.getfield 154, 3, 8, 24, 65) := rfl
theorem f_Mo_leaves_13 : fetch 62 13 = some (.imul, 1, 0, 0, 0) := rfl
theorem f_Mo_leaves_14 : fetch 62 14 = some (.aload_n 0, 1, 0, 0, 0) := rfl
theorem f_Mo_leaves_15 : fetch 62 15 = some (.getfield 34, 3, 8, 13, 35) := rfl
theorem f_Mo_leaves_18 : fetch 62 18 = some (.aload_n 0, 1, 0, 0, 0) := rfl
theorem f_Mo_leaves_19 : fetch 62 19 = some (.getfield 154, 3, 8, 24, 65) := rfl
theorem f_Mo_leaves_22 : fetch 62 22 = some (.iaload, 1, 0, 0, 0) := rfl
theorem f_Mo_leaves_23 : fetch 62 23 = some (.iadd, 1, 0, 0, 0) := rfl
theorem f_Mo_leaves_24 : fetch 62 24 = some (.if_icmp .ge 100, 3, 124, 0, 0) := rfl
theorem f_Mo_leaves_27 : fetch 62 27 = some (.aload_n 0, 1, 0, 0, 0) := rfl
theorem f_Mo_leaves_28 : fetch 62 28 = some (.iload_n 3, 1, 0, 0, 0) := rfl
theorem f_Mo_leaves_29 : fetch 62 29 = some (.iload_n 2, 1, 0, 0, 0) := rfl
theorem f_Mo_leaves_30 : fetch 62 30 = some (.invokevirtual 203, 3, 44, 2, 53) := rfl
theorem f_Mo_leaves_33 : fetch 62 33 = some (.ifCond .eq 12, 3, 45, 0, 0) := rfl
theorem f_Mo_leaves_36 : fetch 62 36 = some (.aload_n 0, 1, 0, 0, 0) := rfl
theorem f_Mo_leaves_37 : fetch 62 37 = some (.iload_n 3, 1, 0, 0, 0) := rfl
theorem f_Mo_leaves_38 : fetch 62 38 = some (.iload_n 1, 1, 0, 0, 0) := rfl
theorem f_Mo_leaves_39 : fetch 62 39 = some (.invokevirtual 203, 3, 44, 2, 53) := rfl
theorem f_Mo_leaves_42 : fetch 62 42 = some (.ifCond .eq 21, 3, 63, 0, 0) := rfl
theorem f_Mo_leaves_45 : fetch 62 45 = some (.aload_n 0, 1, 0, 0, 0) := rfl
theorem f_Mo_leaves_46 : fetch 62 46 = some (.iload_n 3, 1, 0, 0, 0) := rfl
theorem f_Mo_leaves_47 : fetch 62 47 = some (.iload_n 2, 1, 0, 0, 0) := rfl
theorem f_Mo_leaves_48 : fetch 62 48 = some (.invokevirtual 226, 3, 59, 2, 71) := rfl
theorem f_Mo_leaves_51 : fetch 62 51 = some (.ifCond .eq 16, 3, 67, 0, 0) := rfl
theorem f_Mo_leaves_54 : fetch 62 54 = some (.aload_n 0, 1, 0, 0, 0) := rfl
theorem f_Mo_leaves_55 : fetch 62 55 = some (.iload_n 3, 1, 0, 0, 0) := rfl
theorem f_Mo_leaves_56 : fetch 62 56 = some (.iload_n 1, 1, 0, 0, 0) := rfl
theorem f_Mo_leaves_57 : fetch 62 57 = some (.invokevirtual 226, 3, 59, 2, 71) := rfl
theorem f_Mo_leaves_60 : fetch 62 60 = some (.ifCond .ne 7, 3, 67, 0, 0) := rfl
theorem f_Mo_leaves_63 : fetch 62 63 = some (.iconst 1, 1, 0, 0, 0) := rfl
theorem f_Mo_leaves_64 : fetch 62 64 = some (.goto 4, 3, 68, 0, 0) := rfl
theorem f_Mo_leaves_67 : fetch 62 67 = some (.iconst 0, 1, 0, 0, 0) := rfl
theorem f_Mo_leaves_68 : fetch 62 68 = some (.istore 4, 2, 0, 0, 0) := rfl
theorem f_Mo_leaves_70 : fetch 62 70 = some (.aload_n 0, 1, 0, 0, 0) := rfl
theorem f_Mo_leaves_71 : fetch 62 71 = some (.aload_n 0, 1, 0, 0, 0) := rfl
theorem f_Mo_leaves_72 : fetch 62 72 = some (.getfield 181, 3, 8, 27, 66) := rfl
theorem f_Mo_leaves_75 : fetch 62 75 = some (.ifCond .eq 39, 3, 114, 0, 0) := rfl
theorem f_Mo_leaves_78 : fetch 62 78 = some (.iload 4, 2, 0, 0, 0) := rfl
theorem f_Mo_leaves_80 : fetch 62 80 = some (.ifCond .ne 34, 3, 114, 0, 0) := rfl
theorem f_Mo_leaves_83 : fetch 62 83 = some (.aload_n 0, 1, 0, 0, 0) := rfl
theorem f_Mo_leaves_84 : fetch 62 84 = some (.getfield 46, 3, 8, 17, 39) := rfl
theorem f_Mo_leaves_87 : fetch 62 87 = some (.iload_n 3, 1, 0, 0, 0) := rfl
theorem f_Mo_leaves_88 : fetch 62 88 = some (.baload, 1, 0, 0, 0) := rfl
theorem f_Mo_leaves_89 : fetch 62 89 = some (.ifCond .eq 21, 3, 110, 0, 0) := rfl
theorem f_Mo_leaves_92 : fetch 62 92 = some (.aload_n 0, 1, 0, 0, 0) := rfl
theorem f_Mo_leaves_93 : fetch 62 93 = some (.iload_n 3, 1, 0, 0, 0) := rfl
theorem f_Mo_leaves_94 : fetch 62 94 = some (.iload_n 1, 1, 0, 0, 0) := rfl
theorem f_Mo_leaves_95 : fetch 62 95 = some (.invokevirtual 226, 3, 59, 2, 71) := rfl
theorem f_Mo_leaves_98 : fetch 62 98 = some (.ifCond .eq 12, 3, 110, 0, 0) := rfl
theorem f_Mo_leaves_101 : fetch 62 101 = some (.aload_n 0, 1, 0, 0, 0) := rfl
theorem f_Mo_leaves_102 : fetch 62 102 = some (.iload_n 3, 1, 0, 0, 0) := rfl
theorem f_Mo_leaves_103 : fetch 62 103 = some (.iload_n 2, 1, 0, 0, 0) := rfl
theorem f_Mo_leaves_104 : fetch 62 104 = some (.invokevirtual 226, 3, 59, 2, 71) := rfl
theorem f_Mo_leaves_107 : fetch 62 107 = some (.ifCond .eq 7, 3, 114, 0, 0) := rfl
theorem f_Mo_leaves_110 : fetch 62 110 = some (.iconst 1, 1, 0, 0, 0) := rfl
theorem f_Mo_leaves_111 : fetch 62 111 = some (.goto 4, 3, 115, 0, 0) := rfl
theorem f_Mo_leaves_114 : fetch 62 114 = some (.iconst 0, 1, 0, 0, 0) := rfl
theorem f_Mo_leaves_115 : fetch 62 115 = some (.putfield 181, 3, 8, 27, 66) := rfl
theorem f_Mo_leaves_118 : fetch 62 118 = some (.iinc 3 1, 3, 0, 0, 0) := rfl
theorem f_Mo_leaves_121 : fetch 62 121 = some (.goto (-114), 3, 7, 0, 0) := rfl
theorem f_Mo_leaves_124 : fetch 62 124 = some (.aload_n 0, 1, 0, 0, 0) := rfl
theorem f_Mo_leaves_125 : fetch 62 125 = some (.getfield 181, 3, 8, 27, 66) := rfl
theorem f_Mo_leaves_128 : fetch 62 128 = some (.ifCond .eq 10, 3, 138, 0, 0) := rfl
theorem f_Mo_leaves_131 : fetch 62 131 = some (.aload_n 0, 1, 0, 0, 0) := rfl
theorem f_Mo_leaves_132 : fetch 62 132 = some (.iload_n 2, 1, 0, 0, 0) := rfl
theorem f_Mo_leaves_133 : fetch 62 133 = some (.iconst 0, 1, 0, 0, 0) := rfl
theorem f_Mo_leaves_134 : fetch 62 134 = some (.lconst 0, 1, 0, 0, 0) := rfl
theorem f_Mo_leaves_135 : fetch 62 135 = some (.invokevirtual 184, 3, 42, 3, 48) := rfl
theorem f_Mo_leaves_138 : fetch 62 138 = some (.return_, 1, 0, 0, 0) := rfl
def F_Mo_leaves_138   (σ : SG) : Option (SG) :=
  some σ
set_option maxHeartbeats 4000000 in
theorem w_Mo_leaves_138 {b d : Nat} {sc : SC} {pre tl : List PE} {B : Nat} {Q : Option Value → List PE → Prop} {res : SG} (hB : B = b + pre.length) (hd : 2 ≤ d)   (hQ : Q none (HH pre tl SHm B res)) (lv : LV) (σ : SG)   (hF : F_Mo_leaves_138   σ = some res) : Rn b sc d 62 138 lv [] (HH pre tl SHm B σ) Q := by
  obtain ⟨e0, rfl⟩ : ∃ e, d = e + 1 := ⟨d - 1, by omega⟩
  unfold F_Mo_leaves_138 at hF
  cases hF
  exact r_return f_Mo_leaves_138 hQ
def F_Mo_leaves_115 (rec7 : Nat → Int32 → Int32 → Int32 → SG → Option (SG)) (x0 : Nat) (x1 : Int32) (x2 : Int32) (x3 : Int32) (y0 : Nat) (y1 : Bool) (σ : SG) : Option (SG) :=
  stl (setI σ (y0) 27 (bz (y1))) fun s1 =>
  rec7 (x0) (x1) (x2) ((x3 + 1)) s1
set_option maxHeartbeats 4000000 in
theorem w_Mo_leaves_115 {b d : Nat} {sc : SC} {pre tl : List PE} {B : Nat} {Q : Option Value → List PE → Prop} {res : SG} (hB : B = b + pre.length) (hd : 2 ≤ d) {rec7 : Nat → Int32 → Int32 → Int32 → SG → Option (SG)} (hr7 : ∀ (lv : LV) (σ : SG) (x0 : Nat) (x1 : Int32) (x2 : Int32) (x3 : Int32), isC SHm (x0) 8 = true → lv.lookup 0 = some (.ref (B + (x0))) → lv.lookup 1 = some (.int (x1)) → lv.lookup 2 = some (.int (x2)) → lv.lookup 3 = some (.int (x3)) →  rec7 x0 x1 x2 x3 σ = some res → Rn b sc d 62 7 lv [] (HH pre tl SHm B σ) Q) (hQ : Q none (HH pre tl SHm B res)) (lv : LV) (σ : SG) (x0 : Nat) (x1 : Int32) (x2 : Int32) (x3 : Int32) (y0 : Nat) (y1 : Bool) (hx0 : isC SHm (x0) 8 = true) (hy0 : isC SHm (y0) 8 = true) (l0 : lv.lookup 0 = some (.ref (B + (x0)))) (l1 : lv.lookup 1 = some (.int (x1))) (l2 : lv.lookup 2 = some (.int (x2))) (l3 : lv.lookup 3 = some (.int (x3))) (hF : F_Mo_leaves_115 rec7 x0 x1 x2 x3 y0 y1 σ = some res) : Rn b sc d 62 115 lv [.int (bz (y1)), .ref (B + (y0))] (HH pre tl SHm B σ) Q := by
  obtain ⟨e0, rfl⟩ : ∃ e, d = e + 1 := ⟨d - 1, by omega⟩
  unfold F_Mo_leaves_115 at hF
  refine t_putz (v := y1) hB hy0 f_Mo_leaves_115 rfl rfl ?_
  generalize hs1 : setI σ (y0) 27 (bz (y1)) = s1 at hF ⊢
  rw [stl_eq] at hF
  refine r_iinc f_Mo_leaves_118 l3 (w := x3 + 1) rfl ?_
  refine r_goto f_Mo_leaves_121 ?_
  exact hr7 _ (s1) (x0) (x1) (x2) ((x3 + 1)) hx0 (lk_put_ne l0 (by decide) (Or.inl rfl)) (lk_put_ne l1 (by decide) (Or.inl rfl)) (lk_put_ne l2 (by decide) (Or.inl rfl)) lk_put hF
def F_Mo_leaves_114 (rec7 : Nat → Int32 → Int32 → Int32 → SG → Option (SG)) (x0 : Nat) (x1 : Int32) (x2 : Int32) (x3 : Int32) (y0 : Nat) (σ : SG) : Option (SG) :=
  F_Mo_leaves_115 (rec7) (x0) (x1) (x2) (x3) (y0) (false) σ
set_option maxHeartbeats 4000000 in
theorem w_Mo_leaves_114 {b d : Nat} {sc : SC} {pre tl : List PE} {B : Nat} {Q : Option Value → List PE → Prop} {res : SG} (hB : B = b + pre.length) (hd : 2 ≤ d) {rec7 : Nat → Int32 → Int32 → Int32 → SG → Option (SG)} (hr7 : ∀ (lv : LV) (σ : SG) (x0 : Nat) (x1 : Int32) (x2 : Int32) (x3 : Int32), isC SHm (x0) 8 = true → lv.lookup 0 = some (.ref (B + (x0))) → lv.lookup 1 = some (.int (x1)) → lv.lookup 2 = some (.int (x2)) → lv.lookup 3 = some (.int (x3)) →  rec7 x0 x1 x2 x3 σ = some res → Rn b sc d 62 7 lv [] (HH pre tl SHm B σ) Q) (hQ : Q none (HH pre tl SHm B res)) (lv : LV) (σ : SG) (x0 : Nat) (x1 : Int32) (x2 : Int32) (x3 : Int32) (y0 : Nat) (hx0 : isC SHm (x0) 8 = true) (hy0 : isC SHm (y0) 8 = true) (l0 : lv.lookup 0 = some (.ref (B + (x0)))) (l1 : lv.lookup 1 = some (.int (x1))) (l2 : lv.lookup 2 = some (.int (x2))) (l3 : lv.lookup 3 = some (.int (x3))) (hF : F_Mo_leaves_114 rec7 x0 x1 x2 x3 y0 σ = some res) : Rn b sc d 62 114 lv [.ref (B + (y0))] (HH pre tl SHm B σ) Q := by
  obtain ⟨e0, rfl⟩ : ∃ e, d = e + 1 := ⟨d - 1, by omega⟩
  unfold F_Mo_leaves_114 at hF
  refine r_iconst f_Mo_leaves_114 (v := 0) (by decide) ?_
  exact w_Mo_leaves_115 hB hd (hr7) hQ _ (σ) (x0) (x1) (x2) (x3) (y0) (false) hx0 hy0 l0 l1 l2 l3 hF
def F_Mo_leaves_110 (rec7 : Nat → Int32 → Int32 → Int32 → SG → Option (SG)) (x0 : Nat) (x1 : Int32) (x2 : Int32) (x3 : Int32) (y0 : Nat) (σ : SG) : Option (SG) :=
  F_Mo_leaves_115 (rec7) (x0) (x1) (x2) (x3) (y0) (true) σ
set_option maxHeartbeats 4000000 in
theorem w_Mo_leaves_110 {b d : Nat} {sc : SC} {pre tl : List PE} {B : Nat} {Q : Option Value → List PE → Prop} {res : SG} (hB : B = b + pre.length) (hd : 2 ≤ d) {rec7 : Nat → Int32 → Int32 → Int32 → SG → Option (SG)} (hr7 : ∀ (lv : LV) (σ : SG) (x0 : Nat) (x1 : Int32) (x2 : Int32) (x3 : Int32), isC SHm (x0) 8 = true → lv.lookup 0 = some (.ref (B + (x0))) → lv.lookup 1 = some (.int (x1)) → lv.lookup 2 = some (.int (x2)) → lv.lookup 3 = some (.int (x3)) →  rec7 x0 x1 x2 x3 σ = some res → Rn b sc d 62 7 lv [] (HH pre tl SHm B σ) Q) (hQ : Q none (HH pre tl SHm B res)) (lv : LV) (σ : SG) (x0 : Nat) (x1 : Int32) (x2 : Int32) (x3 : Int32) (y0 : Nat) (hx0 : isC SHm (x0) 8 = true) (hy0 : isC SHm (y0) 8 = true) (l0 : lv.lookup 0 = some (.ref (B + (x0)))) (l1 : lv.lookup 1 = some (.int (x1))) (l2 : lv.lookup 2 = some (.int (x2))) (l3 : lv.lookup 3 = some (.int (x3))) (hF : F_Mo_leaves_110 rec7 x0 x1 x2 x3 y0 σ = some res) : Rn b sc d 62 110 lv [.ref (B + (y0))] (HH pre tl SHm B σ) Q := by
  obtain ⟨e0, rfl⟩ : ∃ e, d = e + 1 := ⟨d - 1, by omega⟩
  unfold F_Mo_leaves_110 at hF
  refine r_iconst f_Mo_leaves_110 (v := 1) (by decide) ?_
  refine r_goto f_Mo_leaves_111 ?_
  exact w_Mo_leaves_115 hB hd (hr7) hQ _ (σ) (x0) (x1) (x2) (x3) (y0) (true) hx0 hy0 l0 l1 l2 l3 hF
def F_Mo_leaves_68 (rec7 : Nat → Int32 → Int32 → Int32 → SG → Option (SG)) (x0 : Nat) (x1 : Int32) (x2 : Int32) (x3 : Int32) (y0 : Bool) (σ : SG) : Option (SG) :=
  if (zb (σ.1 (x0) 27)) = true then
  if y0 = true then
  F_Mo_leaves_114 (rec7) (x0) (x1) (x2) (x3) (x0) σ
  else if x3 < 0 ∨ 18 ≤ (x3).toNatClampNeg then none else
  if (zb (σ.2.2.2.1 ((cref SHm (x0) 17)) ((x3).toNatClampNeg))) = true then
  match F_Mo_inHandler (x0) (x3) (x1) σ with
  | none => none
  | some q6 =>
  if q6.1 = true then
  match F_Mo_inHandler (x0) (x3) (x2) q6.2 with
  | none => none
  | some q8 =>
  if q8.1 = true then
  F_Mo_leaves_110 (rec7) (x0) (x1) (x2) (x3) (x0) q8.2
  else F_Mo_leaves_114 (rec7) (x0) (x1) (x2) (x3) (x0) q8.2
  else F_Mo_leaves_110 (rec7) (x0) (x1) (x2) (x3) (x0) q6.2
  else F_Mo_leaves_110 (rec7) (x0) (x1) (x2) (x3) (x0) σ
  else F_Mo_leaves_114 (rec7) (x0) (x1) (x2) (x3) (x0) σ
set_option maxHeartbeats 4000000 in
theorem w_Mo_leaves_68 {b d : Nat} {sc : SC} {pre tl : List PE} {B : Nat} {Q : Option Value → List PE → Prop} {res : SG} (hB : B = b + pre.length) (hd : 2 ≤ d) {rec7 : Nat → Int32 → Int32 → Int32 → SG → Option (SG)} (hr7 : ∀ (lv : LV) (σ : SG) (x0 : Nat) (x1 : Int32) (x2 : Int32) (x3 : Int32), isC SHm (x0) 8 = true → lv.lookup 0 = some (.ref (B + (x0))) → lv.lookup 1 = some (.int (x1)) → lv.lookup 2 = some (.int (x2)) → lv.lookup 3 = some (.int (x3)) →  rec7 x0 x1 x2 x3 σ = some res → Rn b sc d 62 7 lv [] (HH pre tl SHm B σ) Q) (hQ : Q none (HH pre tl SHm B res)) (lv : LV) (σ : SG) (x0 : Nat) (x1 : Int32) (x2 : Int32) (x3 : Int32) (y0 : Bool) (hx0 : isC SHm (x0) 8 = true) (l0 : lv.lookup 0 = some (.ref (B + (x0)))) (l1 : lv.lookup 1 = some (.int (x1))) (l2 : lv.lookup 2 = some (.int (x2))) (l3 : lv.lookup 3 = some (.int (x3))) (hF : F_Mo_leaves_68 rec7 x0 x1 x2 x3 y0 σ = some res) : Rn b sc d 62 68 lv [.int (bz (y0))] (HH pre tl SHm B σ) Q := by
  obtain ⟨e0, rfl⟩ : ∃ e, d = e + 1 := ⟨d - 1, by omega⟩
  unfold F_Mo_leaves_68 at hF
  refine r_istore f_Mo_leaves_68 ?_
  refine r_aload_n f_Mo_leaves_70 (lk_put_ne l0 (by decide) (Or.inl rfl)) ?_
  refine r_aload_n f_Mo_leaves_71 (lk_put_ne l0 (by decide) (Or.inl rfl)) ?_
  refine t_getz hB hx0 f_Mo_leaves_72 rfl ?_
  refine r_if_eq f_Mo_leaves_75 (fun c2 => ?_) (fun c2 => ?_)
  · rw [if_neg (bz_nt c2)] at hF
    exact w_Mo_leaves_114 hB hd (hr7) hQ _ (σ) (x0) (x1) (x2) (x3) (x0) hx0 hx0 (lk_put_ne l0 (by decide) (Or.inl rfl)) (lk_put_ne l1 (by decide) (Or.inl rfl)) (lk_put_ne l2 (by decide) (Or.inl rfl)) (lk_put_ne l3 (by decide) (Or.inl rfl)) hF
  · rw [if_pos (bz_t c2)] at hF
    refine r_iload f_Mo_leaves_78 lk_put ?_
    refine r_if_ne f_Mo_leaves_80 (fun c3 => ?_) (fun c3 => ?_)
    · rw [if_pos (bz_t c3)] at hF
      exact w_Mo_leaves_114 hB hd (hr7) hQ _ (σ) (x0) (x1) (x2) (x3) (x0) hx0 hx0 (lk_put_ne l0 (by decide) (Or.inl rfl)) (lk_put_ne l1 (by decide) (Or.inl rfl)) (lk_put_ne l2 (by decide) (Or.inl rfl)) (lk_put_ne l3 (by decide) (Or.inl rfl)) hF
    · rw [if_neg (bz_nt (Decidable.not_not.mp c3))] at hF
      refine r_aload_n f_Mo_leaves_83 (lk_put_ne l0 (by decide) (Or.inl rfl)) ?_
      refine t_getc hB hx0 f_Mo_leaves_84 rfl ?_
      refine r_iload_n f_Mo_leaves_87 (lk_put_ne l3 (by decide) (Or.inl rfl)) ?_
      by_cases c4 : x3 < 0 ∨ 18 ≤ (x3).toNatClampNeg
      · rw [if_pos c4] at hF; cases hF
      rw [if_neg c4] at hF
      refine t_bald hB (cc_8_17 hx0) f_Mo_leaves_88 c4 ?_
      refine r_if_eq f_Mo_leaves_89 (fun c5 => ?_) (fun c5 => ?_)
      · rw [if_neg (bz_nt c5)] at hF
        exact w_Mo_leaves_110 hB hd (hr7) hQ _ (σ) (x0) (x1) (x2) (x3) (x0) hx0 hx0 (lk_put_ne l0 (by decide) (Or.inl rfl)) (lk_put_ne l1 (by decide) (Or.inl rfl)) (lk_put_ne l2 (by decide) (Or.inl rfl)) (lk_put_ne l3 (by decide) (Or.inl rfl)) hF
      · rw [if_pos (bz_t c5)] at hF
        refine r_aload_n f_Mo_leaves_92 (lk_put_ne l0 (by decide) (Or.inl rfl)) ?_
        refine r_iload_n f_Mo_leaves_93 (lk_put_ne l3 (by decide) (Or.inl rfl)) ?_
        refine r_iload_n f_Mo_leaves_94 (lk_put_ne l1 (by decide) (Or.inl rfl)) ?_
        cases hq6 : F_Mo_inHandler (x0) (x3) (x1) σ with
        | none => simp only [hq6] at hF; cases hF
        | some q6 =>
          simp only [hq6] at hF
          refine t_V2i hB hx0 rfl rfl f_Mo_leaves_95 (by decide) (Nat.le_of_ble_eq_true rfl) (Nat.le_of_ble_eq_true rfl) (w_Mo_inHandler hB  (x0) (x3) (x1) hx0 hq6 ⟨_, rfl, ?_⟩)
          refine r_if_eq f_Mo_leaves_98 (fun c7 => ?_) (fun c7 => ?_)
          · rw [if_neg (bz_nt c7)] at hF
            exact w_Mo_leaves_110 hB hd (hr7) hQ _ (q6.2) (x0) (x1) (x2) (x3) (x0) hx0 hx0 (lk_put_ne l0 (by decide) (Or.inl rfl)) (lk_put_ne l1 (by decide) (Or.inl rfl)) (lk_put_ne l2 (by decide) (Or.inl rfl)) (lk_put_ne l3 (by decide) (Or.inl rfl)) hF
          · rw [if_pos (bz_t c7)] at hF
            refine r_aload_n f_Mo_leaves_101 (lk_put_ne l0 (by decide) (Or.inl rfl)) ?_
            refine r_iload_n f_Mo_leaves_102 (lk_put_ne l3 (by decide) (Or.inl rfl)) ?_
            refine r_iload_n f_Mo_leaves_103 (lk_put_ne l2 (by decide) (Or.inl rfl)) ?_
            cases hq8 : F_Mo_inHandler (x0) (x3) (x2) q6.2 with
            | none => simp only [hq8] at hF; cases hF
            | some q8 =>
              simp only [hq8] at hF
              refine t_V2i hB hx0 rfl rfl f_Mo_leaves_104 (by decide) (Nat.le_of_ble_eq_true rfl) (Nat.le_of_ble_eq_true rfl) (w_Mo_inHandler hB  (x0) (x3) (x2) hx0 hq8 ⟨_, rfl, ?_⟩)
              refine r_if_eq f_Mo_leaves_107 (fun c9 => ?_) (fun c9 => ?_)
              · rw [if_neg (bz_nt c9)] at hF
                exact w_Mo_leaves_114 hB hd (hr7) hQ _ (q8.2) (x0) (x1) (x2) (x3) (x0) hx0 hx0 (lk_put_ne l0 (by decide) (Or.inl rfl)) (lk_put_ne l1 (by decide) (Or.inl rfl)) (lk_put_ne l2 (by decide) (Or.inl rfl)) (lk_put_ne l3 (by decide) (Or.inl rfl)) hF
              · rw [if_pos (bz_t c9)] at hF
                exact w_Mo_leaves_110 hB hd (hr7) hQ _ (q8.2) (x0) (x1) (x2) (x3) (x0) hx0 hx0 (lk_put_ne l0 (by decide) (Or.inl rfl)) (lk_put_ne l1 (by decide) (Or.inl rfl)) (lk_put_ne l2 (by decide) (Or.inl rfl)) (lk_put_ne l3 (by decide) (Or.inl rfl)) hF
def F_Mo_leaves_67 (rec7 : Nat → Int32 → Int32 → Int32 → SG → Option (SG)) (x0 : Nat) (x1 : Int32) (x2 : Int32) (x3 : Int32) (σ : SG) : Option (SG) :=
  F_Mo_leaves_68 (rec7) (x0) (x1) (x2) (x3) (false) σ
set_option maxHeartbeats 4000000 in
theorem w_Mo_leaves_67 {b d : Nat} {sc : SC} {pre tl : List PE} {B : Nat} {Q : Option Value → List PE → Prop} {res : SG} (hB : B = b + pre.length) (hd : 2 ≤ d) {rec7 : Nat → Int32 → Int32 → Int32 → SG → Option (SG)} (hr7 : ∀ (lv : LV) (σ : SG) (x0 : Nat) (x1 : Int32) (x2 : Int32) (x3 : Int32), isC SHm (x0) 8 = true → lv.lookup 0 = some (.ref (B + (x0))) → lv.lookup 1 = some (.int (x1)) → lv.lookup 2 = some (.int (x2)) → lv.lookup 3 = some (.int (x3)) →  rec7 x0 x1 x2 x3 σ = some res → Rn b sc d 62 7 lv [] (HH pre tl SHm B σ) Q) (hQ : Q none (HH pre tl SHm B res)) (lv : LV) (σ : SG) (x0 : Nat) (x1 : Int32) (x2 : Int32) (x3 : Int32) (hx0 : isC SHm (x0) 8 = true) (l0 : lv.lookup 0 = some (.ref (B + (x0)))) (l1 : lv.lookup 1 = some (.int (x1))) (l2 : lv.lookup 2 = some (.int (x2))) (l3 : lv.lookup 3 = some (.int (x3))) (hF : F_Mo_leaves_67 rec7 x0 x1 x2 x3 σ = some res) : Rn b sc d 62 67 lv [] (HH pre tl SHm B σ) Q := by
  obtain ⟨e0, rfl⟩ : ∃ e, d = e + 1 := ⟨d - 1, by omega⟩
  unfold F_Mo_leaves_67 at hF
  refine r_iconst f_Mo_leaves_67 (v := 0) (by decide) ?_
  exact w_Mo_leaves_68 hB hd (hr7) hQ _ (σ) (x0) (x1) (x2) (x3) (false) hx0 l0 l1 l2 l3 hF
def F_Mo_leaves_63 (rec7 : Nat → Int32 → Int32 → Int32 → SG → Option (SG)) (x0 : Nat) (x1 : Int32) (x2 : Int32) (x3 : Int32) (σ : SG) : Option (SG) :=
  F_Mo_leaves_68 (rec7) (x0) (x1) (x2) (x3) (true) σ
set_option maxHeartbeats 4000000 in
theorem w_Mo_leaves_63 {b d : Nat} {sc : SC} {pre tl : List PE} {B : Nat} {Q : Option Value → List PE → Prop} {res : SG} (hB : B = b + pre.length) (hd : 2 ≤ d) {rec7 : Nat → Int32 → Int32 → Int32 → SG → Option (SG)} (hr7 : ∀ (lv : LV) (σ : SG) (x0 : Nat) (x1 : Int32) (x2 : Int32) (x3 : Int32), isC SHm (x0) 8 = true → lv.lookup 0 = some (.ref (B + (x0))) → lv.lookup 1 = some (.int (x1)) → lv.lookup 2 = some (.int (x2)) → lv.lookup 3 = some (.int (x3)) →  rec7 x0 x1 x2 x3 σ = some res → Rn b sc d 62 7 lv [] (HH pre tl SHm B σ) Q) (hQ : Q none (HH pre tl SHm B res)) (lv : LV) (σ : SG) (x0 : Nat) (x1 : Int32) (x2 : Int32) (x3 : Int32) (hx0 : isC SHm (x0) 8 = true) (l0 : lv.lookup 0 = some (.ref (B + (x0)))) (l1 : lv.lookup 1 = some (.int (x1))) (l2 : lv.lookup 2 = some (.int (x2))) (l3 : lv.lookup 3 = some (.int (x3))) (hF : F_Mo_leaves_63 rec7 x0 x1 x2 x3 σ = some res) : Rn b sc d 62 63 lv [] (HH pre tl SHm B σ) Q := by
  obtain ⟨e0, rfl⟩ : ∃ e, d = e + 1 := ⟨d - 1, by omega⟩
  unfold F_Mo_leaves_63 at hF
  refine r_iconst f_Mo_leaves_63 (v := 1) (by decide) ?_
  refine r_goto f_Mo_leaves_64 ?_
  exact w_Mo_leaves_68 hB hd (hr7) hQ _ (σ) (x0) (x1) (x2) (x3) (true) hx0 l0 l1 l2 l3 hF
def F_Mo_leaves_45 (rec7 : Nat → Int32 → Int32 → Int32 → SG → Option (SG)) (x0 : Nat) (x1 : Int32) (x2 : Int32) (x3 : Int32) (σ : SG) : Option (SG) :=
  match F_Mo_inHandler (x0) (x3) (x2) σ with
  | none => none
  | some q10 =>
  if q10.1 = true then
  match F_Mo_inHandler (x0) (x3) (x1) q10.2 with
  | none => none
  | some q12 =>
  if q12.1 = true then
  F_Mo_leaves_67 (rec7) (x0) (x1) (x2) (x3) q12.2
  else F_Mo_leaves_63 (rec7) (x0) (x1) (x2) (x3) q12.2
  else F_Mo_leaves_67 (rec7) (x0) (x1) (x2) (x3) q10.2
set_option maxHeartbeats 4000000 in
theorem w_Mo_leaves_45 {b d : Nat} {sc : SC} {pre tl : List PE} {B : Nat} {Q : Option Value → List PE → Prop} {res : SG} (hB : B = b + pre.length) (hd : 2 ≤ d) {rec7 : Nat → Int32 → Int32 → Int32 → SG → Option (SG)} (hr7 : ∀ (lv : LV) (σ : SG) (x0 : Nat) (x1 : Int32) (x2 : Int32) (x3 : Int32), isC SHm (x0) 8 = true → lv.lookup 0 = some (.ref (B + (x0))) → lv.lookup 1 = some (.int (x1)) → lv.lookup 2 = some (.int (x2)) → lv.lookup 3 = some (.int (x3)) →  rec7 x0 x1 x2 x3 σ = some res → Rn b sc d 62 7 lv [] (HH pre tl SHm B σ) Q) (hQ : Q none (HH pre tl SHm B res)) (lv : LV) (σ : SG) (x0 : Nat) (x1 : Int32) (x2 : Int32) (x3 : Int32) (hx0 : isC SHm (x0) 8 = true) (l0 : lv.lookup 0 = some (.ref (B + (x0)))) (l1 : lv.lookup 1 = some (.int (x1))) (l2 : lv.lookup 2 = some (.int (x2))) (l3 : lv.lookup 3 = some (.int (x3))) (hF : F_Mo_leaves_45 rec7 x0 x1 x2 x3 σ = some res) : Rn b sc d 62 45 lv [] (HH pre tl SHm B σ) Q := by
  obtain ⟨e0, rfl⟩ : ∃ e, d = e + 1 := ⟨d - 1, by omega⟩
  unfold F_Mo_leaves_45 at hF
  refine r_aload_n f_Mo_leaves_45 l0 ?_
  refine r_iload_n f_Mo_leaves_46 l3 ?_
  refine r_iload_n f_Mo_leaves_47 l2 ?_
  cases hq10 : F_Mo_inHandler (x0) (x3) (x2) σ with
  | none => simp only [hq10] at hF; cases hF
  | some q10 =>
    simp only [hq10] at hF
    refine t_V2i hB hx0 rfl rfl f_Mo_leaves_48 (by decide) (Nat.le_of_ble_eq_true rfl) (Nat.le_of_ble_eq_true rfl) (w_Mo_inHandler hB  (x0) (x3) (x2) hx0 hq10 ⟨_, rfl, ?_⟩)
    refine r_if_eq f_Mo_leaves_51 (fun c11 => ?_) (fun c11 => ?_)
    · rw [if_neg (bz_nt c11)] at hF
      exact w_Mo_leaves_67 hB hd (hr7) hQ _ (q10.2) (x0) (x1) (x2) (x3) hx0 l0 l1 l2 l3 hF
    · rw [if_pos (bz_t c11)] at hF
      refine r_aload_n f_Mo_leaves_54 l0 ?_
      refine r_iload_n f_Mo_leaves_55 l3 ?_
      refine r_iload_n f_Mo_leaves_56 l1 ?_
      cases hq12 : F_Mo_inHandler (x0) (x3) (x1) q10.2 with
      | none => simp only [hq12] at hF; cases hF
      | some q12 =>
        simp only [hq12] at hF
        refine t_V2i hB hx0 rfl rfl f_Mo_leaves_57 (by decide) (Nat.le_of_ble_eq_true rfl) (Nat.le_of_ble_eq_true rfl) (w_Mo_inHandler hB  (x0) (x3) (x1) hx0 hq12 ⟨_, rfl, ?_⟩)
        refine r_if_ne f_Mo_leaves_60 (fun c13 => ?_) (fun c13 => ?_)
        · rw [if_pos (bz_t c13)] at hF
          exact w_Mo_leaves_67 hB hd (hr7) hQ _ (q12.2) (x0) (x1) (x2) (x3) hx0 l0 l1 l2 l3 hF
        · rw [if_neg (bz_nt (Decidable.not_not.mp c13))] at hF
          exact w_Mo_leaves_63 hB hd (hr7) hQ _ (q12.2) (x0) (x1) (x2) (x3) hx0 l0 l1 l2 l3 hF
def F_Mo_leaves_7  : Nat → Nat → Int32 → Int32 → Int32 → SG → Option (SG)
  | 0, _, _, _, _, _ => none
  | n + 1, x0, x1, x2, x3, σ =>
  if (σ.1 (x0) 24) < 0 ∨ 6 ≤ ((σ.1 (x0) 24)).toNatClampNeg then none else
  if (((3 : Int32) * (σ.1 (x0) 24)) + (σ.2.2.2.1 ((cref SHm (x0) 13)) (((σ.1 (x0) 24)).toNatClampNeg))) ≤ x3 then
  if (zb (σ.1 (x0) 27)) = true then
  match F_Mo_meet (x0) (x2) ((0 : Int32)) ((0 : Int64)) σ with
  | none => none
  | some q17 =>
  F_Mo_leaves_138 q17
  else F_Mo_leaves_138 σ
  else match F_Mo_inPart (x0) (x3) (x2) σ with
  | none => none
  | some q18 =>
  if q18.1 = true then
  match F_Mo_inPart (x0) (x3) (x1) q18.2 with
  | none => none
  | some q20 =>
  if q20.1 = true then
  F_Mo_leaves_45 (F_Mo_leaves_7  n) (x0) (x1) (x2) (x3) q20.2
  else F_Mo_leaves_63 (F_Mo_leaves_7  n) (x0) (x1) (x2) (x3) q20.2
  else F_Mo_leaves_45 (F_Mo_leaves_7  n) (x0) (x1) (x2) (x3) q18.2
set_option maxHeartbeats 4000000 in
theorem w_Mo_leaves_7 {b d : Nat} {sc : SC} {pre tl : List PE} {B : Nat} {Q : Option Value → List PE → Prop} {res : SG} (hB : B = b + pre.length) (hd : 2 ≤ d)   (hQ : Q none (HH pre tl SHm B res)) : ∀ (n : Nat) (lv : LV) (σ : SG) (x0 : Nat) (x1 : Int32) (x2 : Int32) (x3 : Int32), isC SHm (x0) 8 = true → lv.lookup 0 = some (.ref (B + (x0))) → lv.lookup 1 = some (.int (x1)) → lv.lookup 2 = some (.int (x2)) → lv.lookup 3 = some (.int (x3)) → F_Mo_leaves_7  n x0 x1 x2 x3 σ = some res → Rn b sc d 62 7 lv [] (HH pre tl SHm B σ) Q := by
  obtain ⟨e0, rfl⟩ : ∃ e, d = e + 1 := ⟨d - 1, by omega⟩
  intro n
  induction n with
  | zero => intro lv σ x0 x1 x2 x3 hx0 l0 l1 l2 l3 hF; cases hF
  | succ n ih =>
    intro lv σ x0 x1 x2 x3 hx0 l0 l1 l2 l3 hF
    unfold F_Mo_leaves_7 at hF
    refine r_iload_n f_Mo_leaves_7 l3 ?_
    refine r_iconst f_Mo_leaves_8 (v := 3) (by decide) ?_
    refine r_aload_n f_Mo_leaves_9 l0 ?_
    refine t_geti hB hx0 f_Mo_leaves_10 rfl ?_
    refine r_imul f_Mo_leaves_13 ?_
    refine r_aload_n f_Mo_leaves_14 l0 ?_
    refine t_getc hB hx0 f_Mo_leaves_15 rfl ?_
    refine r_aload_n f_Mo_leaves_18 l0 ?_
    refine t_geti hB hx0 f_Mo_leaves_19 rfl ?_
    by_cases c14 : (σ.1 (x0) 24) < 0 ∨ 6 ≤ ((σ.1 (x0) 24)).toNatClampNeg
    · rw [if_pos c14] at hF; cases hF
    rw [if_neg c14] at hF
    refine t_iald hB (cc_8_13 hx0) f_Mo_leaves_22 c14 ?_
    refine r_iadd f_Mo_leaves_23 ?_
    refine r_icmp_ge f_Mo_leaves_24 (fun c15 => ?_) (fun c15 => ?_)
    · rw [if_pos c15] at hF
      refine r_aload_n f_Mo_leaves_124 l0 ?_
      refine t_getz hB hx0 f_Mo_leaves_125 rfl ?_
      refine r_if_eq f_Mo_leaves_128 (fun c16 => ?_) (fun c16 => ?_)
      · rw [if_neg (bz_nt c16)] at hF
        exact w_Mo_leaves_138 hB hd  hQ _ (σ) hF
      · rw [if_pos (bz_t c16)] at hF
        refine r_aload_n f_Mo_leaves_131 l0 ?_
        refine r_iload_n f_Mo_leaves_132 l2 ?_
        refine r_iconst f_Mo_leaves_133 (v := 0) (by decide) ?_
        refine r_lconst f_Mo_leaves_134 (v := 0) (by decide) ?_
        cases hq17 : F_Mo_meet (x0) (x2) ((0 : Int32)) ((0 : Int64)) σ with
        | none => simp only [hq17] at hF; cases hF
        | some q17 =>
          simp only [hq17] at hF
          refine t_V3v hB hx0 rfl rfl f_Mo_leaves_135 (by decide) (Nat.le_of_ble_eq_true rfl) (Nat.le_of_ble_eq_true rfl) (w_Mo_meet hB (by omega) (x0) (x2) ((0 : Int32)) ((0 : Int64)) hx0 hq17 ⟨rfl, ?_⟩)
          exact w_Mo_leaves_138 hB hd  hQ _ (q17) hF
    · rw [if_neg c15] at hF
      refine r_aload_n f_Mo_leaves_27 l0 ?_
      refine r_iload_n f_Mo_leaves_28 l3 ?_
      refine r_iload_n f_Mo_leaves_29 l2 ?_
      cases hq18 : F_Mo_inPart (x0) (x3) (x2) σ with
      | none => simp only [hq18] at hF; cases hF
      | some q18 =>
        simp only [hq18] at hF
        refine t_V2i hB hx0 rfl rfl f_Mo_leaves_30 (by decide) (Nat.le_of_ble_eq_true rfl) (Nat.le_of_ble_eq_true rfl) (w_Mo_inPart hB  (x0) (x3) (x2) hx0 hq18 ⟨_, rfl, ?_⟩)
        refine r_if_eq f_Mo_leaves_33 (fun c19 => ?_) (fun c19 => ?_)
        · rw [if_neg (bz_nt c19)] at hF
          exact w_Mo_leaves_45 hB hd (ih) hQ _ (q18.2) (x0) (x1) (x2) (x3) hx0 l0 l1 l2 l3 hF
        · rw [if_pos (bz_t c19)] at hF
          refine r_aload_n f_Mo_leaves_36 l0 ?_
          refine r_iload_n f_Mo_leaves_37 l3 ?_
          refine r_iload_n f_Mo_leaves_38 l1 ?_
          cases hq20 : F_Mo_inPart (x0) (x3) (x1) q18.2 with
          | none => simp only [hq20] at hF; cases hF
          | some q20 =>
            simp only [hq20] at hF
            refine t_V2i hB hx0 rfl rfl f_Mo_leaves_39 (by decide) (Nat.le_of_ble_eq_true rfl) (Nat.le_of_ble_eq_true rfl) (w_Mo_inPart hB  (x0) (x3) (x1) hx0 hq20 ⟨_, rfl, ?_⟩)
            refine r_if_eq f_Mo_leaves_42 (fun c21 => ?_) (fun c21 => ?_)
            · rw [if_neg (bz_nt c21)] at hF
              exact w_Mo_leaves_63 hB hd (ih) hQ _ (q20.2) (x0) (x1) (x2) (x3) hx0 l0 l1 l2 l3 hF
            · rw [if_pos (bz_t c21)] at hF
              exact w_Mo_leaves_45 hB hd (ih) hQ _ (q20.2) (x0) (x1) (x2) (x3) hx0 l0 l1 l2 l3 hF
def F_Mo_leaves (a0 : Nat) (a1 : Int32) (a2 : Int32) (σ : SG) : Option (SG) :=
  F_Mo_leaves_7  5000 (a0) (a1) (a2) (((3 : Int32) * (σ.1 (a0) 24))) σ
set_option maxHeartbeats 4000000 in
theorem w_Mo_leaves {b d : Nat} {pre tl : List PE} {B : Nat} {Q : Option Value → List PE → Prop} {res : SG} (hB : B = b + pre.length) (hd : 2 ≤ d)  {σ : SG} (a0 : Nat) (a1 : Int32) (a2 : Int32) (ha0 : isC SHm (a0) 8 = true) (hF : F_Mo_leaves a0 a1 a2 σ = some res) (hQ : Q none (HH pre tl SHm B res)) : Cl b d 62 [.ref (B + (a0)), .int (a1), .int (a2)] (HH pre tl SHm B σ) Q := by
  obtain ⟨e0, rfl⟩ : ∃ e, d = e + 1 := ⟨d - 1, by omega⟩
  unfold Cl
  unfold F_Mo_leaves at hF
  refine r_iconst f_Mo_leaves_0 (v := 3) (by decide) ?_
  refine r_aload_n f_Mo_leaves_1 rfl ?_
  refine t_geti hB ha0 f_Mo_leaves_2 rfl ?_
  refine r_imul f_Mo_leaves_5 ?_
  refine r_istore_n f_Mo_leaves_6 ?_
  exact w_Mo_leaves_7 hB hd  hQ 5000 _ (σ) (a0) (a1) (a2) (((3 : Int32) * (σ.1 (a0) 24))) ha0 (lk_put_ne rfl (by decide) (Or.inl rfl)) (lk_put_ne rfl (by decide) (Or.inl rfl)) (lk_put_ne rfl (by decide) (Or.inl rfl)) lk_put hF
theorem f_Mo_goes_0 : fetch 63 0 = some (.iconst 1, 1, 0, 0, 0) := rfl
theorem f_Mo_goes_1 : fetch 63 1 = some (.istore_n 3, 1, 0, 0, 0) := rfl
theorem f_Mo_goes_2 : fetch 63 2 = some (.iconst 1, 1, 0, 0, 0) := rfl
theorem f_Mo_goes_3 : fetch 63 3 = some (.istore 4, 2, 0, 0, 0) := rfl
theorem f_Mo_goes_5 : fetch 63 5 = some (.iconst 3, 1, 0, 0, 0) := rfl
theorem f_Mo_goes_6 : fetch 63 6 = some (.aload_n 0, 1, 0, 0, 0) := rfl
theorem f_Mo_goes_7 : fetch 63 7 = some (.getfield 154, 3, 8, 24, 65) := rfl
theorem f_Mo_goes_10 : fetch 63 10 = some (.imul, 1, 0, 0, 0) := rfl
theorem f_Mo_goes_11 : fetch 63 11 = some (.istore 5, 2, 0, 0, 0) := rfl
theorem f_Mo_goes_13 : fetch 63 13 = some (.iload 5, 2, 0, 0, 0) := rfl
theorem f_Mo_goes_15 : fetch 63 15 = some (.iconst 3, 1, 0, 0, 0) := rfl
theorem f_Mo_goes_16 : fetch 63 16 = some (.aload_n 0, 1, 0, 0, 0) := rfl
theorem f_Mo_goes_17 : fetch 63 17 = some (.getfield 154, 3, 8, 24, 65) := rfl
theorem f_Mo_goes_20 : fetch 63 20 = some (.imul, 1, 0, 0, 0) := rfl
theorem f_Mo_goes_21 : fetch 63 21 = some (.aload_n 0, 1, 0, 0, 0) := rfl
theorem f_Mo_goes_22 : fetch 63 22 = some (.getfield 34, 3, 8, 13, 35) := rfl
theorem f_Mo_goes_25 : fetch 63 25 = some (.aload_n 0, 1, 0, 0, 0) := rfl
theorem f_Mo_goes_26 : fetch 63 26 = some (.getfield 154, 3, 8, 24, 65) := rfl
theorem f_Mo_goes_29 : fetch 63 29 = some (.iaload, 1, 0, 0, 0) := rfl
theorem f_Mo_goes_30 : fetch 63 30 = some (.iadd, 1, 0, 0, 0) := rfl
theorem f_Mo_goes_31 : fetch 63 31 = some (.if_icmp .ge 113, 3, 144, 0, 0) := rfl
theorem f_Mo_goes_34 : fetch 63 34 = some (.aload_n 0, 1, 0, 0, 0) := rfl
theorem f_Mo_goes_35 : fetch 63 35 = some (.iload 5, 2, 0, 0, 0) := rfl
theorem f_Mo_goes_37 : fetch 63 37 = some (.iload_n 1, 1, 0, 0, 0) := rfl
theorem f_Mo_goes_38 : fetch 63 38 = some (.invokevirtual 203, 3, 44, 2, 53) := rfl
theorem f_Mo_goes_41 : fetch 63 41 = some (.aload_n 0, 1, 0, 0, 0) := rfl
theorem f_Mo_goes_42 : fetch 63 42 = some (.iload 5, 2, 0, 0, 0) := rfl
theorem f_Mo_goes_44 : fetch 63 44 = some (.iload_n 2, 1, 0, 0, 0) := rfl
theorem f_Mo_goes_45 : fetch 63 45 = some (.invokevirtual 203, 3, 44, 2, 53) := rfl
theorem f_Mo_goes_48 : fetch 63 48 = some (.if_icmp .ne 24, 3, 72, 0, 0) := rfl
theorem f_Mo_goes_51 : fetch 63 51 = some (.aload_n 0, 1, 0, 0, 0) := rfl
theorem f_Mo_goes_52 : fetch 63 52 = some (.iload 5, 2, 0, 0, 0) := rfl
theorem f_Mo_goes_54 : fetch 63 54 = some (.iload_n 1, 1, 0, 0, 0) := rfl
theorem f_Mo_goes_55 : fetch 63 55 = some (.invokevirtual 226, 3, 59, 2, 71) := rfl
theorem f_Mo_goes_58 : fetch 63 58 = some (.aload_n 0, 1, 0, 0, 0) := rfl
theorem f_Mo_goes_59 : fetch 63 59 = some (.iload 5, 2, 0, 0, 0) := rfl
theorem f_Mo_goes_61 : fetch 63 61 = some (.iload_n 2, 1, 0, 0, 0) := rfl
theorem f_Mo_goes_62 : fetch 63 62 = some (.invokevirtual 226, 3, 59, 2, 71) := rfl
theorem f_Mo_goes_65 : fetch 63 65 = some (.if_icmp .ne 7, 3, 72, 0, 0) := rfl
theorem f_Mo_goes_68 : fetch 63 68 = some (.iconst 1, 1, 0, 0, 0) := rfl
theorem f_Mo_goes_69 : fetch 63 69 = some (.goto 4, 3, 73, 0, 0) := rfl
theorem f_Mo_goes_72 : fetch 63 72 = some (.iconst 0, 1, 0, 0, 0) := rfl
theorem f_Mo_goes_73 : fetch 63 73 = some (.istore 6, 2, 0, 0, 0) := rfl
theorem f_Mo_goes_75 : fetch 63 75 = some (.iload_n 3, 1, 0, 0, 0) := rfl
theorem f_Mo_goes_76 : fetch 63 76 = some (.ifCond .eq 12, 3, 88, 0, 0) := rfl
theorem f_Mo_goes_79 : fetch 63 79 = some (.iload 6, 2, 0, 0, 0) := rfl
theorem f_Mo_goes_81 : fetch 63 81 = some (.ifCond .eq 7, 3, 88, 0, 0) := rfl
theorem f_Mo_goes_84 : fetch 63 84 = some (.iconst 1, 1, 0, 0, 0) := rfl
theorem f_Mo_goes_85 : fetch 63 85 = some (.goto 4, 3, 89, 0, 0) := rfl
theorem f_Mo_goes_88 : fetch 63 88 = some (.iconst 0, 1, 0, 0, 0) := rfl
theorem f_Mo_goes_89 : fetch 63 89 = some (.istore_n 3, 1, 0, 0, 0) := rfl
theorem f_Mo_goes_90 : fetch 63 90 = some (.iload 4, 2, 0, 0, 0) := rfl
theorem f_Mo_goes_92 : fetch 63 92 = some (.ifCond .eq 43, 3, 135, 0, 0) := rfl
theorem f_Mo_goes_95 : fetch 63 95 = some (.iload 6, 2, 0, 0, 0) := rfl
theorem f_Mo_goes_97 : fetch 63 97 = some (.ifCond .ne 34, 3, 131, 0, 0) := rfl
theorem f_Mo_goes_100 : fetch 63 100 = some (.iload_n 2, 1, 0, 0, 0) := rfl
theorem f_Mo_goes_101 : fetch 63 101 = some (.aload_n 0, 1, 0, 0, 0) := rfl
theorem f_Mo_goes_102 : fetch 63 102 = some (.getfield 37, 3, 8, 14, 36) := rfl
theorem f_Mo_goes_105 : fetch 63 105 = some (.iload 5, 2, 0, 0, 0) := rfl
theorem f_Mo_goes_107 : fetch 63 107 = some (.iaload, 1, 0, 0, 0) := rfl
theorem f_Mo_goes_108 : fetch 63 108 = some (.if_icmp .ne 27, 3, 135, 0, 0) := rfl
theorem f_Mo_goes_111 : fetch 63 111 = some (.aload_n 0, 1, 0, 0, 0) := rfl
theorem f_Mo_goes_112 : fetch 63 112 = some (.iload 5, 2, 0, 0, 0) := rfl
theorem f_Mo_goes_114 : fetch 63 114 = some (.iload_n 1, 1, 0, 0, 0) := rfl
theorem f_Mo_goes_115 : fetch 63 115 = some (.invokevirtual 203, 3, 44, 2, 53) := rfl
theorem f_Mo_goes_118 : fetch 63 118 = some (.ifCond .ne 17, 3, 135, 0, 0) := rfl
theorem f_Mo_goes_121 : fetch 63 121 = some (.aload_n 0, 1, 0, 0, 0) := rfl
theorem f_Mo_goes_122 : fetch 63 122 = some (.iload 5, 2, 0, 0, 0) := rfl
theorem f_Mo_goes_124 : fetch 63 124 = some (.iload_n 1, 1, 0, 0, 0) := rfl
theorem f_Mo_goes_125 : fetch 63 125 = some (.invokevirtual 226, 3, 59, 2, 71) := rfl
theorem f_Mo_goes_128 : fetch 63 128 = some (.ifCond .ne 7, 3, 135, 0, 0) := rfl
theorem f_Mo_goes_131 : fetch 63 131 = some (.iconst 1, 1, 0, 0, 0) := rfl
theorem f_Mo_goes_132 : fetch 63 132 = some (.goto 4, 3, 136, 0, 0) := rfl
theorem f_Mo_goes_135 : fetch 63 135 = some (.iconst 0, 1, 0, 0, 0) := rfl
theorem f_Mo_goes_136 : fetch 63 136 = some (.istore 4, 2, 0, 0, 0) := rfl
theorem f_Mo_goes_138 : fetch 63 138 = some (.iinc 5 1, 3, 0, 0, 0) := rfl
theorem f_Mo_goes_141 : fetch 63 141 = some (.goto (-128), 3, 13, 0, 0) := rfl
theorem f_Mo_goes_144 : fetch 63 144 = some (.aload_n 0, 1, 0, 0, 0) := rfl
theorem f_Mo_goes_145 : fetch 63 145 = some (.aload_n 0, 1, 0, 0, 0) := rfl
theorem f_Mo_goes_146 : fetch 63 146 = some (.getfield 181, 3, 8, 27, 66) := rfl
theorem f_Mo_goes_149 : fetch 63 149 = some (.ifCond .eq 23, 3, 172, 0, 0) := rfl
theorem f_Mo_goes_152 : fetch 63 152 = some (.iload_n 3, 1, 0, 0, 0) := rfl
theorem f_Mo_goes_153 : fetch 63 153 = some (.ifCond .ne 15, 3, 168, 0, 0) := rfl
theorem f_Mo_goes_156 : fetch 63 156 = some (.iload 4, 2, 0, 0, 0) := rfl
theorem f_Mo_goes_158 : fetch 63 158 = some (.ifCond .eq 14, 3, 172, 0, 0) := rfl
theorem f_Mo_goes_161 : fetch 63 161 = some (.aload_n 0, 1, 0, 0, 0) := rfl
theorem f_Mo_goes_162 : fetch 63 162 = some (.getfield 191, 3, 8, 25, 67) := rfl
theorem f_Mo_goes_165 : fetch 63 165 = some (.ifCond .ne 7, 3, 172, 0, 0) := rfl
theorem f_Mo_goes_168 : fetch 63 168 = some (.iconst 1, 1, 0, 0, 0) := rfl
theorem f_Mo_goes_169 : fetch 63 169 = some (.goto 4, 3, 173, 0, 0) := rfl
theorem f_Mo_goes_172 : fetch 63 172 = some (.iconst 0, 1, 0, 0, 0) := rfl
theorem f_Mo_goes_173 : fetch 63 173 = some (.putfield 181, 3, 8, 27, 66) := rfl
theorem f_Mo_goes_176 : fetch 63 176 = some (.aload_n 0, 1, 0, 0, 0) := rfl
theorem f_Mo_goes_177 : fetch 63 177 = some (.getfield 181, 3, 8, 27, 66) := rfl
theorem f_Mo_goes_180 : fetch 63 180 = some (.ifCond .eq 16, 3, 196, 0, 0) := rfl
theorem f_Mo_goes_183 : fetch 63 183 = some (.aload_n 0, 1, 0, 0, 0) := rfl
theorem f_Mo_goes_184 : fetch 63 184 = some (.iload_n 2, 1, 0, 0, 0) := rfl
theorem f_Mo_goes_185 : fetch 63 185 = some (.aload_n 0, 1, 0, 0, 0) := rfl
theorem f_Mo_goes_186 : fetch 63 186 = some (.getfield 191, 3, 8, 25, 67) := rfl
theorem f_Mo_goes_189 : fetch 63 189 = some (.aload_n 0, 1, 0, 0, 0) := rfl
theorem f_Mo_goes_190 : fetch 63 190 = some (.getfield 194, 3, 8, 26, 68) := rfl
theorem f_Mo_goes_193 : fetch 63 193 = some (.invokevirtual 184, 3, 42, 3, 48) := rfl
theorem f_Mo_goes_196 : fetch 63 196 = some (.return_, 1, 0, 0, 0) := rfl
def F_Mo_goes_196   (σ : SG) : Option (SG) :=
  some σ
set_option maxHeartbeats 4000000 in
theorem w_Mo_goes_196 {b d : Nat} {sc : SC} {pre tl : List PE} {B : Nat} {Q : Option Value → List PE → Prop} {res : SG} (hB : B = b + pre.length) (hd : 2 ≤ d)   (hQ : Q none (HH pre tl SHm B res)) (lv : LV) (σ : SG)   (hF : F_Mo_goes_196   σ = some res) : Rn b sc d 63 196 lv [] (HH pre tl SHm B σ) Q := by
  obtain ⟨e0, rfl⟩ : ∃ e, d = e + 1 := ⟨d - 1, by omega⟩
  unfold F_Mo_goes_196 at hF
  cases hF
  exact r_return f_Mo_goes_196 hQ
def F_Mo_goes_173  (x0 : Nat) (x2 : Int32) (y0 : Nat) (y1 : Bool) (σ : SG) : Option (SG) :=
  stl (setI σ (y0) 27 (bz (y1))) fun s1 =>
  if (zb (s1.1 (x0) 27)) = true then
  match F_Mo_meet (x0) (x2) ((s1.1 (x0) 25)) ((s1.2.1 (x0) 26)) s1 with
  | none => none
  | some q3 =>
  F_Mo_goes_196 q3
  else F_Mo_goes_196 s1
set_option maxHeartbeats 4000000 in
theorem w_Mo_goes_173 {b d : Nat} {sc : SC} {pre tl : List PE} {B : Nat} {Q : Option Value → List PE → Prop} {res : SG} (hB : B = b + pre.length) (hd : 2 ≤ d)   (hQ : Q none (HH pre tl SHm B res)) (lv : LV) (σ : SG) (x0 : Nat) (x2 : Int32) (y0 : Nat) (y1 : Bool) (hx0 : isC SHm (x0) 8 = true) (hy0 : isC SHm (y0) 8 = true) (l0 : lv.lookup 0 = some (.ref (B + (x0)))) (l2 : lv.lookup 2 = some (.int (x2))) (hF : F_Mo_goes_173  x0 x2 y0 y1 σ = some res) : Rn b sc d 63 173 lv [.int (bz (y1)), .ref (B + (y0))] (HH pre tl SHm B σ) Q := by
  obtain ⟨e0, rfl⟩ : ∃ e, d = e + 1 := ⟨d - 1, by omega⟩
  unfold F_Mo_goes_173 at hF
  refine t_putz (v := y1) hB hy0 f_Mo_goes_173 rfl rfl ?_
  generalize hs1 : setI σ (y0) 27 (bz (y1)) = s1 at hF ⊢
  rw [stl_eq] at hF
  refine r_aload_n f_Mo_goes_176 l0 ?_
  refine t_getz hB hx0 f_Mo_goes_177 rfl ?_
  refine r_if_eq f_Mo_goes_180 (fun c2 => ?_) (fun c2 => ?_)
  · rw [if_neg (bz_nt c2)] at hF
    exact w_Mo_goes_196 hB hd  hQ _ (s1) hF
  · rw [if_pos (bz_t c2)] at hF
    refine r_aload_n f_Mo_goes_183 l0 ?_
    refine r_iload_n f_Mo_goes_184 l2 ?_
    refine r_aload_n f_Mo_goes_185 l0 ?_
    refine t_geti hB hx0 f_Mo_goes_186 rfl ?_
    refine r_aload_n f_Mo_goes_189 l0 ?_
    refine t_getj hB hx0 f_Mo_goes_190 rfl ?_
    cases hq3 : F_Mo_meet (x0) (x2) ((s1.1 (x0) 25)) ((s1.2.1 (x0) 26)) s1 with
    | none => simp only [hq3] at hF; cases hF
    | some q3 =>
      simp only [hq3] at hF
      refine t_V3v hB hx0 rfl rfl f_Mo_goes_193 (by decide) (Nat.le_of_ble_eq_true rfl) (Nat.le_of_ble_eq_true rfl) (w_Mo_meet hB (by omega) (x0) (x2) ((s1.1 (x0) 25)) ((s1.2.1 (x0) 26)) hx0 hq3 ⟨rfl, ?_⟩)
      exact w_Mo_goes_196 hB hd  hQ _ (q3) hF
def F_Mo_goes_172  (x0 : Nat) (x2 : Int32) (y0 : Nat) (σ : SG) : Option (SG) :=
  F_Mo_goes_173 (x0) (x2) (y0) (false) σ
set_option maxHeartbeats 4000000 in
theorem w_Mo_goes_172 {b d : Nat} {sc : SC} {pre tl : List PE} {B : Nat} {Q : Option Value → List PE → Prop} {res : SG} (hB : B = b + pre.length) (hd : 2 ≤ d)   (hQ : Q none (HH pre tl SHm B res)) (lv : LV) (σ : SG) (x0 : Nat) (x2 : Int32) (y0 : Nat) (hx0 : isC SHm (x0) 8 = true) (hy0 : isC SHm (y0) 8 = true) (l0 : lv.lookup 0 = some (.ref (B + (x0)))) (l2 : lv.lookup 2 = some (.int (x2))) (hF : F_Mo_goes_172  x0 x2 y0 σ = some res) : Rn b sc d 63 172 lv [.ref (B + (y0))] (HH pre tl SHm B σ) Q := by
  obtain ⟨e0, rfl⟩ : ∃ e, d = e + 1 := ⟨d - 1, by omega⟩
  unfold F_Mo_goes_172 at hF
  refine r_iconst f_Mo_goes_172 (v := 0) (by decide) ?_
  exact w_Mo_goes_173 hB hd  hQ _ (σ) (x0) (x2) (y0) (false) hx0 hy0 l0 l2 hF
def F_Mo_goes_168  (x0 : Nat) (x2 : Int32) (y0 : Nat) (σ : SG) : Option (SG) :=
  F_Mo_goes_173 (x0) (x2) (y0) (true) σ
set_option maxHeartbeats 4000000 in
theorem w_Mo_goes_168 {b d : Nat} {sc : SC} {pre tl : List PE} {B : Nat} {Q : Option Value → List PE → Prop} {res : SG} (hB : B = b + pre.length) (hd : 2 ≤ d)   (hQ : Q none (HH pre tl SHm B res)) (lv : LV) (σ : SG) (x0 : Nat) (x2 : Int32) (y0 : Nat) (hx0 : isC SHm (x0) 8 = true) (hy0 : isC SHm (y0) 8 = true) (l0 : lv.lookup 0 = some (.ref (B + (x0)))) (l2 : lv.lookup 2 = some (.int (x2))) (hF : F_Mo_goes_168  x0 x2 y0 σ = some res) : Rn b sc d 63 168 lv [.ref (B + (y0))] (HH pre tl SHm B σ) Q := by
  obtain ⟨e0, rfl⟩ : ∃ e, d = e + 1 := ⟨d - 1, by omega⟩
  unfold F_Mo_goes_168 at hF
  refine r_iconst f_Mo_goes_168 (v := 1) (by decide) ?_
  refine r_goto f_Mo_goes_169 ?_
  exact w_Mo_goes_173 hB hd  hQ _ (σ) (x0) (x2) (y0) (true) hx0 hy0 l0 l2 hF
def F_Mo_goes_136 (rec13 : Nat → Int32 → Int32 → Bool → Bool → Int32 → SG → Option (SG)) (x0 : Nat) (x1 : Int32) (x2 : Int32) (x3 : Bool) (x5 : Int32) (y0 : Bool) (σ : SG) : Option (SG) :=
  rec13 (x0) (x1) (x2) (x3) (y0) ((x5 + 1)) σ
set_option maxHeartbeats 4000000 in
theorem w_Mo_goes_136 {b d : Nat} {sc : SC} {pre tl : List PE} {B : Nat} {Q : Option Value → List PE → Prop} {res : SG} (hB : B = b + pre.length) (hd : 2 ≤ d) {rec13 : Nat → Int32 → Int32 → Bool → Bool → Int32 → SG → Option (SG)} (hr13 : ∀ (lv : LV) (σ : SG) (x0 : Nat) (x1 : Int32) (x2 : Int32) (x3 : Bool) (x4 : Bool) (x5 : Int32), isC SHm (x0) 8 = true → lv.lookup 0 = some (.ref (B + (x0))) → lv.lookup 1 = some (.int (x1)) → lv.lookup 2 = some (.int (x2)) → lv.lookup 3 = some (.int (bz (x3))) → lv.lookup 4 = some (.int (bz (x4))) → lv.lookup 5 = some (.int (x5)) →  rec13 x0 x1 x2 x3 x4 x5 σ = some res → Rn b sc d 63 13 lv [] (HH pre tl SHm B σ) Q) (hQ : Q none (HH pre tl SHm B res)) (lv : LV) (σ : SG) (x0 : Nat) (x1 : Int32) (x2 : Int32) (x3 : Bool) (x5 : Int32) (y0 : Bool) (hx0 : isC SHm (x0) 8 = true) (l0 : lv.lookup 0 = some (.ref (B + (x0)))) (l1 : lv.lookup 1 = some (.int (x1))) (l2 : lv.lookup 2 = some (.int (x2))) (l3 : lv.lookup 3 = some (.int (bz (x3)))) (l5 : lv.lookup 5 = some (.int (x5))) (hF : F_Mo_goes_136 rec13 x0 x1 x2 x3 x5 y0 σ = some res) : Rn b sc d 63 136 lv [.int (bz (y0))] (HH pre tl SHm B σ) Q := by
  obtain ⟨e0, rfl⟩ : ∃ e, d = e + 1 := ⟨d - 1, by omega⟩
  unfold F_Mo_goes_136 at hF
  refine r_istore f_Mo_goes_136 ?_
  refine r_iinc f_Mo_goes_138 (lk_put_ne l5 (by decide) (Or.inl rfl)) (w := x5 + 1) rfl ?_
  refine r_goto f_Mo_goes_141 ?_
  exact hr13 _ (σ) (x0) (x1) (x2) (x3) (y0) ((x5 + 1)) hx0 (lk_put_ne (lk_put_ne l0 (by decide) (Or.inl rfl)) (by decide) (Or.inl rfl)) (lk_put_ne (lk_put_ne l1 (by decide) (Or.inl rfl)) (by decide) (Or.inl rfl)) (lk_put_ne (lk_put_ne l2 (by decide) (Or.inl rfl)) (by decide) (Or.inl rfl)) (lk_put_ne (lk_put_ne l3 (by decide) (Or.inl rfl)) (by decide) (Or.inl rfl)) (lk_put_ne lk_put (by decide) (Or.inl rfl)) lk_put hF
def F_Mo_goes_135 (rec13 : Nat → Int32 → Int32 → Bool → Bool → Int32 → SG → Option (SG)) (x0 : Nat) (x1 : Int32) (x2 : Int32) (x3 : Bool) (x5 : Int32) (σ : SG) : Option (SG) :=
  F_Mo_goes_136 (rec13) (x0) (x1) (x2) (x3) (x5) (false) σ
set_option maxHeartbeats 4000000 in
theorem w_Mo_goes_135 {b d : Nat} {sc : SC} {pre tl : List PE} {B : Nat} {Q : Option Value → List PE → Prop} {res : SG} (hB : B = b + pre.length) (hd : 2 ≤ d) {rec13 : Nat → Int32 → Int32 → Bool → Bool → Int32 → SG → Option (SG)} (hr13 : ∀ (lv : LV) (σ : SG) (x0 : Nat) (x1 : Int32) (x2 : Int32) (x3 : Bool) (x4 : Bool) (x5 : Int32), isC SHm (x0) 8 = true → lv.lookup 0 = some (.ref (B + (x0))) → lv.lookup 1 = some (.int (x1)) → lv.lookup 2 = some (.int (x2)) → lv.lookup 3 = some (.int (bz (x3))) → lv.lookup 4 = some (.int (bz (x4))) → lv.lookup 5 = some (.int (x5)) →  rec13 x0 x1 x2 x3 x4 x5 σ = some res → Rn b sc d 63 13 lv [] (HH pre tl SHm B σ) Q) (hQ : Q none (HH pre tl SHm B res)) (lv : LV) (σ : SG) (x0 : Nat) (x1 : Int32) (x2 : Int32) (x3 : Bool) (x5 : Int32) (hx0 : isC SHm (x0) 8 = true) (l0 : lv.lookup 0 = some (.ref (B + (x0)))) (l1 : lv.lookup 1 = some (.int (x1))) (l2 : lv.lookup 2 = some (.int (x2))) (l3 : lv.lookup 3 = some (.int (bz (x3)))) (l5 : lv.lookup 5 = some (.int (x5))) (hF : F_Mo_goes_135 rec13 x0 x1 x2 x3 x5 σ = some res) : Rn b sc d 63 135 lv [] (HH pre tl SHm B σ) Q := by
  obtain ⟨e0, rfl⟩ : ∃ e, d = e + 1 := ⟨d - 1, by omega⟩
  unfold F_Mo_goes_135 at hF
  refine r_iconst f_Mo_goes_135 (v := 0) (by decide) ?_
  exact w_Mo_goes_136 hB hd (hr13) hQ _ (σ) (x0) (x1) (x2) (x3) (x5) (false) hx0 l0 l1 l2 l3 l5 hF
def F_Mo_goes_131 (rec13 : Nat → Int32 → Int32 → Bool → Bool → Int32 → SG → Option (SG)) (x0 : Nat) (x1 : Int32) (x2 : Int32) (x3 : Bool) (x5 : Int32) (σ : SG) : Option (SG) :=
  F_Mo_goes_136 (rec13) (x0) (x1) (x2) (x3) (x5) (true) σ
set_option maxHeartbeats 4000000 in
theorem w_Mo_goes_131 {b d : Nat} {sc : SC} {pre tl : List PE} {B : Nat} {Q : Option Value → List PE → Prop} {res : SG} (hB : B = b + pre.length) (hd : 2 ≤ d) {rec13 : Nat → Int32 → Int32 → Bool → Bool → Int32 → SG → Option (SG)} (hr13 : ∀ (lv : LV) (σ : SG) (x0 : Nat) (x1 : Int32) (x2 : Int32) (x3 : Bool) (x4 : Bool) (x5 : Int32), isC SHm (x0) 8 = true → lv.lookup 0 = some (.ref (B + (x0))) → lv.lookup 1 = some (.int (x1)) → lv.lookup 2 = some (.int (x2)) → lv.lookup 3 = some (.int (bz (x3))) → lv.lookup 4 = some (.int (bz (x4))) → lv.lookup 5 = some (.int (x5)) →  rec13 x0 x1 x2 x3 x4 x5 σ = some res → Rn b sc d 63 13 lv [] (HH pre tl SHm B σ) Q) (hQ : Q none (HH pre tl SHm B res)) (lv : LV) (σ : SG) (x0 : Nat) (x1 : Int32) (x2 : Int32) (x3 : Bool) (x5 : Int32) (hx0 : isC SHm (x0) 8 = true) (l0 : lv.lookup 0 = some (.ref (B + (x0)))) (l1 : lv.lookup 1 = some (.int (x1))) (l2 : lv.lookup 2 = some (.int (x2))) (l3 : lv.lookup 3 = some (.int (bz (x3)))) (l5 : lv.lookup 5 = some (.int (x5))) (hF : F_Mo_goes_131 rec13 x0 x1 x2 x3 x5 σ = some res) : Rn b sc d 63 131 lv [] (HH pre tl SHm B σ) Q := by
  obtain ⟨e0, rfl⟩ : ∃ e, d = e + 1 := ⟨d - 1, by omega⟩
  unfold F_Mo_goes_131 at hF
  refine r_iconst f_Mo_goes_131 (v := 1) (by decide) ?_
  refine r_goto f_Mo_goes_132 ?_
  exact w_Mo_goes_136 hB hd (hr13) hQ _ (σ) (x0) (x1) (x2) (x3) (x5) (true) hx0 l0 l1 l2 l3 l5 hF
def F_Mo_goes_89 (rec13 : Nat → Int32 → Int32 → Bool → Bool → Int32 → SG → Option (SG)) (x0 : Nat) (x1 : Int32) (x2 : Int32) (x4 : Bool) (x5 : Int32) (x6 : Bool) (y0 : Bool) (σ : SG) : Option (SG) :=
  if x4 = true then
  if x6 = true then
  F_Mo_goes_131 (rec13) (x0) (x1) (x2) (y0) (x5) σ
  else if x5 < 0 ∨ 18 ≤ (x5).toNatClampNeg then none else
  if x2 = (σ.2.2.2.1 ((cref SHm (x0) 14)) ((x5).toNatClampNeg)) then
  match F_Mo_inPart (x0) (x5) (x1) σ with
  | none => none
  | some q8 =>
  if q8.1 = true then
  F_Mo_goes_135 (rec13) (x0) (x1) (x2) (y0) (x5) q8.2
  else match F_Mo_inHandler (x0) (x5) (x1) q8.2 with
  | none => none
  | some q10 =>
  if q10.1 = true then
  F_Mo_goes_135 (rec13) (x0) (x1) (x2) (y0) (x5) q10.2
  else F_Mo_goes_131 (rec13) (x0) (x1) (x2) (y0) (x5) q10.2
  else F_Mo_goes_135 (rec13) (x0) (x1) (x2) (y0) (x5) σ
  else F_Mo_goes_135 (rec13) (x0) (x1) (x2) (y0) (x5) σ
set_option maxHeartbeats 4000000 in
theorem w_Mo_goes_89 {b d : Nat} {sc : SC} {pre tl : List PE} {B : Nat} {Q : Option Value → List PE → Prop} {res : SG} (hB : B = b + pre.length) (hd : 2 ≤ d) {rec13 : Nat → Int32 → Int32 → Bool → Bool → Int32 → SG → Option (SG)} (hr13 : ∀ (lv : LV) (σ : SG) (x0 : Nat) (x1 : Int32) (x2 : Int32) (x3 : Bool) (x4 : Bool) (x5 : Int32), isC SHm (x0) 8 = true → lv.lookup 0 = some (.ref (B + (x0))) → lv.lookup 1 = some (.int (x1)) → lv.lookup 2 = some (.int (x2)) → lv.lookup 3 = some (.int (bz (x3))) → lv.lookup 4 = some (.int (bz (x4))) → lv.lookup 5 = some (.int (x5)) →  rec13 x0 x1 x2 x3 x4 x5 σ = some res → Rn b sc d 63 13 lv [] (HH pre tl SHm B σ) Q) (hQ : Q none (HH pre tl SHm B res)) (lv : LV) (σ : SG) (x0 : Nat) (x1 : Int32) (x2 : Int32) (x4 : Bool) (x5 : Int32) (x6 : Bool) (y0 : Bool) (hx0 : isC SHm (x0) 8 = true) (l0 : lv.lookup 0 = some (.ref (B + (x0)))) (l1 : lv.lookup 1 = some (.int (x1))) (l2 : lv.lookup 2 = some (.int (x2))) (l4 : lv.lookup 4 = some (.int (bz (x4)))) (l5 : lv.lookup 5 = some (.int (x5))) (l6 : lv.lookup 6 = some (.int (bz (x6)))) (hF : F_Mo_goes_89 rec13 x0 x1 x2 x4 x5 x6 y0 σ = some res) : Rn b sc d 63 89 lv [.int (bz (y0))] (HH pre tl SHm B σ) Q := by
  obtain ⟨e0, rfl⟩ : ∃ e, d = e + 1 := ⟨d - 1, by omega⟩
  unfold F_Mo_goes_89 at hF
  refine r_istore_n f_Mo_goes_89 ?_
  refine r_iload f_Mo_goes_90 (lk_put_ne l4 (by decide) (Or.inl rfl)) ?_
  refine r_if_eq f_Mo_goes_92 (fun c4 => ?_) (fun c4 => ?_)
  · rw [if_neg (bz_nt c4)] at hF
    exact w_Mo_goes_135 hB hd (hr13) hQ _ (σ) (x0) (x1) (x2) (y0) (x5) hx0 (lk_put_ne l0 (by decide) (Or.inl rfl)) (lk_put_ne l1 (by decide) (Or.inl rfl)) (lk_put_ne l2 (by decide) (Or.inl rfl)) lk_put (lk_put_ne l5 (by decide) (Or.inl rfl)) hF
  · rw [if_pos (bz_t c4)] at hF
    refine r_iload f_Mo_goes_95 (lk_put_ne l6 (by decide) (Or.inl rfl)) ?_
    refine r_if_ne f_Mo_goes_97 (fun c5 => ?_) (fun c5 => ?_)
    · rw [if_pos (bz_t c5)] at hF
      exact w_Mo_goes_131 hB hd (hr13) hQ _ (σ) (x0) (x1) (x2) (y0) (x5) hx0 (lk_put_ne l0 (by decide) (Or.inl rfl)) (lk_put_ne l1 (by decide) (Or.inl rfl)) (lk_put_ne l2 (by decide) (Or.inl rfl)) lk_put (lk_put_ne l5 (by decide) (Or.inl rfl)) hF
    · rw [if_neg (bz_nt (Decidable.not_not.mp c5))] at hF
      refine r_iload_n f_Mo_goes_100 (lk_put_ne l2 (by decide) (Or.inl rfl)) ?_
      refine r_aload_n f_Mo_goes_101 (lk_put_ne l0 (by decide) (Or.inl rfl)) ?_
      refine t_getc hB hx0 f_Mo_goes_102 rfl ?_
      refine r_iload f_Mo_goes_105 (lk_put_ne l5 (by decide) (Or.inl rfl)) ?_
      by_cases c6 : x5 < 0 ∨ 18 ≤ (x5).toNatClampNeg
      · rw [if_pos c6] at hF; cases hF
      rw [if_neg c6] at hF
      refine t_iald hB (cc_8_14 hx0) f_Mo_goes_107 c6 ?_
      refine r_icmp_ne f_Mo_goes_108 (fun c7 => ?_) (fun c7 => ?_)
      · rw [if_neg c7] at hF
        exact w_Mo_goes_135 hB hd (hr13) hQ _ (σ) (x0) (x1) (x2) (y0) (x5) hx0 (lk_put_ne l0 (by decide) (Or.inl rfl)) (lk_put_ne l1 (by decide) (Or.inl rfl)) (lk_put_ne l2 (by decide) (Or.inl rfl)) lk_put (lk_put_ne l5 (by decide) (Or.inl rfl)) hF
      · rw [if_pos (Decidable.not_not.mp c7)] at hF
        refine r_aload_n f_Mo_goes_111 (lk_put_ne l0 (by decide) (Or.inl rfl)) ?_
        refine r_iload f_Mo_goes_112 (lk_put_ne l5 (by decide) (Or.inl rfl)) ?_
        refine r_iload_n f_Mo_goes_114 (lk_put_ne l1 (by decide) (Or.inl rfl)) ?_
        cases hq8 : F_Mo_inPart (x0) (x5) (x1) σ with
        | none => simp only [hq8] at hF; cases hF
        | some q8 =>
          simp only [hq8] at hF
          refine t_V2i hB hx0 rfl rfl f_Mo_goes_115 (by decide) (Nat.le_of_ble_eq_true rfl) (Nat.le_of_ble_eq_true rfl) (w_Mo_inPart hB  (x0) (x5) (x1) hx0 hq8 ⟨_, rfl, ?_⟩)
          refine r_if_ne f_Mo_goes_118 (fun c9 => ?_) (fun c9 => ?_)
          · rw [if_pos (bz_t c9)] at hF
            exact w_Mo_goes_135 hB hd (hr13) hQ _ (q8.2) (x0) (x1) (x2) (y0) (x5) hx0 (lk_put_ne l0 (by decide) (Or.inl rfl)) (lk_put_ne l1 (by decide) (Or.inl rfl)) (lk_put_ne l2 (by decide) (Or.inl rfl)) lk_put (lk_put_ne l5 (by decide) (Or.inl rfl)) hF
          · rw [if_neg (bz_nt (Decidable.not_not.mp c9))] at hF
            refine r_aload_n f_Mo_goes_121 (lk_put_ne l0 (by decide) (Or.inl rfl)) ?_
            refine r_iload f_Mo_goes_122 (lk_put_ne l5 (by decide) (Or.inl rfl)) ?_
            refine r_iload_n f_Mo_goes_124 (lk_put_ne l1 (by decide) (Or.inl rfl)) ?_
            cases hq10 : F_Mo_inHandler (x0) (x5) (x1) q8.2 with
            | none => simp only [hq10] at hF; cases hF
            | some q10 =>
              simp only [hq10] at hF
              refine t_V2i hB hx0 rfl rfl f_Mo_goes_125 (by decide) (Nat.le_of_ble_eq_true rfl) (Nat.le_of_ble_eq_true rfl) (w_Mo_inHandler hB  (x0) (x5) (x1) hx0 hq10 ⟨_, rfl, ?_⟩)
              refine r_if_ne f_Mo_goes_128 (fun c11 => ?_) (fun c11 => ?_)
              · rw [if_pos (bz_t c11)] at hF
                exact w_Mo_goes_135 hB hd (hr13) hQ _ (q10.2) (x0) (x1) (x2) (y0) (x5) hx0 (lk_put_ne l0 (by decide) (Or.inl rfl)) (lk_put_ne l1 (by decide) (Or.inl rfl)) (lk_put_ne l2 (by decide) (Or.inl rfl)) lk_put (lk_put_ne l5 (by decide) (Or.inl rfl)) hF
              · rw [if_neg (bz_nt (Decidable.not_not.mp c11))] at hF
                exact w_Mo_goes_131 hB hd (hr13) hQ _ (q10.2) (x0) (x1) (x2) (y0) (x5) hx0 (lk_put_ne l0 (by decide) (Or.inl rfl)) (lk_put_ne l1 (by decide) (Or.inl rfl)) (lk_put_ne l2 (by decide) (Or.inl rfl)) lk_put (lk_put_ne l5 (by decide) (Or.inl rfl)) hF
def F_Mo_goes_88 (rec13 : Nat → Int32 → Int32 → Bool → Bool → Int32 → SG → Option (SG)) (x0 : Nat) (x1 : Int32) (x2 : Int32) (x4 : Bool) (x5 : Int32) (x6 : Bool) (σ : SG) : Option (SG) :=
  F_Mo_goes_89 (rec13) (x0) (x1) (x2) (x4) (x5) (x6) (false) σ
set_option maxHeartbeats 4000000 in
theorem w_Mo_goes_88 {b d : Nat} {sc : SC} {pre tl : List PE} {B : Nat} {Q : Option Value → List PE → Prop} {res : SG} (hB : B = b + pre.length) (hd : 2 ≤ d) {rec13 : Nat → Int32 → Int32 → Bool → Bool → Int32 → SG → Option (SG)} (hr13 : ∀ (lv : LV) (σ : SG) (x0 : Nat) (x1 : Int32) (x2 : Int32) (x3 : Bool) (x4 : Bool) (x5 : Int32), isC SHm (x0) 8 = true → lv.lookup 0 = some (.ref (B + (x0))) → lv.lookup 1 = some (.int (x1)) → lv.lookup 2 = some (.int (x2)) → lv.lookup 3 = some (.int (bz (x3))) → lv.lookup 4 = some (.int (bz (x4))) → lv.lookup 5 = some (.int (x5)) →  rec13 x0 x1 x2 x3 x4 x5 σ = some res → Rn b sc d 63 13 lv [] (HH pre tl SHm B σ) Q) (hQ : Q none (HH pre tl SHm B res)) (lv : LV) (σ : SG) (x0 : Nat) (x1 : Int32) (x2 : Int32) (x4 : Bool) (x5 : Int32) (x6 : Bool) (hx0 : isC SHm (x0) 8 = true) (l0 : lv.lookup 0 = some (.ref (B + (x0)))) (l1 : lv.lookup 1 = some (.int (x1))) (l2 : lv.lookup 2 = some (.int (x2))) (l4 : lv.lookup 4 = some (.int (bz (x4)))) (l5 : lv.lookup 5 = some (.int (x5))) (l6 : lv.lookup 6 = some (.int (bz (x6)))) (hF : F_Mo_goes_88 rec13 x0 x1 x2 x4 x5 x6 σ = some res) : Rn b sc d 63 88 lv [] (HH pre tl SHm B σ) Q := by
  obtain ⟨e0, rfl⟩ : ∃ e, d = e + 1 := ⟨d - 1, by omega⟩
  unfold F_Mo_goes_88 at hF
  refine r_iconst f_Mo_goes_88 (v := 0) (by decide) ?_
  exact w_Mo_goes_89 hB hd (hr13) hQ _ (σ) (x0) (x1) (x2) (x4) (x5) (x6) (false) hx0 l0 l1 l2 l4 l5 l6 hF
def F_Mo_goes_73 (rec13 : Nat → Int32 → Int32 → Bool → Bool → Int32 → SG → Option (SG)) (x0 : Nat) (x1 : Int32) (x2 : Int32) (x3 : Bool) (x4 : Bool) (x5 : Int32) (y0 : Bool) (σ : SG) : Option (SG) :=
  if x3 = true then
  if y0 = true then
  F_Mo_goes_89 (rec13) (x0) (x1) (x2) (x4) (x5) (y0) (true) σ
  else F_Mo_goes_88 (rec13) (x0) (x1) (x2) (x4) (x5) (y0) σ
  else F_Mo_goes_88 (rec13) (x0) (x1) (x2) (x4) (x5) (y0) σ
set_option maxHeartbeats 4000000 in
theorem w_Mo_goes_73 {b d : Nat} {sc : SC} {pre tl : List PE} {B : Nat} {Q : Option Value → List PE → Prop} {res : SG} (hB : B = b + pre.length) (hd : 2 ≤ d) {rec13 : Nat → Int32 → Int32 → Bool → Bool → Int32 → SG → Option (SG)} (hr13 : ∀ (lv : LV) (σ : SG) (x0 : Nat) (x1 : Int32) (x2 : Int32) (x3 : Bool) (x4 : Bool) (x5 : Int32), isC SHm (x0) 8 = true → lv.lookup 0 = some (.ref (B + (x0))) → lv.lookup 1 = some (.int (x1)) → lv.lookup 2 = some (.int (x2)) → lv.lookup 3 = some (.int (bz (x3))) → lv.lookup 4 = some (.int (bz (x4))) → lv.lookup 5 = some (.int (x5)) →  rec13 x0 x1 x2 x3 x4 x5 σ = some res → Rn b sc d 63 13 lv [] (HH pre tl SHm B σ) Q) (hQ : Q none (HH pre tl SHm B res)) (lv : LV) (σ : SG) (x0 : Nat) (x1 : Int32) (x2 : Int32) (x3 : Bool) (x4 : Bool) (x5 : Int32) (y0 : Bool) (hx0 : isC SHm (x0) 8 = true) (l0 : lv.lookup 0 = some (.ref (B + (x0)))) (l1 : lv.lookup 1 = some (.int (x1))) (l2 : lv.lookup 2 = some (.int (x2))) (l3 : lv.lookup 3 = some (.int (bz (x3)))) (l4 : lv.lookup 4 = some (.int (bz (x4)))) (l5 : lv.lookup 5 = some (.int (x5))) (hF : F_Mo_goes_73 rec13 x0 x1 x2 x3 x4 x5 y0 σ = some res) : Rn b sc d 63 73 lv [.int (bz (y0))] (HH pre tl SHm B σ) Q := by
  obtain ⟨e0, rfl⟩ : ∃ e, d = e + 1 := ⟨d - 1, by omega⟩
  unfold F_Mo_goes_73 at hF
  refine r_istore f_Mo_goes_73 ?_
  refine r_iload_n f_Mo_goes_75 (lk_put_ne l3 (by decide) (Or.inl rfl)) ?_
  refine r_if_eq f_Mo_goes_76 (fun c12 => ?_) (fun c12 => ?_)
  · rw [if_neg (bz_nt c12)] at hF
    exact w_Mo_goes_88 hB hd (hr13) hQ _ (σ) (x0) (x1) (x2) (x4) (x5) (y0) hx0 (lk_put_ne l0 (by decide) (Or.inl rfl)) (lk_put_ne l1 (by decide) (Or.inl rfl)) (lk_put_ne l2 (by decide) (Or.inl rfl)) (lk_put_ne l4 (by decide) (Or.inl rfl)) (lk_put_ne l5 (by decide) (Or.inl rfl)) lk_put hF
  · rw [if_pos (bz_t c12)] at hF
    refine r_iload f_Mo_goes_79 lk_put ?_
    refine r_if_eq f_Mo_goes_81 (fun c13 => ?_) (fun c13 => ?_)
    · rw [if_neg (bz_nt c13)] at hF
      exact w_Mo_goes_88 hB hd (hr13) hQ _ (σ) (x0) (x1) (x2) (x4) (x5) (y0) hx0 (lk_put_ne l0 (by decide) (Or.inl rfl)) (lk_put_ne l1 (by decide) (Or.inl rfl)) (lk_put_ne l2 (by decide) (Or.inl rfl)) (lk_put_ne l4 (by decide) (Or.inl rfl)) (lk_put_ne l5 (by decide) (Or.inl rfl)) lk_put hF
    · rw [if_pos (bz_t c13)] at hF
      refine r_iconst f_Mo_goes_84 (v := 1) (by decide) ?_
      refine r_goto f_Mo_goes_85 ?_
      exact w_Mo_goes_89 hB hd (hr13) hQ _ (σ) (x0) (x1) (x2) (x4) (x5) (y0) (true) hx0 (lk_put_ne l0 (by decide) (Or.inl rfl)) (lk_put_ne l1 (by decide) (Or.inl rfl)) (lk_put_ne l2 (by decide) (Or.inl rfl)) (lk_put_ne l4 (by decide) (Or.inl rfl)) (lk_put_ne l5 (by decide) (Or.inl rfl)) lk_put hF
def F_Mo_goes_72 (rec13 : Nat → Int32 → Int32 → Bool → Bool → Int32 → SG → Option (SG)) (x0 : Nat) (x1 : Int32) (x2 : Int32) (x3 : Bool) (x4 : Bool) (x5 : Int32) (σ : SG) : Option (SG) :=
  F_Mo_goes_73 (rec13) (x0) (x1) (x2) (x3) (x4) (x5) (false) σ
set_option maxHeartbeats 4000000 in
theorem w_Mo_goes_72 {b d : Nat} {sc : SC} {pre tl : List PE} {B : Nat} {Q : Option Value → List PE → Prop} {res : SG} (hB : B = b + pre.length) (hd : 2 ≤ d) {rec13 : Nat → Int32 → Int32 → Bool → Bool → Int32 → SG → Option (SG)} (hr13 : ∀ (lv : LV) (σ : SG) (x0 : Nat) (x1 : Int32) (x2 : Int32) (x3 : Bool) (x4 : Bool) (x5 : Int32), isC SHm (x0) 8 = true → lv.lookup 0 = some (.ref (B + (x0))) → lv.lookup 1 = some (.int (x1)) → lv.lookup 2 = some (.int (x2)) → lv.lookup 3 = some (.int (bz (x3))) → lv.lookup 4 = some (.int (bz (x4))) → lv.lookup 5 = some (.int (x5)) →  rec13 x0 x1 x2 x3 x4 x5 σ = some res → Rn b sc d 63 13 lv [] (HH pre tl SHm B σ) Q) (hQ : Q none (HH pre tl SHm B res)) (lv : LV) (σ : SG) (x0 : Nat) (x1 : Int32) (x2 : Int32) (x3 : Bool) (x4 : Bool) (x5 : Int32) (hx0 : isC SHm (x0) 8 = true) (l0 : lv.lookup 0 = some (.ref (B + (x0)))) (l1 : lv.lookup 1 = some (.int (x1))) (l2 : lv.lookup 2 = some (.int (x2))) (l3 : lv.lookup 3 = some (.int (bz (x3)))) (l4 : lv.lookup 4 = some (.int (bz (x4)))) (l5 : lv.lookup 5 = some (.int (x5))) (hF : F_Mo_goes_72 rec13 x0 x1 x2 x3 x4 x5 σ = some res) : Rn b sc d 63 72 lv [] (HH pre tl SHm B σ) Q := by
  obtain ⟨e0, rfl⟩ : ∃ e, d = e + 1 := ⟨d - 1, by omega⟩
  unfold F_Mo_goes_72 at hF
  refine r_iconst f_Mo_goes_72 (v := 0) (by decide) ?_
  exact w_Mo_goes_73 hB hd (hr13) hQ _ (σ) (x0) (x1) (x2) (x3) (x4) (x5) (false) hx0 l0 l1 l2 l3 l4 l5 hF
def F_Mo_goes_13  : Nat → Nat → Int32 → Int32 → Bool → Bool → Int32 → SG → Option (SG)
  | 0, _, _, _, _, _, _, _ => none
  | n + 1, x0, x1, x2, x3, x4, x5, σ =>
  if (σ.1 (x0) 24) < 0 ∨ 6 ≤ ((σ.1 (x0) 24)).toNatClampNeg then none else
  if (((3 : Int32) * (σ.1 (x0) 24)) + (σ.2.2.2.1 ((cref SHm (x0) 13)) (((σ.1 (x0) 24)).toNatClampNeg))) ≤ x5 then
  if (zb (σ.1 (x0) 27)) = true then
  if x3 = true then
  F_Mo_goes_168 (x0) (x2) (x0) σ
  else if x4 = true then
  if (σ.1 (x0) 25) = 0 then
  F_Mo_goes_168 (x0) (x2) (x0) σ
  else F_Mo_goes_172 (x0) (x2) (x0) σ
  else F_Mo_goes_172 (x0) (x2) (x0) σ
  else F_Mo_goes_172 (x0) (x2) (x0) σ
  else match F_Mo_inPart (x0) (x5) (x1) σ with
  | none => none
  | some q20 =>
  match F_Mo_inPart (x0) (x5) (x2) q20.2 with
  | none => none
  | some q21 =>
  if q20.1 = q21.1 then
  match F_Mo_inHandler (x0) (x5) (x1) q21.2 with
  | none => none
  | some q23 =>
  match F_Mo_inHandler (x0) (x5) (x2) q23.2 with
  | none => none
  | some q24 =>
  if q23.1 = q24.1 then
  F_Mo_goes_73 (F_Mo_goes_13  n) (x0) (x1) (x2) (x3) (x4) (x5) (true) q24.2
  else F_Mo_goes_72 (F_Mo_goes_13  n) (x0) (x1) (x2) (x3) (x4) (x5) q24.2
  else F_Mo_goes_72 (F_Mo_goes_13  n) (x0) (x1) (x2) (x3) (x4) (x5) q21.2
set_option maxHeartbeats 4000000 in
theorem w_Mo_goes_13 {b d : Nat} {sc : SC} {pre tl : List PE} {B : Nat} {Q : Option Value → List PE → Prop} {res : SG} (hB : B = b + pre.length) (hd : 2 ≤ d)   (hQ : Q none (HH pre tl SHm B res)) : ∀ (n : Nat) (lv : LV) (σ : SG) (x0 : Nat) (x1 : Int32) (x2 : Int32) (x3 : Bool) (x4 : Bool) (x5 : Int32), isC SHm (x0) 8 = true → lv.lookup 0 = some (.ref (B + (x0))) → lv.lookup 1 = some (.int (x1)) → lv.lookup 2 = some (.int (x2)) → lv.lookup 3 = some (.int (bz (x3))) → lv.lookup 4 = some (.int (bz (x4))) → lv.lookup 5 = some (.int (x5)) → F_Mo_goes_13  n x0 x1 x2 x3 x4 x5 σ = some res → Rn b sc d 63 13 lv [] (HH pre tl SHm B σ) Q := by
  obtain ⟨e0, rfl⟩ : ∃ e, d = e + 1 := ⟨d - 1, by omega⟩
  intro n
  induction n with
  | zero => intro lv σ x0 x1 x2 x3 x4 x5 hx0 l0 l1 l2 l3 l4 l5 hF; cases hF
  | succ n ih =>
    intro lv σ x0 x1 x2 x3 x4 x5 hx0 l0 l1 l2 l3 l4 l5 hF
    unfold F_Mo_goes_13 at hF
    refine r_iload f_Mo_goes_13 l5 ?_
    refine r_iconst f_Mo_goes_15 (v := 3) (by decide) ?_
    refine r_aload_n f_Mo_goes_16 l0 ?_
    refine t_geti hB hx0 f_Mo_goes_17 rfl ?_
    refine r_imul f_Mo_goes_20 ?_
    refine r_aload_n f_Mo_goes_21 l0 ?_
    refine t_getc hB hx0 f_Mo_goes_22 rfl ?_
    refine r_aload_n f_Mo_goes_25 l0 ?_
    refine t_geti hB hx0 f_Mo_goes_26 rfl ?_
    by_cases c14 : (σ.1 (x0) 24) < 0 ∨ 6 ≤ ((σ.1 (x0) 24)).toNatClampNeg
    · rw [if_pos c14] at hF; cases hF
    rw [if_neg c14] at hF
    refine t_iald hB (cc_8_13 hx0) f_Mo_goes_29 c14 ?_
    refine r_iadd f_Mo_goes_30 ?_
    refine r_icmp_ge f_Mo_goes_31 (fun c15 => ?_) (fun c15 => ?_)
    · rw [if_pos c15] at hF
      refine r_aload_n f_Mo_goes_144 l0 ?_
      refine r_aload_n f_Mo_goes_145 l0 ?_
      refine t_getz hB hx0 f_Mo_goes_146 rfl ?_
      refine r_if_eq f_Mo_goes_149 (fun c16 => ?_) (fun c16 => ?_)
      · rw [if_neg (bz_nt c16)] at hF
        exact w_Mo_goes_172 hB hd  hQ _ (σ) (x0) (x2) (x0) hx0 hx0 l0 l2 hF
      · rw [if_pos (bz_t c16)] at hF
        refine r_iload_n f_Mo_goes_152 l3 ?_
        refine r_if_ne f_Mo_goes_153 (fun c17 => ?_) (fun c17 => ?_)
        · rw [if_pos (bz_t c17)] at hF
          exact w_Mo_goes_168 hB hd  hQ _ (σ) (x0) (x2) (x0) hx0 hx0 l0 l2 hF
        · rw [if_neg (bz_nt (Decidable.not_not.mp c17))] at hF
          refine r_iload f_Mo_goes_156 l4 ?_
          refine r_if_eq f_Mo_goes_158 (fun c18 => ?_) (fun c18 => ?_)
          · rw [if_neg (bz_nt c18)] at hF
            exact w_Mo_goes_172 hB hd  hQ _ (σ) (x0) (x2) (x0) hx0 hx0 l0 l2 hF
          · rw [if_pos (bz_t c18)] at hF
            refine r_aload_n f_Mo_goes_161 l0 ?_
            refine t_geti hB hx0 f_Mo_goes_162 rfl ?_
            refine r_if_ne f_Mo_goes_165 (fun c19 => ?_) (fun c19 => ?_)
            · rw [if_neg c19] at hF
              exact w_Mo_goes_172 hB hd  hQ _ (σ) (x0) (x2) (x0) hx0 hx0 l0 l2 hF
            · rw [if_pos (Decidable.not_not.mp c19)] at hF
              exact w_Mo_goes_168 hB hd  hQ _ (σ) (x0) (x2) (x0) hx0 hx0 l0 l2 hF
    · rw [if_neg c15] at hF
      refine r_aload_n f_Mo_goes_34 l0 ?_
      refine r_iload f_Mo_goes_35 l5 ?_
      refine r_iload_n f_Mo_goes_37 l1 ?_
      cases hq20 : F_Mo_inPart (x0) (x5) (x1) σ with
      | none => simp only [hq20] at hF; cases hF
      | some q20 =>
        simp only [hq20] at hF
        refine t_V2i hB hx0 rfl rfl f_Mo_goes_38 (by decide) (Nat.le_of_ble_eq_true rfl) (Nat.le_of_ble_eq_true rfl) (w_Mo_inPart hB  (x0) (x5) (x1) hx0 hq20 ⟨_, rfl, ?_⟩)
        refine r_aload_n f_Mo_goes_41 l0 ?_
        refine r_iload f_Mo_goes_42 l5 ?_
        refine r_iload_n f_Mo_goes_44 l2 ?_
        cases hq21 : F_Mo_inPart (x0) (x5) (x2) q20.2 with
        | none => simp only [hq21] at hF; cases hF
        | some q21 =>
          simp only [hq21] at hF
          refine t_V2i hB hx0 rfl rfl f_Mo_goes_45 (by decide) (Nat.le_of_ble_eq_true rfl) (Nat.le_of_ble_eq_true rfl) (w_Mo_inPart hB  (x0) (x5) (x2) hx0 hq21 ⟨_, rfl, ?_⟩)
          refine r_icmp_ne f_Mo_goes_48 (fun c22 => ?_) (fun c22 => ?_)
          · rw [if_neg (fun z => c22 (bz_inj.mpr z))] at hF
            exact w_Mo_goes_72 hB hd (ih) hQ _ (q21.2) (x0) (x1) (x2) (x3) (x4) (x5) hx0 l0 l1 l2 l3 l4 l5 hF
          · rw [if_pos (bz_inj.mp (Decidable.not_not.mp c22))] at hF
            refine r_aload_n f_Mo_goes_51 l0 ?_
            refine r_iload f_Mo_goes_52 l5 ?_
            refine r_iload_n f_Mo_goes_54 l1 ?_
            cases hq23 : F_Mo_inHandler (x0) (x5) (x1) q21.2 with
            | none => simp only [hq23] at hF; cases hF
            | some q23 =>
              simp only [hq23] at hF
              refine t_V2i hB hx0 rfl rfl f_Mo_goes_55 (by decide) (Nat.le_of_ble_eq_true rfl) (Nat.le_of_ble_eq_true rfl) (w_Mo_inHandler hB  (x0) (x5) (x1) hx0 hq23 ⟨_, rfl, ?_⟩)
              refine r_aload_n f_Mo_goes_58 l0 ?_
              refine r_iload f_Mo_goes_59 l5 ?_
              refine r_iload_n f_Mo_goes_61 l2 ?_
              cases hq24 : F_Mo_inHandler (x0) (x5) (x2) q23.2 with
              | none => simp only [hq24] at hF; cases hF
              | some q24 =>
                simp only [hq24] at hF
                refine t_V2i hB hx0 rfl rfl f_Mo_goes_62 (by decide) (Nat.le_of_ble_eq_true rfl) (Nat.le_of_ble_eq_true rfl) (w_Mo_inHandler hB  (x0) (x5) (x2) hx0 hq24 ⟨_, rfl, ?_⟩)
                refine r_icmp_ne f_Mo_goes_65 (fun c25 => ?_) (fun c25 => ?_)
                · rw [if_neg (fun z => c25 (bz_inj.mpr z))] at hF
                  exact w_Mo_goes_72 hB hd (ih) hQ _ (q24.2) (x0) (x1) (x2) (x3) (x4) (x5) hx0 l0 l1 l2 l3 l4 l5 hF
                · rw [if_pos (bz_inj.mp (Decidable.not_not.mp c25))] at hF
                  refine r_iconst f_Mo_goes_68 (v := 1) (by decide) ?_
                  refine r_goto f_Mo_goes_69 ?_
                  exact w_Mo_goes_73 hB hd (ih) hQ _ (q24.2) (x0) (x1) (x2) (x3) (x4) (x5) (true) hx0 l0 l1 l2 l3 l4 l5 hF
def F_Mo_goes (a0 : Nat) (a1 : Int32) (a2 : Int32) (σ : SG) : Option (SG) :=
  F_Mo_goes_13  5000 (a0) (a1) (a2) (true) (true) (((3 : Int32) * (σ.1 (a0) 24))) σ
set_option maxHeartbeats 4000000 in
theorem w_Mo_goes {b d : Nat} {pre tl : List PE} {B : Nat} {Q : Option Value → List PE → Prop} {res : SG} (hB : B = b + pre.length) (hd : 2 ≤ d)  {σ : SG} (a0 : Nat) (a1 : Int32) (a2 : Int32) (ha0 : isC SHm (a0) 8 = true) (hF : F_Mo_goes a0 a1 a2 σ = some res) (hQ : Q none (HH pre tl SHm B res)) : Cl b d 63 [.ref (B + (a0)), .int (a1), .int (a2)] (HH pre tl SHm B σ) Q := by
  obtain ⟨e0, rfl⟩ : ∃ e, d = e + 1 := ⟨d - 1, by omega⟩
  unfold Cl
  unfold F_Mo_goes at hF
  refine r_iconst f_Mo_goes_0 (v := 1) (by decide) ?_
  refine r_istore_n f_Mo_goes_1 ?_
  refine r_iconst f_Mo_goes_2 (v := 1) (by decide) ?_
  refine r_istore f_Mo_goes_3 ?_
  refine r_iconst f_Mo_goes_5 (v := 3) (by decide) ?_
  refine r_aload_n f_Mo_goes_6 (lk_put_ne (lk_put_ne rfl (by decide) (Or.inl rfl)) (by decide) (Or.inl rfl)) ?_
  refine t_geti hB ha0 f_Mo_goes_7 rfl ?_
  refine r_imul f_Mo_goes_10 ?_
  refine r_istore f_Mo_goes_11 ?_
  exact w_Mo_goes_13 hB hd  hQ 5000 _ (σ) (a0) (a1) (a2) (true) (true) (((3 : Int32) * (σ.1 (a0) 24))) ha0 (lk_put_ne (lk_put_ne (lk_put_ne rfl (by decide) (Or.inl rfl)) (by decide) (Or.inl rfl)) (by decide) (Or.inl rfl)) (lk_put_ne (lk_put_ne (lk_put_ne rfl (by decide) (Or.inl rfl)) (by decide) (Or.inl rfl)) (by decide) (Or.inl rfl)) (lk_put_ne (lk_put_ne (lk_put_ne rfl (by decide) (Or.inl rfl)) (by decide) (Or.inl rfl)) (by decide) (Or.inl rfl)) (lk_put_ne (lk_put_ne lk_put (by decide) (Or.inl rfl)) (by decide) (Or.inl rfl)) (lk_put_ne lk_put (by decide) (Or.inl rfl)) lk_put hF
theorem f_Mo_flow_0 : fetch 43 0 = some (.aload_n 0, 1, 0, 0, 0) := rfl
theorem f_Mo_flow_1 : fetch 43 1 = some (.iload_n 1, 1, 0, 0, 0) := rfl
theorem f_Mo_flow_2 : fetch 43 2 = some (.invokevirtual 164, 3, 38, 1, 50) := rfl
theorem f_Mo_flow_5 : fetch 43 5 = some (.istore_n 2, 1, 0, 0, 0) := rfl
theorem f_Mo_flow_6 : fetch 43 6 = some (.aload_n 0, 1, 0, 0, 0) := rfl
theorem f_Mo_flow_7 : fetch 43 7 = some (.aload_n 0, 1, 0, 0, 0) := rfl
theorem f_Mo_flow_8 : fetch 43 8 = some (.getfield 59, 3, 8, 21, 43) := rfl
theorem f_Mo_flow_11 : fetch 43 11 = some (.bipush 100, 2, 0, 0, 0) := rfl
theorem f_Mo_flow_13 : fetch 43 13 = some (.aload_n 0, 1, 0, 0, 0) := rfl
theorem f_Mo_flow_14 : fetch 43 14 = some (.getfield 154, 3, 8, 24, 65) := rfl
theorem f_Mo_flow_17 : fetch 43 17 = some (.imul, 1, 0, 0, 0) := rfl
theorem f_Mo_flow_18 : fetch 43 18 = some (.iload_n 1, 1, 0, 0, 0) := rfl
theorem f_Mo_flow_19 : fetch 43 19 = some (.iadd, 1, 0, 0, 0) := rfl
theorem f_Mo_flow_20 : fetch 43 20 = some (.iaload, 1, 0, 0, 0) := rfl
theorem f_Mo_flow_21 : fetch 43 21 = some (.putfield 191, 3, 8, 25, 67) := rfl
theorem f_Mo_flow_24 : fetch 43 24 = some (.aload_n 0, 1, 0, 0, 0) := rfl
theorem f_Mo_flow_25 : fetch 43 25 = some (.aload_n 0, 1, 0, 0, 0) := rfl
theorem f_Mo_flow_26 : fetch 43 26 = some (.getfield 62, 3, 8, 22, 44) := rfl
theorem f_Mo_flow_29 : fetch 43 29 = some (.bipush 100, 2, 0, 0, 0) := rfl
theorem f_Mo_flow_31 : fetch 43 31 = some (.aload_n 0, 1, 0, 0, 0) := rfl
theorem f_Mo_flow_32 : fetch 43 32 = some (.getfield 154, 3, 8, 24, 65) := rfl
theorem f_Mo_flow_35 : fetch 43 35 = some (.imul, 1, 0, 0, 0) := rfl
theorem f_Mo_flow_36 : fetch 43 36 = some (.iload_n 1, 1, 0, 0, 0) := rfl
theorem f_Mo_flow_37 : fetch 43 37 = some (.iadd, 1, 0, 0, 0) := rfl
theorem f_Mo_flow_38 : fetch 43 38 = some (.laload, 1, 0, 0, 0) := rfl
theorem f_Mo_flow_39 : fetch 43 39 = some (.putfield 194, 3, 8, 26, 68) := rfl
theorem f_Mo_flow_42 : fetch 43 42 = some (.iconst 3, 1, 0, 0, 0) := rfl
theorem f_Mo_flow_43 : fetch 43 43 = some (.aload_n 0, 1, 0, 0, 0) := rfl
theorem f_Mo_flow_44 : fetch 43 44 = some (.getfield 154, 3, 8, 24, 65) := rfl
theorem f_Mo_flow_47 : fetch 43 47 = some (.imul, 1, 0, 0, 0) := rfl
theorem f_Mo_flow_48 : fetch 43 48 = some (.istore_n 3, 1, 0, 0, 0) := rfl
theorem f_Mo_flow_49 : fetch 43 49 = some (.iload_n 3, 1, 0, 0, 0) := rfl
theorem f_Mo_flow_50 : fetch 43 50 = some (.iconst 3, 1, 0, 0, 0) := rfl
theorem f_Mo_flow_51 : fetch 43 51 = some (.aload_n 0, 1, 0, 0, 0) := rfl
theorem f_Mo_flow_52 : fetch 43 52 = some (.getfield 154, 3, 8, 24, 65) := rfl
theorem f_Mo_flow_55 : fetch 43 55 = some (.imul, 1, 0, 0, 0) := rfl
theorem f_Mo_flow_56 : fetch 43 56 = some (.aload_n 0, 1, 0, 0, 0) := rfl
theorem f_Mo_flow_57 : fetch 43 57 = some (.getfield 34, 3, 8, 13, 35) := rfl
theorem f_Mo_flow_60 : fetch 43 60 = some (.aload_n 0, 1, 0, 0, 0) := rfl
theorem f_Mo_flow_61 : fetch 43 61 = some (.getfield 154, 3, 8, 24, 65) := rfl
theorem f_Mo_flow_64 : fetch 43 64 = some (.iaload, 1, 0, 0, 0) := rfl
theorem f_Mo_flow_65 : fetch 43 65 = some (.iadd, 1, 0, 0, 0) := rfl
theorem f_Mo_flow_66 : fetch 43 66 = some (.if_icmp .ge 63, 3, 129, 0, 0) := rfl
theorem f_Mo_flow_69 : fetch 43 69 = some (.aload_n 0, 1, 0, 0, 0) := rfl
theorem f_Mo_flow_70 : fetch 43 70 = some (.getfield 181, 3, 8, 27, 66) := rfl
theorem f_Mo_flow_73 : fetch 43 73 = some (.ifCond .eq 56, 3, 129, 0, 0) := rfl
theorem f_Mo_flow_76 : fetch 43 76 = some (.aload_n 0, 1, 0, 0, 0) := rfl
theorem f_Mo_flow_77 : fetch 43 77 = some (.iload_n 3, 1, 0, 0, 0) := rfl
theorem f_Mo_flow_78 : fetch 43 78 = some (.iload_n 1, 1, 0, 0, 0) := rfl
theorem f_Mo_flow_79 : fetch 43 79 = some (.invokevirtual 203, 3, 44, 2, 53) := rfl
theorem f_Mo_flow_82 : fetch 43 82 = some (.ifCond .eq 41, 3, 123, 0, 0) := rfl
theorem f_Mo_flow_85 : fetch 43 85 = some (.aload_n 0, 1, 0, 0, 0) := rfl
theorem f_Mo_flow_86 : fetch 43 86 = some (.aload_n 0, 1, 0, 0, 0) := rfl
theorem f_Mo_flow_87 : fetch 43 87 = some (.getfield 40, 3, 8, 15, 37) := rfl
theorem f_Mo_flow_90 : fetch 43 90 = some (.iload_n 3, 1, 0, 0, 0) := rfl
theorem f_Mo_flow_91 : fetch 43 91 = some (.iaload, 1, 0, 0, 0) := rfl
theorem f_Mo_flow_92 : fetch 43 92 = some (.aload_n 0, 1, 0, 0, 0) := rfl
theorem f_Mo_flow_93 : fetch 43 93 = some (.getfield 46, 3, 8, 17, 39) := rfl
theorem f_Mo_flow_96 : fetch 43 96 = some (.iload_n 3, 1, 0, 0, 0) := rfl
theorem f_Mo_flow_97 : fetch 43 97 = some (.baload, 1, 0, 0, 0) := rfl
theorem f_Mo_flow_98 : fetch 43 98 = some (.ifCond .eq 7, 3, 105, 0, 0) := rfl
theorem f_Mo_flow_101 : fetch 43 101 = some (.iconst 0, 1, 0, 0, 0) := rfl
theorem f_Mo_flow_102 : fetch 43 102 = some (.goto 4, 3, 106, 0, 0) := rfl
theorem f_Mo_flow_105 : fetch 43 105 = some (.iconst 1, 1, 0, 0, 0) := rfl
theorem f_Mo_flow_106 : fetch 43 106 = some (.aload_n 0, 1, 0, 0, 0) := rfl
theorem f_Mo_flow_107 : fetch 43 107 = some (.getfield 46, 3, 8, 17, 39) := rfl
theorem f_Mo_flow_110 : fetch 43 110 = some (.iload_n 3, 1, 0, 0, 0) := rfl
theorem f_Mo_flow_111 : fetch 43 111 = some (.baload, 1, 0, 0, 0) := rfl
theorem f_Mo_flow_112 : fetch 43 112 = some (.ifCond .eq 7, 3, 119, 0, 0) := rfl
theorem f_Mo_flow_115 : fetch 43 115 = some (.lconst 0, 1, 0, 0, 0) := rfl
theorem f_Mo_flow_116 : fetch 43 116 = some (.goto 4, 3, 120, 0, 0) := rfl
theorem f_Mo_flow_119 : fetch 43 119 = some (.lconst 1, 1, 0, 0, 0) := rfl
theorem f_Mo_flow_120 : fetch 43 120 = some (.invokevirtual 184, 3, 42, 3, 48) := rfl
theorem f_Mo_flow_123 : fetch 43 123 = some (.iinc 3 1, 3, 0, 0, 0) := rfl
theorem f_Mo_flow_126 : fetch 43 126 = some (.goto (-77), 3, 49, 0, 0) := rfl
theorem f_Mo_flow_129 : fetch 43 129 = some (.iload_n 2, 1, 0, 0, 0) := rfl
theorem f_Mo_flow_130 : fetch 43 130 = some (.bipush 17, 2, 0, 0, 0) := rfl
theorem f_Mo_flow_132 : fetch 43 132 = some (.if_icmp .ge 12, 3, 144, 0, 0) := rfl
theorem f_Mo_flow_135 : fetch 43 135 = some (.aload_n 0, 1, 0, 0, 0) := rfl
theorem f_Mo_flow_136 : fetch 43 136 = some (.iload_n 1, 1, 0, 0, 0) := rfl
theorem f_Mo_flow_137 : fetch 43 137 = some (.iload_n 2, 1, 0, 0, 0) := rfl
theorem f_Mo_flow_138 : fetch 43 138 = some (.invokevirtual 207, 3, 45, 2, 54) := rfl
theorem f_Mo_flow_141 : fetch 43 141 = some (.goto 24, 3, 165, 0, 0) := rfl
theorem f_Mo_flow_144 : fetch 43 144 = some (.iload_n 2, 1, 0, 0, 0) := rfl
theorem f_Mo_flow_145 : fetch 43 145 = some (.bipush 33, 2, 0, 0, 0) := rfl
theorem f_Mo_flow_147 : fetch 43 147 = some (.if_icmp .ge 12, 3, 159, 0, 0) := rfl
theorem f_Mo_flow_150 : fetch 43 150 = some (.aload_n 0, 1, 0, 0, 0) := rfl
theorem f_Mo_flow_151 : fetch 43 151 = some (.iload_n 1, 1, 0, 0, 0) := rfl
theorem f_Mo_flow_152 : fetch 43 152 = some (.iload_n 2, 1, 0, 0, 0) := rfl
theorem f_Mo_flow_153 : fetch 43 153 = some (.invokevirtual 211, 3, 54, 2, 55) := rfl
theorem f_Mo_flow_156 : fetch 43 156 = some (.goto 9, 3, 165, 0, 0) := rfl
theorem f_Mo_flow_159 : fetch 43 159 = some (.aload_n 0, 1, 0, 0, 0) := rfl
theorem f_Mo_flow_160 : fetch 43 160 = some (.iload_n 1, 1, 0, 0, 0) := rfl
theorem f_Mo_flow_161 : fetch 43 161 = some (.iload_n 2, 1, 0, 0, 0) := rfl
theorem f_Mo_flow_162 : fetch 43 162 = some (.invokevirtual 214, 3, 57, 2, 56) := rfl
theorem f_Mo_flow_165 : fetch 43 165 = some (.aload_n 0, 1, 0, 0, 0) := rfl
theorem f_Mo_flow_166 : fetch 43 166 = some (.getfield 181, 3, 8, 27, 66) := rfl
theorem f_Mo_flow_169 : fetch 43 169 = some (.ifCond .eq 21, 3, 190, 0, 0) := rfl
theorem f_Mo_flow_172 : fetch 43 172 = some (.iload_n 2, 1, 0, 0, 0) := rfl
theorem f_Mo_flow_173 : fetch 43 173 = some (.bipush 34, 2, 0, 0, 0) := rfl
theorem f_Mo_flow_175 : fetch 43 175 = some (.if_icmp .lt 16, 3, 191, 0, 0) := rfl
theorem f_Mo_flow_178 : fetch 43 178 = some (.iload_n 2, 1, 0, 0, 0) := rfl
theorem f_Mo_flow_179 : fetch 43 179 = some (.bipush 36, 2, 0, 0, 0) := rfl
theorem f_Mo_flow_181 : fetch 43 181 = some (.if_icmp .eq 10, 3, 191, 0, 0) := rfl
theorem f_Mo_flow_184 : fetch 43 184 = some (.iload_n 2, 1, 0, 0, 0) := rfl
theorem f_Mo_flow_185 : fetch 43 185 = some (.bipush 37, 2, 0, 0, 0) := rfl
theorem f_Mo_flow_187 : fetch 43 187 = some (.if_icmp .gt 4, 3, 191, 0, 0) := rfl
theorem f_Mo_flow_190 : fetch 43 190 = some (.return_, 1, 0, 0, 0) := rfl
theorem f_Mo_flow_191 : fetch 43 191 = some (.iload_n 2, 1, 0, 0, 0) := rfl
theorem f_Mo_flow_192 : fetch 43 192 = some (.bipush 36, 2, 0, 0, 0) := rfl
theorem f_Mo_flow_194 : fetch 43 194 = some (.if_icmp .ne 14, 3, 208, 0, 0) := rfl
theorem f_Mo_flow_197 : fetch 43 197 = some (.aload_n 0, 1, 0, 0, 0) := rfl
theorem f_Mo_flow_198 : fetch 43 198 = some (.iload_n 1, 1, 0, 0, 0) := rfl
theorem f_Mo_flow_199 : fetch 43 199 = some (.aload_n 0, 1, 0, 0, 0) := rfl
theorem f_Mo_flow_200 : fetch 43 200 = some (.iload_n 1, 1, 0, 0, 0) := rfl
theorem f_Mo_flow_201 : fetch 43 201 = some (.invokevirtual 217, 3, 60, 1, 57) := rfl
theorem f_Mo_flow_204 : fetch 43 204 = some (.invokevirtual 220, 3, 62, 2, 58) := rfl
theorem f_Mo_flow_207 : fetch 43 207 = some (.return_, 1, 0, 0, 0) := rfl
theorem f_Mo_flow_208 : fetch 43 208 = some (.iload_n 2, 1, 0, 0, 0) := rfl
theorem f_Mo_flow_209 : fetch 43 209 = some (.bipush 13, 2, 0, 0, 0) := rfl
theorem f_Mo_flow_211 : fetch 43 211 = some (.if_icmp .eq 14, 3, 225, 0, 0) := rfl
theorem f_Mo_flow_214 : fetch 43 214 = some (.aload_n 0, 1, 0, 0, 0) := rfl
theorem f_Mo_flow_215 : fetch 43 215 = some (.iload_n 1, 1, 0, 0, 0) := rfl
theorem f_Mo_flow_216 : fetch 43 216 = some (.iload_n 1, 1, 0, 0, 0) := rfl
theorem f_Mo_flow_217 : fetch 43 217 = some (.iload_n 2, 1, 0, 0, 0) := rfl
theorem f_Mo_flow_218 : fetch 43 218 = some (.invokestatic 167, 3, 39, 1, 51) := rfl
theorem f_Mo_flow_221 : fetch 43 221 = some (.iadd, 1, 0, 0, 0) := rfl
theorem f_Mo_flow_222 : fetch 43 222 = some (.invokevirtual 223, 3, 63, 2, 59) := rfl
theorem f_Mo_flow_225 : fetch 43 225 = some (.iload_n 2, 1, 0, 0, 0) := rfl
theorem f_Mo_flow_226 : fetch 43 226 = some (.bipush 13, 2, 0, 0, 0) := rfl
theorem f_Mo_flow_228 : fetch 43 228 = some (.if_icmp .lt 19, 3, 247, 0, 0) := rfl
theorem f_Mo_flow_231 : fetch 43 231 = some (.iload_n 2, 1, 0, 0, 0) := rfl
theorem f_Mo_flow_232 : fetch 43 232 = some (.bipush 15, 2, 0, 0, 0) := rfl
theorem f_Mo_flow_234 : fetch 43 234 = some (.if_icmp .gt 13, 3, 247, 0, 0) := rfl
theorem f_Mo_flow_237 : fetch 43 237 = some (.aload_n 0, 1, 0, 0, 0) := rfl
theorem f_Mo_flow_238 : fetch 43 238 = some (.iload_n 1, 1, 0, 0, 0) := rfl
theorem f_Mo_flow_239 : fetch 43 239 = some (.aload_n 0, 1, 0, 0, 0) := rfl
theorem f_Mo_flow_240 : fetch 43 240 = some (.iload_n 1, 1, 0, 0, 0) := rfl
theorem f_Mo_flow_241 : fetch 43 241 = some (.invokevirtual 217, 3, 60, 1, 57) := rfl
theorem f_Mo_flow_244 : fetch 43 244 = some (.invokevirtual 223, 3, 63, 2, 59) := rfl
theorem f_Mo_flow_247 : fetch 43 247 = some (.return_, 1, 0, 0, 0) := rfl
def F_Mo_flow_247   (σ : SG) : Option (SG) :=
  some σ
set_option maxHeartbeats 4000000 in
theorem w_Mo_flow_247 {b d : Nat} {sc : SC} {pre tl : List PE} {B : Nat} {Q : Option Value → List PE → Prop} {res : SG} (hB : B = b + pre.length) (hd : 4 ≤ d)   (hQ : Q none (HH pre tl SHm B res)) (lv : LV) (σ : SG)   (hF : F_Mo_flow_247   σ = some res) : Rn b sc d 43 247 lv [] (HH pre tl SHm B σ) Q := by
  obtain ⟨e0, rfl⟩ : ∃ e, d = e + 1 := ⟨d - 1, by omega⟩
  unfold F_Mo_flow_247 at hF
  cases hF
  exact r_return f_Mo_flow_247 hQ
def F_Mo_flow_225  (x0 : Nat) (x1 : Int32) (x2 : Int32) (σ : SG) : Option (SG) :=
  if x2 < (13 : Int32) then
  F_Mo_flow_247 σ
  else if (15 : Int32) < x2 then
  F_Mo_flow_247 σ
  else match F_Mo_target (x0) (x1) σ with
  | none => none
  | some q3 =>
  match F_Mo_goes (x0) (x1) (q3.1) q3.2 with
  | none => none
  | some q4 =>
  F_Mo_flow_247 q4
set_option maxHeartbeats 4000000 in
theorem w_Mo_flow_225 {b d : Nat} {sc : SC} {pre tl : List PE} {B : Nat} {Q : Option Value → List PE → Prop} {res : SG} (hB : B = b + pre.length) (hd : 4 ≤ d)   (hQ : Q none (HH pre tl SHm B res)) (lv : LV) (σ : SG) (x0 : Nat) (x1 : Int32) (x2 : Int32) (hx0 : isC SHm (x0) 8 = true) (l0 : lv.lookup 0 = some (.ref (B + (x0)))) (l1 : lv.lookup 1 = some (.int (x1))) (l2 : lv.lookup 2 = some (.int (x2))) (hF : F_Mo_flow_225  x0 x1 x2 σ = some res) : Rn b sc d 43 225 lv [] (HH pre tl SHm B σ) Q := by
  obtain ⟨e0, rfl⟩ : ∃ e, d = e + 1 := ⟨d - 1, by omega⟩
  unfold F_Mo_flow_225 at hF
  refine r_iload_n f_Mo_flow_225 l2 ?_
  refine r_bipush f_Mo_flow_226 (v := 13) (by decide) ?_
  refine r_icmp_lt f_Mo_flow_228 (fun c1 => ?_) (fun c1 => ?_)
  · rw [if_pos c1] at hF
    exact w_Mo_flow_247 hB hd  hQ _ (σ) hF
  · rw [if_neg c1] at hF
    refine r_iload_n f_Mo_flow_231 l2 ?_
    refine r_bipush f_Mo_flow_232 (v := 15) (by decide) ?_
    refine r_icmp_gt f_Mo_flow_234 (fun c2 => ?_) (fun c2 => ?_)
    · rw [if_pos c2] at hF
      exact w_Mo_flow_247 hB hd  hQ _ (σ) hF
    · rw [if_neg c2] at hF
      refine r_aload_n f_Mo_flow_237 l0 ?_
      refine r_iload_n f_Mo_flow_238 l1 ?_
      refine r_aload_n f_Mo_flow_239 l0 ?_
      refine r_iload_n f_Mo_flow_240 l1 ?_
      cases hq3 : F_Mo_target (x0) (x1) σ with
      | none => simp only [hq3] at hF; cases hF
      | some q3 =>
        simp only [hq3] at hF
        refine t_V1i hB hx0 rfl rfl f_Mo_flow_241 (by decide) (Nat.le_of_ble_eq_true rfl) (Nat.le_of_ble_eq_true rfl) (w_Mo_target hB (by omega) (x0) (x1) hx0 hq3 ⟨_, rfl, ?_⟩)
        cases hq4 : F_Mo_goes (x0) (x1) (q3.1) q3.2 with
        | none => simp only [hq4] at hF; cases hF
        | some q4 =>
          simp only [hq4] at hF
          refine t_V2v hB hx0 rfl rfl f_Mo_flow_244 (by decide) (Nat.le_of_ble_eq_true rfl) (Nat.le_of_ble_eq_true rfl) (w_Mo_goes hB (by omega) (x0) (x1) (q3.1) hx0 hq4 ⟨rfl, ?_⟩)
          exact w_Mo_flow_247 hB hd  hQ _ (q4) hF
def F_Mo_flow_191  (x0 : Nat) (x1 : Int32) (x2 : Int32) (σ : SG) : Option (SG) :=
  if x2 = (36 : Int32) then
  match F_Mo_target (x0) (x1) σ with
  | none => none
  | some q9 =>
  match F_Mo_leaves (x0) (x1) (q9.1) q9.2 with
  | none => none
  | some q10 =>
  some q10
  else if x2 = (13 : Int32) then
  F_Mo_flow_225 (x0) (x1) (x2) σ
  else match F_Mo_bytes (x2) σ with
  | none => none
  | some q7 =>
  match F_Mo_goes (x0) (x1) ((x1 + q7.1)) q7.2 with
  | none => none
  | some q8 =>
  F_Mo_flow_225 (x0) (x1) (x2) q8
set_option maxHeartbeats 4000000 in
theorem w_Mo_flow_191 {b d : Nat} {sc : SC} {pre tl : List PE} {B : Nat} {Q : Option Value → List PE → Prop} {res : SG} (hB : B = b + pre.length) (hd : 4 ≤ d)   (hQ : Q none (HH pre tl SHm B res)) (lv : LV) (σ : SG) (x0 : Nat) (x1 : Int32) (x2 : Int32) (hx0 : isC SHm (x0) 8 = true) (l0 : lv.lookup 0 = some (.ref (B + (x0)))) (l1 : lv.lookup 1 = some (.int (x1))) (l2 : lv.lookup 2 = some (.int (x2))) (hF : F_Mo_flow_191  x0 x1 x2 σ = some res) : Rn b sc d 43 191 lv [] (HH pre tl SHm B σ) Q := by
  obtain ⟨e0, rfl⟩ : ∃ e, d = e + 1 := ⟨d - 1, by omega⟩
  unfold F_Mo_flow_191 at hF
  refine r_iload_n f_Mo_flow_191 l2 ?_
  refine r_bipush f_Mo_flow_192 (v := 36) (by decide) ?_
  refine r_icmp_ne f_Mo_flow_194 (fun c5 => ?_) (fun c5 => ?_)
  · rw [if_neg c5] at hF
    refine r_iload_n f_Mo_flow_208 l2 ?_
    refine r_bipush f_Mo_flow_209 (v := 13) (by decide) ?_
    refine r_icmp_eq f_Mo_flow_211 (fun c6 => ?_) (fun c6 => ?_)
    · rw [if_pos c6] at hF
      exact w_Mo_flow_225 hB hd  hQ _ (σ) (x0) (x1) (x2) hx0 l0 l1 l2 hF
    · rw [if_neg c6] at hF
      refine r_aload_n f_Mo_flow_214 l0 ?_
      refine r_iload_n f_Mo_flow_215 l1 ?_
      refine r_iload_n f_Mo_flow_216 l1 ?_
      refine r_iload_n f_Mo_flow_217 l2 ?_
      cases hq7 : F_Mo_bytes (x2) σ with
      | none => simp only [hq7] at hF; cases hF
      | some q7 =>
        simp only [hq7] at hF
        refine t_S1i f_Mo_flow_218 (by decide) (Nat.le_of_ble_eq_true rfl) (Nat.le_of_ble_eq_true rfl) (w_Mo_bytes hB  (x2)  hq7 ⟨_, rfl, ?_⟩)
        refine r_iadd f_Mo_flow_221 ?_
        cases hq8 : F_Mo_goes (x0) (x1) ((x1 + q7.1)) q7.2 with
        | none => simp only [hq8] at hF; cases hF
        | some q8 =>
          simp only [hq8] at hF
          refine t_V2v hB hx0 rfl rfl f_Mo_flow_222 (by decide) (Nat.le_of_ble_eq_true rfl) (Nat.le_of_ble_eq_true rfl) (w_Mo_goes hB (by omega) (x0) (x1) ((x1 + q7.1)) hx0 hq8 ⟨rfl, ?_⟩)
          exact w_Mo_flow_225 hB hd  hQ _ (q8) (x0) (x1) (x2) hx0 l0 l1 l2 hF
  · rw [if_pos (Decidable.not_not.mp c5)] at hF
    refine r_aload_n f_Mo_flow_197 l0 ?_
    refine r_iload_n f_Mo_flow_198 l1 ?_
    refine r_aload_n f_Mo_flow_199 l0 ?_
    refine r_iload_n f_Mo_flow_200 l1 ?_
    cases hq9 : F_Mo_target (x0) (x1) σ with
    | none => simp only [hq9] at hF; cases hF
    | some q9 =>
      simp only [hq9] at hF
      refine t_V1i hB hx0 rfl rfl f_Mo_flow_201 (by decide) (Nat.le_of_ble_eq_true rfl) (Nat.le_of_ble_eq_true rfl) (w_Mo_target hB (by omega) (x0) (x1) hx0 hq9 ⟨_, rfl, ?_⟩)
      cases hq10 : F_Mo_leaves (x0) (x1) (q9.1) q9.2 with
      | none => simp only [hq10] at hF; cases hF
      | some q10 =>
        simp only [hq10] at hF
        refine t_V2v hB hx0 rfl rfl f_Mo_flow_204 (by decide) (Nat.le_of_ble_eq_true rfl) (Nat.le_of_ble_eq_true rfl) (w_Mo_leaves hB (by omega) (x0) (x1) (q9.1) hx0 hq10 ⟨rfl, ?_⟩)
        cases hF
        exact r_return f_Mo_flow_207 hQ
def F_Mo_flow_190   (σ : SG) : Option (SG) :=
  some σ
set_option maxHeartbeats 4000000 in
theorem w_Mo_flow_190 {b d : Nat} {sc : SC} {pre tl : List PE} {B : Nat} {Q : Option Value → List PE → Prop} {res : SG} (hB : B = b + pre.length) (hd : 4 ≤ d)   (hQ : Q none (HH pre tl SHm B res)) (lv : LV) (σ : SG)   (hF : F_Mo_flow_190   σ = some res) : Rn b sc d 43 190 lv [] (HH pre tl SHm B σ) Q := by
  obtain ⟨e0, rfl⟩ : ∃ e, d = e + 1 := ⟨d - 1, by omega⟩
  unfold F_Mo_flow_190 at hF
  cases hF
  exact r_return f_Mo_flow_190 hQ
def F_Mo_flow_165  (x0 : Nat) (x1 : Int32) (x2 : Int32) (σ : SG) : Option (SG) :=
  if (zb (σ.1 (x0) 27)) = true then
  if x2 < (34 : Int32) then
  F_Mo_flow_191 (x0) (x1) (x2) σ
  else if x2 = (36 : Int32) then
  F_Mo_flow_191 (x0) (x1) (x2) σ
  else if (37 : Int32) < x2 then
  F_Mo_flow_191 (x0) (x1) (x2) σ
  else F_Mo_flow_190 σ
  else F_Mo_flow_190 σ
set_option maxHeartbeats 4000000 in
theorem w_Mo_flow_165 {b d : Nat} {sc : SC} {pre tl : List PE} {B : Nat} {Q : Option Value → List PE → Prop} {res : SG} (hB : B = b + pre.length) (hd : 4 ≤ d)   (hQ : Q none (HH pre tl SHm B res)) (lv : LV) (σ : SG) (x0 : Nat) (x1 : Int32) (x2 : Int32) (hx0 : isC SHm (x0) 8 = true) (l0 : lv.lookup 0 = some (.ref (B + (x0)))) (l1 : lv.lookup 1 = some (.int (x1))) (l2 : lv.lookup 2 = some (.int (x2))) (hF : F_Mo_flow_165  x0 x1 x2 σ = some res) : Rn b sc d 43 165 lv [] (HH pre tl SHm B σ) Q := by
  obtain ⟨e0, rfl⟩ : ∃ e, d = e + 1 := ⟨d - 1, by omega⟩
  unfold F_Mo_flow_165 at hF
  refine r_aload_n f_Mo_flow_165 l0 ?_
  refine t_getz hB hx0 f_Mo_flow_166 rfl ?_
  refine r_if_eq f_Mo_flow_169 (fun c11 => ?_) (fun c11 => ?_)
  · rw [if_neg (bz_nt c11)] at hF
    exact w_Mo_flow_190 hB hd  hQ _ (σ) hF
  · rw [if_pos (bz_t c11)] at hF
    refine r_iload_n f_Mo_flow_172 l2 ?_
    refine r_bipush f_Mo_flow_173 (v := 34) (by decide) ?_
    refine r_icmp_lt f_Mo_flow_175 (fun c12 => ?_) (fun c12 => ?_)
    · rw [if_pos c12] at hF
      exact w_Mo_flow_191 hB hd  hQ _ (σ) (x0) (x1) (x2) hx0 l0 l1 l2 hF
    · rw [if_neg c12] at hF
      refine r_iload_n f_Mo_flow_178 l2 ?_
      refine r_bipush f_Mo_flow_179 (v := 36) (by decide) ?_
      refine r_icmp_eq f_Mo_flow_181 (fun c13 => ?_) (fun c13 => ?_)
      · rw [if_pos c13] at hF
        exact w_Mo_flow_191 hB hd  hQ _ (σ) (x0) (x1) (x2) hx0 l0 l1 l2 hF
      · rw [if_neg c13] at hF
        refine r_iload_n f_Mo_flow_184 l2 ?_
        refine r_bipush f_Mo_flow_185 (v := 37) (by decide) ?_
        refine r_icmp_gt f_Mo_flow_187 (fun c14 => ?_) (fun c14 => ?_)
        · rw [if_pos c14] at hF
          exact w_Mo_flow_191 hB hd  hQ _ (σ) (x0) (x1) (x2) hx0 l0 l1 l2 hF
        · rw [if_neg c14] at hF
          exact w_Mo_flow_190 hB hd  hQ _ (σ) hF
def F_Mo_flow_129  (x0 : Nat) (x1 : Int32) (x2 : Int32) (σ : SG) : Option (SG) :=
  if (17 : Int32) ≤ x2 then
  if (33 : Int32) ≤ x2 then
  match F_Mo_calls (x0) (x1) (x2) σ with
  | none => none
  | some q17 =>
  F_Mo_flow_165 (x0) (x1) (x2) q17
  else match F_Mo_things (x0) (x1) (x2) σ with
  | none => none
  | some q18 =>
  F_Mo_flow_165 (x0) (x1) (x2) q18
  else match F_Mo_simple (x0) (x1) (x2) σ with
  | none => none
  | some q19 =>
  F_Mo_flow_165 (x0) (x1) (x2) q19
set_option maxHeartbeats 4000000 in
theorem w_Mo_flow_129 {b d : Nat} {sc : SC} {pre tl : List PE} {B : Nat} {Q : Option Value → List PE → Prop} {res : SG} (hB : B = b + pre.length) (hd : 4 ≤ d)   (hQ : Q none (HH pre tl SHm B res)) (lv : LV) (σ : SG) (x0 : Nat) (x1 : Int32) (x2 : Int32) (hx0 : isC SHm (x0) 8 = true) (l0 : lv.lookup 0 = some (.ref (B + (x0)))) (l1 : lv.lookup 1 = some (.int (x1))) (l2 : lv.lookup 2 = some (.int (x2))) (hF : F_Mo_flow_129  x0 x1 x2 σ = some res) : Rn b sc d 43 129 lv [] (HH pre tl SHm B σ) Q := by
  obtain ⟨e0, rfl⟩ : ∃ e, d = e + 1 := ⟨d - 1, by omega⟩
  unfold F_Mo_flow_129 at hF
  refine r_iload_n f_Mo_flow_129 l2 ?_
  refine r_bipush f_Mo_flow_130 (v := 17) (by decide) ?_
  refine r_icmp_ge f_Mo_flow_132 (fun c15 => ?_) (fun c15 => ?_)
  · rw [if_pos c15] at hF
    refine r_iload_n f_Mo_flow_144 l2 ?_
    refine r_bipush f_Mo_flow_145 (v := 33) (by decide) ?_
    refine r_icmp_ge f_Mo_flow_147 (fun c16 => ?_) (fun c16 => ?_)
    · rw [if_pos c16] at hF
      refine r_aload_n f_Mo_flow_159 l0 ?_
      refine r_iload_n f_Mo_flow_160 l1 ?_
      refine r_iload_n f_Mo_flow_161 l2 ?_
      cases hq17 : F_Mo_calls (x0) (x1) (x2) σ with
      | none => simp only [hq17] at hF; cases hF
      | some q17 =>
        simp only [hq17] at hF
        refine t_V2v hB hx0 rfl rfl f_Mo_flow_162 (by decide) (Nat.le_of_ble_eq_true rfl) (Nat.le_of_ble_eq_true rfl) (w_Mo_calls hB (by omega) (x0) (x1) (x2) hx0 hq17 ⟨rfl, ?_⟩)
        exact w_Mo_flow_165 hB hd  hQ _ (q17) (x0) (x1) (x2) hx0 l0 l1 l2 hF
    · rw [if_neg c16] at hF
      refine r_aload_n f_Mo_flow_150 l0 ?_
      refine r_iload_n f_Mo_flow_151 l1 ?_
      refine r_iload_n f_Mo_flow_152 l2 ?_
      cases hq18 : F_Mo_things (x0) (x1) (x2) σ with
      | none => simp only [hq18] at hF; cases hF
      | some q18 =>
        simp only [hq18] at hF
        refine t_V2v hB hx0 rfl rfl f_Mo_flow_153 (by decide) (Nat.le_of_ble_eq_true rfl) (Nat.le_of_ble_eq_true rfl) (w_Mo_things hB (by omega) (x0) (x1) (x2) hx0 hq18 ⟨rfl, ?_⟩)
        refine r_goto f_Mo_flow_156 ?_
        exact w_Mo_flow_165 hB hd  hQ _ (q18) (x0) (x1) (x2) hx0 l0 l1 l2 hF
  · rw [if_neg c15] at hF
    refine r_aload_n f_Mo_flow_135 l0 ?_
    refine r_iload_n f_Mo_flow_136 l1 ?_
    refine r_iload_n f_Mo_flow_137 l2 ?_
    cases hq19 : F_Mo_simple (x0) (x1) (x2) σ with
    | none => simp only [hq19] at hF; cases hF
    | some q19 =>
      simp only [hq19] at hF
      refine t_V2v hB hx0 rfl rfl f_Mo_flow_138 (by decide) (Nat.le_of_ble_eq_true rfl) (Nat.le_of_ble_eq_true rfl) (w_Mo_simple hB (by omega) (x0) (x1) (x2) hx0 hq19 ⟨rfl, ?_⟩)
      refine r_goto f_Mo_flow_141 ?_
      exact w_Mo_flow_165 hB hd  hQ _ (q19) (x0) (x1) (x2) hx0 l0 l1 l2 hF
def F_Mo_flow_123 (rec49 : Nat → Int32 → Int32 → Int32 → SG → Option (SG)) (x0 : Nat) (x1 : Int32) (x2 : Int32) (x3 : Int32) (σ : SG) : Option (SG) :=
  rec49 (x0) (x1) (x2) ((x3 + 1)) σ
set_option maxHeartbeats 4000000 in
theorem w_Mo_flow_123 {b d : Nat} {sc : SC} {pre tl : List PE} {B : Nat} {Q : Option Value → List PE → Prop} {res : SG} (hB : B = b + pre.length) (hd : 4 ≤ d) {rec49 : Nat → Int32 → Int32 → Int32 → SG → Option (SG)} (hr49 : ∀ (lv : LV) (σ : SG) (x0 : Nat) (x1 : Int32) (x2 : Int32) (x3 : Int32), isC SHm (x0) 8 = true → lv.lookup 0 = some (.ref (B + (x0))) → lv.lookup 1 = some (.int (x1)) → lv.lookup 2 = some (.int (x2)) → lv.lookup 3 = some (.int (x3)) →  rec49 x0 x1 x2 x3 σ = some res → Rn b sc d 43 49 lv [] (HH pre tl SHm B σ) Q) (hQ : Q none (HH pre tl SHm B res)) (lv : LV) (σ : SG) (x0 : Nat) (x1 : Int32) (x2 : Int32) (x3 : Int32) (hx0 : isC SHm (x0) 8 = true) (l0 : lv.lookup 0 = some (.ref (B + (x0)))) (l1 : lv.lookup 1 = some (.int (x1))) (l2 : lv.lookup 2 = some (.int (x2))) (l3 : lv.lookup 3 = some (.int (x3))) (hF : F_Mo_flow_123 rec49 x0 x1 x2 x3 σ = some res) : Rn b sc d 43 123 lv [] (HH pre tl SHm B σ) Q := by
  obtain ⟨e0, rfl⟩ : ∃ e, d = e + 1 := ⟨d - 1, by omega⟩
  unfold F_Mo_flow_123 at hF
  refine r_iinc f_Mo_flow_123 l3 (w := x3 + 1) rfl ?_
  refine r_goto f_Mo_flow_126 ?_
  exact hr49 _ (σ) (x0) (x1) (x2) ((x3 + 1)) hx0 (lk_put_ne l0 (by decide) (Or.inl rfl)) (lk_put_ne l1 (by decide) (Or.inl rfl)) (lk_put_ne l2 (by decide) (Or.inl rfl)) lk_put hF
def F_Mo_flow_120 (rec49 : Nat → Int32 → Int32 → Int32 → SG → Option (SG)) (x0 : Nat) (x1 : Int32) (x2 : Int32) (x3 : Int32) (y0 : Nat) (y1 : Int32) (y2 : Bool) (y3 : Int64) (σ : SG) : Option (SG) :=
  match F_Mo_meet (y0) (y1) ((bz (y2))) (y3) σ with
  | none => none
  | some q20 =>
  F_Mo_flow_123 (rec49) (x0) (x1) (x2) (x3) q20
set_option maxHeartbeats 4000000 in
theorem w_Mo_flow_120 {b d : Nat} {sc : SC} {pre tl : List PE} {B : Nat} {Q : Option Value → List PE → Prop} {res : SG} (hB : B = b + pre.length) (hd : 4 ≤ d) {rec49 : Nat → Int32 → Int32 → Int32 → SG → Option (SG)} (hr49 : ∀ (lv : LV) (σ : SG) (x0 : Nat) (x1 : Int32) (x2 : Int32) (x3 : Int32), isC SHm (x0) 8 = true → lv.lookup 0 = some (.ref (B + (x0))) → lv.lookup 1 = some (.int (x1)) → lv.lookup 2 = some (.int (x2)) → lv.lookup 3 = some (.int (x3)) →  rec49 x0 x1 x2 x3 σ = some res → Rn b sc d 43 49 lv [] (HH pre tl SHm B σ) Q) (hQ : Q none (HH pre tl SHm B res)) (lv : LV) (σ : SG) (x0 : Nat) (x1 : Int32) (x2 : Int32) (x3 : Int32) (y0 : Nat) (y1 : Int32) (y2 : Bool) (y3 : Int64) (hx0 : isC SHm (x0) 8 = true) (hy0 : isC SHm (y0) 8 = true) (l0 : lv.lookup 0 = some (.ref (B + (x0)))) (l1 : lv.lookup 1 = some (.int (x1))) (l2 : lv.lookup 2 = some (.int (x2))) (l3 : lv.lookup 3 = some (.int (x3))) (hF : F_Mo_flow_120 rec49 x0 x1 x2 x3 y0 y1 y2 y3 σ = some res) : Rn b sc d 43 120 lv [.long (y3), .int (bz (y2)), .int (y1), .ref (B + (y0))] (HH pre tl SHm B σ) Q := by
  obtain ⟨e0, rfl⟩ : ∃ e, d = e + 1 := ⟨d - 1, by omega⟩
  unfold F_Mo_flow_120 at hF
  cases hq20 : F_Mo_meet (y0) (y1) ((bz (y2))) (y3) σ with
  | none => simp only [hq20] at hF; cases hF
  | some q20 =>
    simp only [hq20] at hF
    refine t_V3v hB hy0 rfl rfl f_Mo_flow_120 (by decide) (Nat.le_of_ble_eq_true rfl) (Nat.le_of_ble_eq_true rfl) (w_Mo_meet hB (by omega) (y0) (y1) ((bz (y2))) (y3) hy0 hq20 ⟨rfl, ?_⟩)
    exact w_Mo_flow_123 hB hd (hr49) hQ _ (q20) (x0) (x1) (x2) (x3) hx0 l0 l1 l2 l3 hF
def F_Mo_flow_106 (rec49 : Nat → Int32 → Int32 → Int32 → SG → Option (SG)) (x0 : Nat) (x1 : Int32) (x2 : Int32) (x3 : Int32) (y0 : Nat) (y1 : Int32) (y2 : Bool) (σ : SG) : Option (SG) :=
  if x3 < 0 ∨ 18 ≤ (x3).toNatClampNeg then none else
  if (zb (σ.2.2.2.1 ((cref SHm (x0) 17)) ((x3).toNatClampNeg))) = true then
  F_Mo_flow_120 (rec49) (x0) (x1) (x2) (x3) (y0) (y1) (y2) ((0 : Int64)) σ
  else F_Mo_flow_120 (rec49) (x0) (x1) (x2) (x3) (y0) (y1) (y2) ((1 : Int64)) σ
set_option maxHeartbeats 4000000 in
theorem w_Mo_flow_106 {b d : Nat} {sc : SC} {pre tl : List PE} {B : Nat} {Q : Option Value → List PE → Prop} {res : SG} (hB : B = b + pre.length) (hd : 4 ≤ d) {rec49 : Nat → Int32 → Int32 → Int32 → SG → Option (SG)} (hr49 : ∀ (lv : LV) (σ : SG) (x0 : Nat) (x1 : Int32) (x2 : Int32) (x3 : Int32), isC SHm (x0) 8 = true → lv.lookup 0 = some (.ref (B + (x0))) → lv.lookup 1 = some (.int (x1)) → lv.lookup 2 = some (.int (x2)) → lv.lookup 3 = some (.int (x3)) →  rec49 x0 x1 x2 x3 σ = some res → Rn b sc d 43 49 lv [] (HH pre tl SHm B σ) Q) (hQ : Q none (HH pre tl SHm B res)) (lv : LV) (σ : SG) (x0 : Nat) (x1 : Int32) (x2 : Int32) (x3 : Int32) (y0 : Nat) (y1 : Int32) (y2 : Bool) (hx0 : isC SHm (x0) 8 = true) (hy0 : isC SHm (y0) 8 = true) (l0 : lv.lookup 0 = some (.ref (B + (x0)))) (l1 : lv.lookup 1 = some (.int (x1))) (l2 : lv.lookup 2 = some (.int (x2))) (l3 : lv.lookup 3 = some (.int (x3))) (hF : F_Mo_flow_106 rec49 x0 x1 x2 x3 y0 y1 y2 σ = some res) : Rn b sc d 43 106 lv [.int (bz (y2)), .int (y1), .ref (B + (y0))] (HH pre tl SHm B σ) Q := by
  obtain ⟨e0, rfl⟩ : ∃ e, d = e + 1 := ⟨d - 1, by omega⟩
  unfold F_Mo_flow_106 at hF
  refine r_aload_n f_Mo_flow_106 l0 ?_
  refine t_getc hB hx0 f_Mo_flow_107 rfl ?_
  refine r_iload_n f_Mo_flow_110 l3 ?_
  by_cases c21 : x3 < 0 ∨ 18 ≤ (x3).toNatClampNeg
  · rw [if_pos c21] at hF; cases hF
  rw [if_neg c21] at hF
  refine t_bald hB (cc_8_17 hx0) f_Mo_flow_111 c21 ?_
  refine r_if_eq f_Mo_flow_112 (fun c22 => ?_) (fun c22 => ?_)
  · rw [if_neg (bz_nt c22)] at hF
    refine r_lconst f_Mo_flow_119 (v := 1) (by decide) ?_
    exact w_Mo_flow_120 hB hd (hr49) hQ _ (σ) (x0) (x1) (x2) (x3) (y0) (y1) (y2) ((1 : Int64)) hx0 hy0 l0 l1 l2 l3 hF
  · rw [if_pos (bz_t c22)] at hF
    refine r_lconst f_Mo_flow_115 (v := 0) (by decide) ?_
    refine r_goto f_Mo_flow_116 ?_
    exact w_Mo_flow_120 hB hd (hr49) hQ _ (σ) (x0) (x1) (x2) (x3) (y0) (y1) (y2) ((0 : Int64)) hx0 hy0 l0 l1 l2 l3 hF
def F_Mo_flow_49  : Nat → Nat → Int32 → Int32 → Int32 → SG → Option (SG)
  | 0, _, _, _, _, _ => none
  | n + 1, x0, x1, x2, x3, σ =>
  if (σ.1 (x0) 24) < 0 ∨ 6 ≤ ((σ.1 (x0) 24)).toNatClampNeg then none else
  if (((3 : Int32) * (σ.1 (x0) 24)) + (σ.2.2.2.1 ((cref SHm (x0) 13)) (((σ.1 (x0) 24)).toNatClampNeg))) ≤ x3 then
  F_Mo_flow_129 (x0) (x1) (x2) σ
  else if (zb (σ.1 (x0) 27)) = true then
  match F_Mo_inPart (x0) (x3) (x1) σ with
  | none => none
  | some q26 =>
  if q26.1 = true then
  if x3 < 0 ∨ 18 ≤ (x3).toNatClampNeg then none else
  if x3 < 0 ∨ 18 ≤ (x3).toNatClampNeg then none else
  if (zb (q26.2.2.2.2.1 ((cref SHm (x0) 17)) ((x3).toNatClampNeg))) = true then
  F_Mo_flow_106 (F_Mo_flow_49  n) (x0) (x1) (x2) (x3) (x0) ((q26.2.2.2.2.1 ((cref SHm (x0) 15)) ((x3).toNatClampNeg))) (false) q26.2
  else F_Mo_flow_106 (F_Mo_flow_49  n) (x0) (x1) (x2) (x3) (x0) ((q26.2.2.2.2.1 ((cref SHm (x0) 15)) ((x3).toNatClampNeg))) (true) q26.2
  else F_Mo_flow_123 (F_Mo_flow_49  n) (x0) (x1) (x2) (x3) q26.2
  else F_Mo_flow_129 (x0) (x1) (x2) σ
set_option maxHeartbeats 4000000 in
theorem w_Mo_flow_49 {b d : Nat} {sc : SC} {pre tl : List PE} {B : Nat} {Q : Option Value → List PE → Prop} {res : SG} (hB : B = b + pre.length) (hd : 4 ≤ d)   (hQ : Q none (HH pre tl SHm B res)) : ∀ (n : Nat) (lv : LV) (σ : SG) (x0 : Nat) (x1 : Int32) (x2 : Int32) (x3 : Int32), isC SHm (x0) 8 = true → lv.lookup 0 = some (.ref (B + (x0))) → lv.lookup 1 = some (.int (x1)) → lv.lookup 2 = some (.int (x2)) → lv.lookup 3 = some (.int (x3)) → F_Mo_flow_49  n x0 x1 x2 x3 σ = some res → Rn b sc d 43 49 lv [] (HH pre tl SHm B σ) Q := by
  obtain ⟨e0, rfl⟩ : ∃ e, d = e + 1 := ⟨d - 1, by omega⟩
  intro n
  induction n with
  | zero => intro lv σ x0 x1 x2 x3 hx0 l0 l1 l2 l3 hF; cases hF
  | succ n ih =>
    intro lv σ x0 x1 x2 x3 hx0 l0 l1 l2 l3 hF
    unfold F_Mo_flow_49 at hF
    refine r_iload_n f_Mo_flow_49 l3 ?_
    refine r_iconst f_Mo_flow_50 (v := 3) (by decide) ?_
    refine r_aload_n f_Mo_flow_51 l0 ?_
    refine t_geti hB hx0 f_Mo_flow_52 rfl ?_
    refine r_imul f_Mo_flow_55 ?_
    refine r_aload_n f_Mo_flow_56 l0 ?_
    refine t_getc hB hx0 f_Mo_flow_57 rfl ?_
    refine r_aload_n f_Mo_flow_60 l0 ?_
    refine t_geti hB hx0 f_Mo_flow_61 rfl ?_
    by_cases c23 : (σ.1 (x0) 24) < 0 ∨ 6 ≤ ((σ.1 (x0) 24)).toNatClampNeg
    · rw [if_pos c23] at hF; cases hF
    rw [if_neg c23] at hF
    refine t_iald hB (cc_8_13 hx0) f_Mo_flow_64 c23 ?_
    refine r_iadd f_Mo_flow_65 ?_
    refine r_icmp_ge f_Mo_flow_66 (fun c24 => ?_) (fun c24 => ?_)
    · rw [if_pos c24] at hF
      exact w_Mo_flow_129 hB hd  hQ _ (σ) (x0) (x1) (x2) hx0 l0 l1 l2 hF
    · rw [if_neg c24] at hF
      refine r_aload_n f_Mo_flow_69 l0 ?_
      refine t_getz hB hx0 f_Mo_flow_70 rfl ?_
      refine r_if_eq f_Mo_flow_73 (fun c25 => ?_) (fun c25 => ?_)
      · rw [if_neg (bz_nt c25)] at hF
        exact w_Mo_flow_129 hB hd  hQ _ (σ) (x0) (x1) (x2) hx0 l0 l1 l2 hF
      · rw [if_pos (bz_t c25)] at hF
        refine r_aload_n f_Mo_flow_76 l0 ?_
        refine r_iload_n f_Mo_flow_77 l3 ?_
        refine r_iload_n f_Mo_flow_78 l1 ?_
        cases hq26 : F_Mo_inPart (x0) (x3) (x1) σ with
        | none => simp only [hq26] at hF; cases hF
        | some q26 =>
          simp only [hq26] at hF
          refine t_V2i hB hx0 rfl rfl f_Mo_flow_79 (by decide) (Nat.le_of_ble_eq_true rfl) (Nat.le_of_ble_eq_true rfl) (w_Mo_inPart hB  (x0) (x3) (x1) hx0 hq26 ⟨_, rfl, ?_⟩)
          refine r_if_eq f_Mo_flow_82 (fun c27 => ?_) (fun c27 => ?_)
          · rw [if_neg (bz_nt c27)] at hF
            exact w_Mo_flow_123 hB hd (ih) hQ _ (q26.2) (x0) (x1) (x2) (x3) hx0 l0 l1 l2 l3 hF
          · rw [if_pos (bz_t c27)] at hF
            refine r_aload_n f_Mo_flow_85 l0 ?_
            refine r_aload_n f_Mo_flow_86 l0 ?_
            refine t_getc hB hx0 f_Mo_flow_87 rfl ?_
            refine r_iload_n f_Mo_flow_90 l3 ?_
            by_cases c28 : x3 < 0 ∨ 18 ≤ (x3).toNatClampNeg
            · rw [if_pos c28] at hF; cases hF
            rw [if_neg c28] at hF
            refine t_iald hB (cc_8_15 hx0) f_Mo_flow_91 c28 ?_
            refine r_aload_n f_Mo_flow_92 l0 ?_
            refine t_getc hB hx0 f_Mo_flow_93 rfl ?_
            refine r_iload_n f_Mo_flow_96 l3 ?_
            by_cases c29 : x3 < 0 ∨ 18 ≤ (x3).toNatClampNeg
            · rw [if_pos c29] at hF; cases hF
            rw [if_neg c29] at hF
            refine t_bald hB (cc_8_17 hx0) f_Mo_flow_97 c29 ?_
            refine r_if_eq f_Mo_flow_98 (fun c30 => ?_) (fun c30 => ?_)
            · rw [if_neg (bz_nt c30)] at hF
              refine r_iconst f_Mo_flow_105 (v := 1) (by decide) ?_
              exact w_Mo_flow_106 hB hd (ih) hQ _ (q26.2) (x0) (x1) (x2) (x3) (x0) ((q26.2.2.2.2.1 ((cref SHm (x0) 15)) ((x3).toNatClampNeg))) (true) hx0 hx0 l0 l1 l2 l3 hF
            · rw [if_pos (bz_t c30)] at hF
              refine r_iconst f_Mo_flow_101 (v := 0) (by decide) ?_
              refine r_goto f_Mo_flow_102 ?_
              exact w_Mo_flow_106 hB hd (ih) hQ _ (q26.2) (x0) (x1) (x2) (x3) (x0) ((q26.2.2.2.2.1 ((cref SHm (x0) 15)) ((x3).toNatClampNeg))) (false) hx0 hx0 l0 l1 l2 l3 hF
def F_Mo_flow (a0 : Nat) (a1 : Int32) (σ : SG) : Option (SG) :=
  match F_Mo_op (a0) (a1) σ with
  | none => none
  | some q31 =>
  if (((100 : Int32) * (q31.2.1 (a0) 24)) + a1) < 0 ∨ 600 ≤ ((((100 : Int32) * (q31.2.1 (a0) 24)) + a1)).toNatClampNeg then none else
  stl (setI q31.2 (a0) 25 ((q31.2.2.2.2.1 ((cref SHm (a0) 21)) (((((100 : Int32) * (q31.2.1 (a0) 24)) + a1)).toNatClampNeg)))) fun s33 =>
  if (((100 : Int32) * (s33.1 (a0) 24)) + a1) < 0 ∨ 600 ≤ ((((100 : Int32) * (s33.1 (a0) 24)) + a1)).toNatClampNeg then none else
  stl (setJ s33 (a0) 26 ((s33.2.2.2.2 ((cref SHm (a0) 22)) (((((100 : Int32) * (s33.1 (a0) 24)) + a1)).toNatClampNeg)))) fun s35 =>
  F_Mo_flow_49  5000 (a0) (a1) (q31.1) (((3 : Int32) * (s35.1 (a0) 24))) s35
set_option maxHeartbeats 4000000 in
theorem w_Mo_flow {b d : Nat} {pre tl : List PE} {B : Nat} {Q : Option Value → List PE → Prop} {res : SG} (hB : B = b + pre.length) (hd : 4 ≤ d)  {σ : SG} (a0 : Nat) (a1 : Int32) (ha0 : isC SHm (a0) 8 = true) (hF : F_Mo_flow a0 a1 σ = some res) (hQ : Q none (HH pre tl SHm B res)) : Cl b d 43 [.ref (B + (a0)), .int (a1)] (HH pre tl SHm B σ) Q := by
  obtain ⟨e0, rfl⟩ : ∃ e, d = e + 1 := ⟨d - 1, by omega⟩
  unfold Cl
  unfold F_Mo_flow at hF
  refine r_aload_n f_Mo_flow_0 rfl ?_
  refine r_iload_n f_Mo_flow_1 rfl ?_
  cases hq31 : F_Mo_op (a0) (a1) σ with
  | none => simp only [hq31] at hF; cases hF
  | some q31 =>
    simp only [hq31] at hF
    refine t_V1i hB ha0 rfl rfl f_Mo_flow_2 (by decide) (Nat.le_of_ble_eq_true rfl) (Nat.le_of_ble_eq_true rfl) (w_Mo_op hB  (a0) (a1) ha0 hq31 ⟨_, rfl, ?_⟩)
    refine r_istore_n f_Mo_flow_5 ?_
    refine r_aload_n f_Mo_flow_6 (lk_put_ne rfl (by decide) (Or.inl rfl)) ?_
    refine r_aload_n f_Mo_flow_7 (lk_put_ne rfl (by decide) (Or.inl rfl)) ?_
    refine t_getc hB ha0 f_Mo_flow_8 rfl ?_
    refine r_bipush f_Mo_flow_11 (v := 100) (by decide) ?_
    refine r_aload_n f_Mo_flow_13 (lk_put_ne rfl (by decide) (Or.inl rfl)) ?_
    refine t_geti hB ha0 f_Mo_flow_14 rfl ?_
    refine r_imul f_Mo_flow_17 ?_
    refine r_iload_n f_Mo_flow_18 (lk_put_ne rfl (by decide) (Or.inl rfl)) ?_
    refine r_iadd f_Mo_flow_19 ?_
    by_cases c32 : (((100 : Int32) * (q31.2.1 (a0) 24)) + a1) < 0 ∨ 600 ≤ ((((100 : Int32) * (q31.2.1 (a0) 24)) + a1)).toNatClampNeg
    · rw [if_pos c32] at hF; cases hF
    rw [if_neg c32] at hF
    refine t_iald hB (cc_8_21 ha0) f_Mo_flow_20 c32 ?_
    refine t_puti hB ha0 f_Mo_flow_21 rfl rfl ?_
    generalize hs33 : setI q31.2 (a0) 25 ((q31.2.2.2.2.1 ((cref SHm (a0) 21)) (((((100 : Int32) * (q31.2.1 (a0) 24)) + a1)).toNatClampNeg))) = s33 at hF ⊢
    rw [stl_eq] at hF
    refine r_aload_n f_Mo_flow_24 (lk_put_ne rfl (by decide) (Or.inl rfl)) ?_
    refine r_aload_n f_Mo_flow_25 (lk_put_ne rfl (by decide) (Or.inl rfl)) ?_
    refine t_getc hB ha0 f_Mo_flow_26 rfl ?_
    refine r_bipush f_Mo_flow_29 (v := 100) (by decide) ?_
    refine r_aload_n f_Mo_flow_31 (lk_put_ne rfl (by decide) (Or.inl rfl)) ?_
    refine t_geti hB ha0 f_Mo_flow_32 rfl ?_
    refine r_imul f_Mo_flow_35 ?_
    refine r_iload_n f_Mo_flow_36 (lk_put_ne rfl (by decide) (Or.inl rfl)) ?_
    refine r_iadd f_Mo_flow_37 ?_
    by_cases c34 : (((100 : Int32) * (s33.1 (a0) 24)) + a1) < 0 ∨ 600 ≤ ((((100 : Int32) * (s33.1 (a0) 24)) + a1)).toNatClampNeg
    · rw [if_pos c34] at hF; cases hF
    rw [if_neg c34] at hF
    refine t_lald hB (cc_8_22 ha0) f_Mo_flow_38 c34 ?_
    refine t_putj hB ha0 f_Mo_flow_39 rfl rfl ?_
    generalize hs35 : setJ s33 (a0) 26 ((s33.2.2.2.2 ((cref SHm (a0) 22)) (((((100 : Int32) * (s33.1 (a0) 24)) + a1)).toNatClampNeg))) = s35 at hF ⊢
    rw [stl_eq] at hF
    refine r_iconst f_Mo_flow_42 (v := 3) (by decide) ?_
    refine r_aload_n f_Mo_flow_43 (lk_put_ne rfl (by decide) (Or.inl rfl)) ?_
    refine t_geti hB ha0 f_Mo_flow_44 rfl ?_
    refine r_imul f_Mo_flow_47 ?_
    refine r_istore_n f_Mo_flow_48 ?_
    exact w_Mo_flow_49 hB hd  hQ 5000 _ (s35) (a0) (a1) (q31.1) (((3 : Int32) * (s35.1 (a0) 24))) ha0 (lk_put_ne (lk_put_ne rfl (by decide) (Or.inl rfl)) (by decide) (Or.inl rfl)) (lk_put_ne (lk_put_ne rfl (by decide) (Or.inl rfl)) (by decide) (Or.inl rfl)) (lk_put_ne lk_put (by decide) (Or.inl rfl)) lk_put hF
