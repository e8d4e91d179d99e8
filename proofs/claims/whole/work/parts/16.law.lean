/-! The law's body, behind the constructors: a function over the two states. -/
def G (b : Nat) (σc σm : SG) : List PE := lay SHc b σc ++ lay SHm (b + 176) σm
theorem G1 {b : Nat} {σc σm : SG} : HH [] (lay SHm (b + 176) σm) SHc b σc = G b σc σm := by
  unfold HH G
  rw [List.nil_append]
theorem G2 {b : Nat} {σc σm : SG} : HH (lay SHc b σc) [] SHm (b + 176) σm = G b σc σm := by
  unfold HH G
  rw [List.append_nil]
theorem G3 {b : Nat} {σc : SG} : b + 176 = b + (lay SHc b σc).length := by
  rw [lay_len]
  rfl
theorem s_len {b sb n : Nat} {xs : Nat → Int32} {sc : SC} {d M pc : Nat} {lv : LV} {st : List Value} {h : List PE} {Q : Option Value → List PE → Prop} {z : Nat × Nat × Nat × Nat} (hsb : sb < b) (hs : sc sb = some (n, xs)) (hf : fetch M pc = some (.arraylength, z)) (k : Rn b sc d M (pc + 1) lv (.int (Int32.ofNat n) :: st) h Q) : Rn b sc d M pc lv (.ref sb :: st) h Q := by
  refine Rn.stp hf rfl rfl (t := (pc + 1, lv, .int (Int32.ofNat n) :: st, h)) ?_ k
  simp only [stp, q_len, rd, if_neg (Nat.not_le.mpr hsb), hs]
theorem s_ald {b sb n : Nat} {xs : Nat → Int32} {sc : SC} {d M pc : Nat} {lv : LV} {st : List Value} {h : List PE} {Q : Option Value → List PE → Prop} {z : Nat × Nat × Nat × Nat} {x : Int32} (hsb : sb < b) (hs : sc sb = some (n, xs)) (hf : fetch M pc = some (.iaload, z)) (hx : ¬ (x < 0 ∨ n ≤ x.toNatClampNeg)) (k : Rn b sc d M (pc + 1) lv (.int (xs x.toNatClampNeg) :: st) h Q) : Rn b sc d M pc lv (.int x :: .ref sb :: st) h Q := by
  refine Rn.stp hf rfl rfl (t := (pc + 1, lv, .int (xs x.toNatClampNeg) :: st, h)) ?_ k
  simp only [stp, q_iald, rd, if_neg (Nat.not_le.mpr hsb), hs, if_pos hx]
set_option maxRecDepth 20000 in
theorem f_La_law_0 : fetch 0 0 = some (.new 7, 3, 7, 0, 0) := rfl
set_option maxRecDepth 20000 in
theorem f_La_law_3 : fetch 0 3 = some (.dup, 1, 0, 0, 0) := rfl
set_option maxRecDepth 20000 in
theorem f_La_law_4 : fetch 0 4 = some (.invokespecial 9, 3, 160, 0, 0) := rfl
set_option maxRecDepth 20000 in
theorem f_La_law_7 : fetch 0 7 = some (.astore_n 1, 1, 0, 0, 0) := rfl
set_option maxRecDepth 20000 in
theorem f_La_law_8 : fetch 0 8 = some (.new 10, 3, 8, 0, 1) := rfl
set_option maxRecDepth 20000 in
theorem f_La_law_11 : fetch 0 11 = some (.dup, 1, 0, 0, 0) := rfl
set_option maxRecDepth 20000 in
theorem f_La_law_12 : fetch 0 12 = some (.invokespecial 12, 3, 27, 0, 1) := rfl
set_option maxRecDepth 20000 in
theorem f_La_law_15 : fetch 0 15 = some (.astore_n 2, 1, 0, 0, 0) := rfl
set_option maxRecDepth 20000 in
theorem f_La_law_16 : fetch 0 16 = some (.iconst 0, 1, 0, 0, 0) := rfl
set_option maxRecDepth 20000 in
theorem f_La_law_17 : fetch 0 17 = some (.istore_n 3, 1, 0, 0, 0) := rfl
set_option maxRecDepth 20000 in
theorem f_La_law_18 : fetch 0 18 = some (.iload_n 3, 1, 0, 0, 0) := rfl
set_option maxRecDepth 20000 in
theorem f_La_law_19 : fetch 0 19 = some (.aload_n 0, 1, 0, 0, 0) := rfl
set_option maxRecDepth 20000 in
theorem f_La_law_20 : fetch 0 20 = some (.arraylength, 1, 0, 0, 0) := rfl
set_option maxRecDepth 20000 in
theorem f_La_law_21 : fetch 0 21 = some (.iconst 4, 1, 0, 0, 0) := rfl
set_option maxRecDepth 20000 in
theorem f_La_law_22 : fetch 0 22 = some (.isub, 1, 0, 0, 0) := rfl
set_option maxRecDepth 20000 in
theorem f_La_law_23 : fetch 0 23 = some (.if_icmp .gt 440, 3, 463, 0, 0) := rfl
set_option maxRecDepth 20000 in
theorem f_La_law_26 : fetch 0 26 = some (.aload_n 0, 1, 0, 0, 0) := rfl
set_option maxRecDepth 20000 in
theorem f_La_law_27 : fetch 0 27 = some (.iload_n 3, 1, 0, 0, 0) := rfl
set_option maxRecDepth 20000 in
theorem f_La_law_28 : fetch 0 28 = some (.iaload, 1, 0, 0, 0) := rfl
set_option maxRecDepth 20000 in
theorem f_La_law_29 : fetch 0 29 = some (.bipush 15, 2, 0, 0, 0) := rfl
set_option maxRecDepth 20000 in
theorem f_La_law_31 : fetch 0 31 = some (.iand, 1, 0, 0, 0) := rfl
set_option maxRecDepth 20000 in
theorem f_La_law_32 : fetch 0 32 = some (.tableswitch 425 0 12 #[68, 131, 142, 155, 178, 211, 254, 297, 320, 333, 346, 369, 392], 68, 457, 0, 0) := rfl
set_option maxRecDepth 20000 in
theorem f_La_law_100 : fetch 0 100 = some (.aload_n 1, 1, 0, 0, 0) := rfl
set_option maxRecDepth 20000 in
theorem f_La_law_101 : fetch 0 101 = some (.aload_n 0, 1, 0, 0, 0) := rfl
set_option maxRecDepth 20000 in
theorem f_La_law_102 : fetch 0 102 = some (.iload_n 3, 1, 0, 0, 0) := rfl
set_option maxRecDepth 20000 in
theorem f_La_law_103 : fetch 0 103 = some (.iconst 1, 1, 0, 0, 0) := rfl
set_option maxRecDepth 20000 in
theorem f_La_law_104 : fetch 0 104 = some (.iadd, 1, 0, 0, 0) := rfl
set_option maxRecDepth 20000 in
theorem f_La_law_105 : fetch 0 105 = some (.iaload, 1, 0, 0, 0) := rfl
set_option maxRecDepth 20000 in
theorem f_La_law_106 : fetch 0 106 = some (.i2l, 1, 0, 0, 0) := rfl
set_option maxRecDepth 20000 in
theorem f_La_law_107 : fetch 0 107 = some (.bipush 32, 2, 0, 0, 0) := rfl
set_option maxRecDepth 20000 in
theorem f_La_law_109 : fetch 0 109 = some (.lshl, 1, 0, 0, 0) := rfl
set_option maxRecDepth 20000 in
theorem f_La_law_110 : fetch 0 110 = some (.aload_n 0, 1, 0, 0, 0) := rfl
set_option maxRecDepth 20000 in
theorem f_La_law_111 : fetch 0 111 = some (.iload_n 3, 1, 0, 0, 0) := rfl
set_option maxRecDepth 20000 in
theorem f_La_law_112 : fetch 0 112 = some (.iconst 2, 1, 0, 0, 0) := rfl
set_option maxRecDepth 20000 in
theorem f_La_law_113 : fetch 0 113 = some (.iadd, 1, 0, 0, 0) := rfl
set_option maxRecDepth 20000 in
theorem f_La_law_114 : fetch 0 114 = some (.iaload, 1, 0, 0, 0) := rfl
set_option maxRecDepth 20000 in
theorem f_La_law_115 : fetch 0 115 = some (.i2l, 1, 0, 0, 0) := rfl
set_option maxRecDepth 20000 in
theorem f_La_law_116 : fetch 0 116 = some (.ldc2_w 13, 3, 4294967295, 0, 0) := rfl
set_option maxRecDepth 20000 in
theorem f_La_law_119 : fetch 0 119 = some (.land, 1, 0, 0, 0) := rfl
set_option maxRecDepth 20000 in
theorem f_La_law_120 : fetch 0 120 = some (.lor, 1, 0, 0, 0) := rfl
set_option maxRecDepth 20000 in
theorem f_La_law_121 : fetch 0 121 = some (.aload_n 0, 1, 0, 0, 0) := rfl
set_option maxRecDepth 20000 in
theorem f_La_law_122 : fetch 0 122 = some (.iload_n 3, 1, 0, 0, 0) := rfl
set_option maxRecDepth 20000 in
theorem f_La_law_123 : fetch 0 123 = some (.iconst 3, 1, 0, 0, 0) := rfl
set_option maxRecDepth 20000 in
theorem f_La_law_124 : fetch 0 124 = some (.iadd, 1, 0, 0, 0) := rfl
set_option maxRecDepth 20000 in
theorem f_La_law_125 : fetch 0 125 = some (.iaload, 1, 0, 0, 0) := rfl
set_option maxRecDepth 20000 in
theorem f_La_law_126 : fetch 0 126 = some (.invokevirtual 15, 3, 161, 2, 2) := rfl
set_option maxRecDepth 20000 in
theorem f_La_law_129 : fetch 0 129 = some (.aload_n 2, 1, 0, 0, 0) := rfl
set_option maxRecDepth 20000 in
theorem f_La_law_130 : fetch 0 130 = some (.aload_n 0, 1, 0, 0, 0) := rfl
set_option maxRecDepth 20000 in
theorem f_La_law_131 : fetch 0 131 = some (.iload_n 3, 1, 0, 0, 0) := rfl
set_option maxRecDepth 20000 in
theorem f_La_law_132 : fetch 0 132 = some (.iconst 1, 1, 0, 0, 0) := rfl
set_option maxRecDepth 20000 in
theorem f_La_law_133 : fetch 0 133 = some (.iadd, 1, 0, 0, 0) := rfl
set_option maxRecDepth 20000 in
theorem f_La_law_134 : fetch 0 134 = some (.iaload, 1, 0, 0, 0) := rfl
set_option maxRecDepth 20000 in
theorem f_La_law_135 : fetch 0 135 = some (.i2l, 1, 0, 0, 0) := rfl
set_option maxRecDepth 20000 in
theorem f_La_law_136 : fetch 0 136 = some (.bipush 32, 2, 0, 0, 0) := rfl
set_option maxRecDepth 20000 in
theorem f_La_law_138 : fetch 0 138 = some (.lshl, 1, 0, 0, 0) := rfl
set_option maxRecDepth 20000 in
theorem f_La_law_139 : fetch 0 139 = some (.aload_n 0, 1, 0, 0, 0) := rfl
set_option maxRecDepth 20000 in
theorem f_La_law_140 : fetch 0 140 = some (.iload_n 3, 1, 0, 0, 0) := rfl
set_option maxRecDepth 20000 in
theorem f_La_law_141 : fetch 0 141 = some (.iconst 2, 1, 0, 0, 0) := rfl
set_option maxRecDepth 20000 in
theorem f_La_law_142 : fetch 0 142 = some (.iadd, 1, 0, 0, 0) := rfl
set_option maxRecDepth 20000 in
theorem f_La_law_143 : fetch 0 143 = some (.iaload, 1, 0, 0, 0) := rfl
set_option maxRecDepth 20000 in
theorem f_La_law_144 : fetch 0 144 = some (.i2l, 1, 0, 0, 0) := rfl
set_option maxRecDepth 20000 in
theorem f_La_law_145 : fetch 0 145 = some (.ldc2_w 13, 3, 4294967295, 0, 0) := rfl
set_option maxRecDepth 20000 in
theorem f_La_law_148 : fetch 0 148 = some (.land, 1, 0, 0, 0) := rfl
set_option maxRecDepth 20000 in
theorem f_La_law_149 : fetch 0 149 = some (.lor, 1, 0, 0, 0) := rfl
set_option maxRecDepth 20000 in
theorem f_La_law_150 : fetch 0 150 = some (.aload_n 0, 1, 0, 0, 0) := rfl
set_option maxRecDepth 20000 in
theorem f_La_law_151 : fetch 0 151 = some (.iload_n 3, 1, 0, 0, 0) := rfl
set_option maxRecDepth 20000 in
theorem f_La_law_152 : fetch 0 152 = some (.iconst 3, 1, 0, 0, 0) := rfl
set_option maxRecDepth 20000 in
theorem f_La_law_153 : fetch 0 153 = some (.iadd, 1, 0, 0, 0) := rfl
set_option maxRecDepth 20000 in
theorem f_La_law_154 : fetch 0 154 = some (.iaload, 1, 0, 0, 0) := rfl
set_option maxRecDepth 20000 in
theorem f_La_law_155 : fetch 0 155 = some (.invokevirtual 19, 3, 28, 2, 3) := rfl
set_option maxRecDepth 20000 in
theorem f_La_law_158 : fetch 0 158 = some (.if_icmp .eq 299, 3, 457, 0, 0) := rfl
set_option maxRecDepth 20000 in
theorem f_La_law_161 : fetch 0 161 = some (.iconst 0, 1, 0, 0, 0) := rfl
set_option maxRecDepth 20000 in
theorem f_La_law_162 : fetch 0 162 = some (.ireturn, 1, 2, 0, 0) := rfl
set_option maxRecDepth 20000 in
theorem f_La_law_163 : fetch 0 163 = some (.aload_n 1, 1, 0, 0, 0) := rfl
set_option maxRecDepth 20000 in
theorem f_La_law_164 : fetch 0 164 = some (.invokevirtual 20, 3, 162, 0, 4) := rfl
set_option maxRecDepth 20000 in
theorem f_La_law_167 : fetch 0 167 = some (.aload_n 2, 1, 0, 0, 0) := rfl
set_option maxRecDepth 20000 in
theorem f_La_law_168 : fetch 0 168 = some (.invokevirtual 23, 3, 29, 0, 5) := rfl
set_option maxRecDepth 20000 in
theorem f_La_law_171 : fetch 0 171 = some (.goto 286, 3, 457, 0, 0) := rfl
set_option maxRecDepth 20000 in
theorem f_La_law_174 : fetch 0 174 = some (.aload_n 1, 1, 0, 0, 0) := rfl
set_option maxRecDepth 20000 in
theorem f_La_law_175 : fetch 0 175 = some (.invokevirtual 24, 3, 163, 0, 6) := rfl
set_option maxRecDepth 20000 in
theorem f_La_law_178 : fetch 0 178 = some (.aload_n 2, 1, 0, 0, 0) := rfl
set_option maxRecDepth 20000 in
theorem f_La_law_179 : fetch 0 179 = some (.invokevirtual 28, 3, 30, 0, 7) := rfl
set_option maxRecDepth 20000 in
theorem f_La_law_182 : fetch 0 182 = some (.if_icmp .eq 275, 3, 457, 0, 0) := rfl
set_option maxRecDepth 20000 in
theorem f_La_law_185 : fetch 0 185 = some (.iconst 0, 1, 0, 0, 0) := rfl
set_option maxRecDepth 20000 in
theorem f_La_law_186 : fetch 0 186 = some (.ireturn, 1, 2, 0, 0) := rfl
set_option maxRecDepth 20000 in
theorem f_La_law_187 : fetch 0 187 = some (.aload_n 1, 1, 0, 0, 0) := rfl
set_option maxRecDepth 20000 in
theorem f_La_law_188 : fetch 0 188 = some (.aload_n 0, 1, 0, 0, 0) := rfl
set_option maxRecDepth 20000 in
theorem f_La_law_189 : fetch 0 189 = some (.iload_n 3, 1, 0, 0, 0) := rfl
set_option maxRecDepth 20000 in
theorem f_La_law_190 : fetch 0 190 = some (.iconst 1, 1, 0, 0, 0) := rfl
set_option maxRecDepth 20000 in
theorem f_La_law_191 : fetch 0 191 = some (.iadd, 1, 0, 0, 0) := rfl
set_option maxRecDepth 20000 in
theorem f_La_law_192 : fetch 0 192 = some (.iaload, 1, 0, 0, 0) := rfl
set_option maxRecDepth 20000 in
theorem f_La_law_193 : fetch 0 193 = some (.invokevirtual 29, 3, 164, 1, 8) := rfl
set_option maxRecDepth 20000 in
theorem f_La_law_196 : fetch 0 196 = some (.aload_n 2, 1, 0, 0, 0) := rfl
set_option maxRecDepth 20000 in
theorem f_La_law_197 : fetch 0 197 = some (.aload_n 0, 1, 0, 0, 0) := rfl
set_option maxRecDepth 20000 in
theorem f_La_law_198 : fetch 0 198 = some (.iload_n 3, 1, 0, 0, 0) := rfl
set_option maxRecDepth 20000 in
theorem f_La_law_199 : fetch 0 199 = some (.iconst 1, 1, 0, 0, 0) := rfl
set_option maxRecDepth 20000 in
theorem f_La_law_200 : fetch 0 200 = some (.iadd, 1, 0, 0, 0) := rfl
set_option maxRecDepth 20000 in
theorem f_La_law_201 : fetch 0 201 = some (.iaload, 1, 0, 0, 0) := rfl
set_option maxRecDepth 20000 in
theorem f_La_law_202 : fetch 0 202 = some (.invokevirtual 33, 3, 64, 1, 9) := rfl
set_option maxRecDepth 20000 in
theorem f_La_law_205 : fetch 0 205 = some (.if_icmp .eq 252, 3, 457, 0, 0) := rfl
set_option maxRecDepth 20000 in
theorem f_La_law_208 : fetch 0 208 = some (.iconst 0, 1, 0, 0, 0) := rfl
set_option maxRecDepth 20000 in
theorem f_La_law_209 : fetch 0 209 = some (.ireturn, 1, 2, 0, 0) := rfl
set_option maxRecDepth 20000 in
theorem f_La_law_210 : fetch 0 210 = some (.aload_n 1, 1, 0, 0, 0) := rfl
set_option maxRecDepth 20000 in
theorem f_La_law_211 : fetch 0 211 = some (.aload_n 0, 1, 0, 0, 0) := rfl
set_option maxRecDepth 20000 in
theorem f_La_law_212 : fetch 0 212 = some (.iload_n 3, 1, 0, 0, 0) := rfl
set_option maxRecDepth 20000 in
theorem f_La_law_213 : fetch 0 213 = some (.iconst 1, 1, 0, 0, 0) := rfl
set_option maxRecDepth 20000 in
theorem f_La_law_214 : fetch 0 214 = some (.iadd, 1, 0, 0, 0) := rfl
set_option maxRecDepth 20000 in
theorem f_La_law_215 : fetch 0 215 = some (.iaload, 1, 0, 0, 0) := rfl
set_option maxRecDepth 20000 in
theorem f_La_law_216 : fetch 0 216 = some (.aload_n 0, 1, 0, 0, 0) := rfl
set_option maxRecDepth 20000 in
theorem f_La_law_217 : fetch 0 217 = some (.iload_n 3, 1, 0, 0, 0) := rfl
set_option maxRecDepth 20000 in
theorem f_La_law_218 : fetch 0 218 = some (.iconst 2, 1, 0, 0, 0) := rfl
set_option maxRecDepth 20000 in
theorem f_La_law_219 : fetch 0 219 = some (.iadd, 1, 0, 0, 0) := rfl
set_option maxRecDepth 20000 in
theorem f_La_law_220 : fetch 0 220 = some (.iaload, 1, 0, 0, 0) := rfl
set_option maxRecDepth 20000 in
theorem f_La_law_221 : fetch 0 221 = some (.invokevirtual 34, 3, 165, 2, 10) := rfl
set_option maxRecDepth 20000 in
theorem f_La_law_224 : fetch 0 224 = some (.aload_n 2, 1, 0, 0, 0) := rfl
set_option maxRecDepth 20000 in
theorem f_La_law_225 : fetch 0 225 = some (.aload_n 0, 1, 0, 0, 0) := rfl
set_option maxRecDepth 20000 in
theorem f_La_law_226 : fetch 0 226 = some (.iload_n 3, 1, 0, 0, 0) := rfl
set_option maxRecDepth 20000 in
theorem f_La_law_227 : fetch 0 227 = some (.iconst 1, 1, 0, 0, 0) := rfl
set_option maxRecDepth 20000 in
theorem f_La_law_228 : fetch 0 228 = some (.iadd, 1, 0, 0, 0) := rfl
set_option maxRecDepth 20000 in
theorem f_La_law_229 : fetch 0 229 = some (.iaload, 1, 0, 0, 0) := rfl
set_option maxRecDepth 20000 in
theorem f_La_law_230 : fetch 0 230 = some (.aload_n 0, 1, 0, 0, 0) := rfl
set_option maxRecDepth 20000 in
theorem f_La_law_231 : fetch 0 231 = some (.iload_n 3, 1, 0, 0, 0) := rfl
set_option maxRecDepth 20000 in
theorem f_La_law_232 : fetch 0 232 = some (.iconst 2, 1, 0, 0, 0) := rfl
set_option maxRecDepth 20000 in
theorem f_La_law_233 : fetch 0 233 = some (.iadd, 1, 0, 0, 0) := rfl
set_option maxRecDepth 20000 in
theorem f_La_law_234 : fetch 0 234 = some (.iaload, 1, 0, 0, 0) := rfl
set_option maxRecDepth 20000 in
theorem f_La_law_235 : fetch 0 235 = some (.invokevirtual 38, 3, 66, 2, 11) := rfl
set_option maxRecDepth 20000 in
theorem f_La_law_238 : fetch 0 238 = some (.if_icmp .eq 219, 3, 457, 0, 0) := rfl
set_option maxRecDepth 20000 in
theorem f_La_law_241 : fetch 0 241 = some (.iconst 0, 1, 0, 0, 0) := rfl
set_option maxRecDepth 20000 in
theorem f_La_law_242 : fetch 0 242 = some (.ireturn, 1, 2, 0, 0) := rfl
set_option maxRecDepth 20000 in
theorem f_La_law_243 : fetch 0 243 = some (.aload_n 1, 1, 0, 0, 0) := rfl
set_option maxRecDepth 20000 in
theorem f_La_law_244 : fetch 0 244 = some (.aload_n 0, 1, 0, 0, 0) := rfl
set_option maxRecDepth 20000 in
theorem f_La_law_245 : fetch 0 245 = some (.iload_n 3, 1, 0, 0, 0) := rfl
set_option maxRecDepth 20000 in
theorem f_La_law_246 : fetch 0 246 = some (.iconst 1, 1, 0, 0, 0) := rfl
set_option maxRecDepth 20000 in
theorem f_La_law_247 : fetch 0 247 = some (.iadd, 1, 0, 0, 0) := rfl
set_option maxRecDepth 20000 in
theorem f_La_law_248 : fetch 0 248 = some (.iaload, 1, 0, 0, 0) := rfl
set_option maxRecDepth 20000 in
theorem f_La_law_249 : fetch 0 249 = some (.aload_n 0, 1, 0, 0, 0) := rfl
set_option maxRecDepth 20000 in
theorem f_La_law_250 : fetch 0 250 = some (.iload_n 3, 1, 0, 0, 0) := rfl
set_option maxRecDepth 20000 in
theorem f_La_law_251 : fetch 0 251 = some (.iconst 2, 1, 0, 0, 0) := rfl
set_option maxRecDepth 20000 in
theorem f_La_law_252 : fetch 0 252 = some (.iadd, 1, 0, 0, 0) := rfl
set_option maxRecDepth 20000 in
theorem f_La_law_253 : fetch 0 253 = some (.iaload, 1, 0, 0, 0) := rfl
set_option maxRecDepth 20000 in
theorem f_La_law_254 : fetch 0 254 = some (.aload_n 0, 1, 0, 0, 0) := rfl
set_option maxRecDepth 20000 in
theorem f_La_law_255 : fetch 0 255 = some (.iload_n 3, 1, 0, 0, 0) := rfl
set_option maxRecDepth 20000 in
theorem f_La_law_256 : fetch 0 256 = some (.iconst 3, 1, 0, 0, 0) := rfl
set_option maxRecDepth 20000 in
theorem f_La_law_257 : fetch 0 257 = some (.iadd, 1, 0, 0, 0) := rfl
set_option maxRecDepth 20000 in
theorem f_La_law_258 : fetch 0 258 = some (.iaload, 1, 0, 0, 0) := rfl
set_option maxRecDepth 20000 in
theorem f_La_law_259 : fetch 0 259 = some (.invokevirtual 39, 3, 166, 3, 12) := rfl
set_option maxRecDepth 20000 in
theorem f_La_law_262 : fetch 0 262 = some (.aload_n 2, 1, 0, 0, 0) := rfl
set_option maxRecDepth 20000 in
theorem f_La_law_263 : fetch 0 263 = some (.aload_n 0, 1, 0, 0, 0) := rfl
set_option maxRecDepth 20000 in
theorem f_La_law_264 : fetch 0 264 = some (.iload_n 3, 1, 0, 0, 0) := rfl
set_option maxRecDepth 20000 in
theorem f_La_law_265 : fetch 0 265 = some (.iconst 1, 1, 0, 0, 0) := rfl
set_option maxRecDepth 20000 in
theorem f_La_law_266 : fetch 0 266 = some (.iadd, 1, 0, 0, 0) := rfl
set_option maxRecDepth 20000 in
theorem f_La_law_267 : fetch 0 267 = some (.iaload, 1, 0, 0, 0) := rfl
set_option maxRecDepth 20000 in
theorem f_La_law_268 : fetch 0 268 = some (.aload_n 0, 1, 0, 0, 0) := rfl
set_option maxRecDepth 20000 in
theorem f_La_law_269 : fetch 0 269 = some (.iload_n 3, 1, 0, 0, 0) := rfl
set_option maxRecDepth 20000 in
theorem f_La_law_270 : fetch 0 270 = some (.iconst 2, 1, 0, 0, 0) := rfl
set_option maxRecDepth 20000 in
theorem f_La_law_271 : fetch 0 271 = some (.iadd, 1, 0, 0, 0) := rfl
set_option maxRecDepth 20000 in
theorem f_La_law_272 : fetch 0 272 = some (.iaload, 1, 0, 0, 0) := rfl
set_option maxRecDepth 20000 in
theorem f_La_law_273 : fetch 0 273 = some (.aload_n 0, 1, 0, 0, 0) := rfl
set_option maxRecDepth 20000 in
theorem f_La_law_274 : fetch 0 274 = some (.iload_n 3, 1, 0, 0, 0) := rfl
set_option maxRecDepth 20000 in
theorem f_La_law_275 : fetch 0 275 = some (.iconst 3, 1, 0, 0, 0) := rfl
set_option maxRecDepth 20000 in
theorem f_La_law_276 : fetch 0 276 = some (.iadd, 1, 0, 0, 0) := rfl
set_option maxRecDepth 20000 in
theorem f_La_law_277 : fetch 0 277 = some (.iaload, 1, 0, 0, 0) := rfl
set_option maxRecDepth 20000 in
theorem f_La_law_278 : fetch 0 278 = some (.invokevirtual 43, 3, 67, 3, 13) := rfl
set_option maxRecDepth 20000 in
theorem f_La_law_281 : fetch 0 281 = some (.if_icmp .eq 176, 3, 457, 0, 0) := rfl
set_option maxRecDepth 20000 in
theorem f_La_law_284 : fetch 0 284 = some (.iconst 0, 1, 0, 0, 0) := rfl
set_option maxRecDepth 20000 in
theorem f_La_law_285 : fetch 0 285 = some (.ireturn, 1, 2, 0, 0) := rfl
set_option maxRecDepth 20000 in
theorem f_La_law_286 : fetch 0 286 = some (.aload_n 1, 1, 0, 0, 0) := rfl
set_option maxRecDepth 20000 in
theorem f_La_law_287 : fetch 0 287 = some (.aload_n 0, 1, 0, 0, 0) := rfl
set_option maxRecDepth 20000 in
theorem f_La_law_288 : fetch 0 288 = some (.iload_n 3, 1, 0, 0, 0) := rfl
set_option maxRecDepth 20000 in
theorem f_La_law_289 : fetch 0 289 = some (.iconst 1, 1, 0, 0, 0) := rfl
set_option maxRecDepth 20000 in
theorem f_La_law_290 : fetch 0 290 = some (.iadd, 1, 0, 0, 0) := rfl
set_option maxRecDepth 20000 in
theorem f_La_law_291 : fetch 0 291 = some (.iaload, 1, 0, 0, 0) := rfl
set_option maxRecDepth 20000 in
theorem f_La_law_292 : fetch 0 292 = some (.aload_n 0, 1, 0, 0, 0) := rfl
set_option maxRecDepth 20000 in
theorem f_La_law_293 : fetch 0 293 = some (.iload_n 3, 1, 0, 0, 0) := rfl
set_option maxRecDepth 20000 in
theorem f_La_law_294 : fetch 0 294 = some (.iconst 2, 1, 0, 0, 0) := rfl
set_option maxRecDepth 20000 in
theorem f_La_law_295 : fetch 0 295 = some (.iadd, 1, 0, 0, 0) := rfl
set_option maxRecDepth 20000 in
theorem f_La_law_296 : fetch 0 296 = some (.iaload, 1, 0, 0, 0) := rfl
set_option maxRecDepth 20000 in
theorem f_La_law_297 : fetch 0 297 = some (.aload_n 0, 1, 0, 0, 0) := rfl
set_option maxRecDepth 20000 in
theorem f_La_law_298 : fetch 0 298 = some (.iload_n 3, 1, 0, 0, 0) := rfl
set_option maxRecDepth 20000 in
theorem f_La_law_299 : fetch 0 299 = some (.iconst 3, 1, 0, 0, 0) := rfl
set_option maxRecDepth 20000 in
theorem f_La_law_300 : fetch 0 300 = some (.iadd, 1, 0, 0, 0) := rfl
set_option maxRecDepth 20000 in
theorem f_La_law_301 : fetch 0 301 = some (.iaload, 1, 0, 0, 0) := rfl
set_option maxRecDepth 20000 in
theorem f_La_law_302 : fetch 0 302 = some (.invokevirtual 44, 3, 167, 3, 14) := rfl
set_option maxRecDepth 20000 in
theorem f_La_law_305 : fetch 0 305 = some (.aload_n 2, 1, 0, 0, 0) := rfl
set_option maxRecDepth 20000 in
theorem f_La_law_306 : fetch 0 306 = some (.aload_n 0, 1, 0, 0, 0) := rfl
set_option maxRecDepth 20000 in
theorem f_La_law_307 : fetch 0 307 = some (.iload_n 3, 1, 0, 0, 0) := rfl
set_option maxRecDepth 20000 in
theorem f_La_law_308 : fetch 0 308 = some (.iconst 1, 1, 0, 0, 0) := rfl
set_option maxRecDepth 20000 in
theorem f_La_law_309 : fetch 0 309 = some (.iadd, 1, 0, 0, 0) := rfl
set_option maxRecDepth 20000 in
theorem f_La_law_310 : fetch 0 310 = some (.iaload, 1, 0, 0, 0) := rfl
set_option maxRecDepth 20000 in
theorem f_La_law_311 : fetch 0 311 = some (.aload_n 0, 1, 0, 0, 0) := rfl
set_option maxRecDepth 20000 in
theorem f_La_law_312 : fetch 0 312 = some (.iload_n 3, 1, 0, 0, 0) := rfl
set_option maxRecDepth 20000 in
theorem f_La_law_313 : fetch 0 313 = some (.iconst 2, 1, 0, 0, 0) := rfl
set_option maxRecDepth 20000 in
theorem f_La_law_314 : fetch 0 314 = some (.iadd, 1, 0, 0, 0) := rfl
set_option maxRecDepth 20000 in
theorem f_La_law_315 : fetch 0 315 = some (.iaload, 1, 0, 0, 0) := rfl
set_option maxRecDepth 20000 in
theorem f_La_law_316 : fetch 0 316 = some (.aload_n 0, 1, 0, 0, 0) := rfl
set_option maxRecDepth 20000 in
theorem f_La_law_317 : fetch 0 317 = some (.iload_n 3, 1, 0, 0, 0) := rfl
set_option maxRecDepth 20000 in
theorem f_La_law_318 : fetch 0 318 = some (.iconst 3, 1, 0, 0, 0) := rfl
set_option maxRecDepth 20000 in
theorem f_La_law_319 : fetch 0 319 = some (.iadd, 1, 0, 0, 0) := rfl
set_option maxRecDepth 20000 in
theorem f_La_law_320 : fetch 0 320 = some (.iaload, 1, 0, 0, 0) := rfl
set_option maxRecDepth 20000 in
theorem f_La_law_321 : fetch 0 321 = some (.invokevirtual 48, 3, 68, 3, 15) := rfl
set_option maxRecDepth 20000 in
theorem f_La_law_324 : fetch 0 324 = some (.if_icmp .eq 133, 3, 457, 0, 0) := rfl
set_option maxRecDepth 20000 in
theorem f_La_law_327 : fetch 0 327 = some (.iconst 0, 1, 0, 0, 0) := rfl
set_option maxRecDepth 20000 in
theorem f_La_law_328 : fetch 0 328 = some (.ireturn, 1, 2, 0, 0) := rfl
set_option maxRecDepth 20000 in
theorem f_La_law_329 : fetch 0 329 = some (.aload_n 1, 1, 0, 0, 0) := rfl
set_option maxRecDepth 20000 in
theorem f_La_law_330 : fetch 0 330 = some (.aload_n 0, 1, 0, 0, 0) := rfl
set_option maxRecDepth 20000 in
theorem f_La_law_331 : fetch 0 331 = some (.iload_n 3, 1, 0, 0, 0) := rfl
set_option maxRecDepth 20000 in
theorem f_La_law_332 : fetch 0 332 = some (.iconst 1, 1, 0, 0, 0) := rfl
set_option maxRecDepth 20000 in
theorem f_La_law_333 : fetch 0 333 = some (.iadd, 1, 0, 0, 0) := rfl
set_option maxRecDepth 20000 in
theorem f_La_law_334 : fetch 0 334 = some (.iaload, 1, 0, 0, 0) := rfl
set_option maxRecDepth 20000 in
theorem f_La_law_335 : fetch 0 335 = some (.invokevirtual 49, 3, 168, 1, 16) := rfl
set_option maxRecDepth 20000 in
theorem f_La_law_338 : fetch 0 338 = some (.aload_n 2, 1, 0, 0, 0) := rfl
set_option maxRecDepth 20000 in
theorem f_La_law_339 : fetch 0 339 = some (.aload_n 0, 1, 0, 0, 0) := rfl
set_option maxRecDepth 20000 in
theorem f_La_law_340 : fetch 0 340 = some (.iload_n 3, 1, 0, 0, 0) := rfl
set_option maxRecDepth 20000 in
theorem f_La_law_341 : fetch 0 341 = some (.iconst 1, 1, 0, 0, 0) := rfl
set_option maxRecDepth 20000 in
theorem f_La_law_342 : fetch 0 342 = some (.iadd, 1, 0, 0, 0) := rfl
set_option maxRecDepth 20000 in
theorem f_La_law_343 : fetch 0 343 = some (.iaload, 1, 0, 0, 0) := rfl
set_option maxRecDepth 20000 in
theorem f_La_law_344 : fetch 0 344 = some (.invokevirtual 53, 3, 73, 1, 17) := rfl
set_option maxRecDepth 20000 in
theorem f_La_law_347 : fetch 0 347 = some (.if_icmp .eq 110, 3, 457, 0, 0) := rfl
set_option maxRecDepth 20000 in
theorem f_La_law_350 : fetch 0 350 = some (.iconst 0, 1, 0, 0, 0) := rfl
set_option maxRecDepth 20000 in
theorem f_La_law_351 : fetch 0 351 = some (.ireturn, 1, 2, 0, 0) := rfl
set_option maxRecDepth 20000 in
theorem f_La_law_352 : fetch 0 352 = some (.aload_n 1, 1, 0, 0, 0) := rfl
set_option maxRecDepth 20000 in
theorem f_La_law_353 : fetch 0 353 = some (.invokevirtual 54, 3, 169, 0, 18) := rfl
set_option maxRecDepth 20000 in
theorem f_La_law_356 : fetch 0 356 = some (.aload_n 2, 1, 0, 0, 0) := rfl
set_option maxRecDepth 20000 in
theorem f_La_law_357 : fetch 0 357 = some (.invokevirtual 57, 3, 96, 0, 19) := rfl
set_option maxRecDepth 20000 in
theorem f_La_law_360 : fetch 0 360 = some (.if_icmp .eq 97, 3, 457, 0, 0) := rfl
set_option maxRecDepth 20000 in
theorem f_La_law_363 : fetch 0 363 = some (.iconst 0, 1, 0, 0, 0) := rfl
set_option maxRecDepth 20000 in
theorem f_La_law_364 : fetch 0 364 = some (.ireturn, 1, 2, 0, 0) := rfl
set_option maxRecDepth 20000 in
theorem f_La_law_365 : fetch 0 365 = some (.aload_n 1, 1, 0, 0, 0) := rfl
set_option maxRecDepth 20000 in
theorem f_La_law_366 : fetch 0 366 = some (.invokevirtual 58, 3, 170, 0, 20) := rfl
set_option maxRecDepth 20000 in
theorem f_La_law_369 : fetch 0 369 = some (.aload_n 2, 1, 0, 0, 0) := rfl
set_option maxRecDepth 20000 in
theorem f_La_law_370 : fetch 0 370 = some (.invokevirtual 61, 3, 97, 0, 21) := rfl
set_option maxRecDepth 20000 in
theorem f_La_law_373 : fetch 0 373 = some (.if_icmp .eq 84, 3, 457, 0, 0) := rfl
set_option maxRecDepth 20000 in
theorem f_La_law_376 : fetch 0 376 = some (.iconst 0, 1, 0, 0, 0) := rfl
set_option maxRecDepth 20000 in
theorem f_La_law_377 : fetch 0 377 = some (.ireturn, 1, 2, 0, 0) := rfl
set_option maxRecDepth 20000 in
theorem f_La_law_378 : fetch 0 378 = some (.aload_n 1, 1, 0, 0, 0) := rfl
set_option maxRecDepth 20000 in
theorem f_La_law_379 : fetch 0 379 = some (.aload_n 0, 1, 0, 0, 0) := rfl
set_option maxRecDepth 20000 in
theorem f_La_law_380 : fetch 0 380 = some (.iload_n 3, 1, 0, 0, 0) := rfl
set_option maxRecDepth 20000 in
theorem f_La_law_381 : fetch 0 381 = some (.iconst 1, 1, 0, 0, 0) := rfl
set_option maxRecDepth 20000 in
theorem f_La_law_382 : fetch 0 382 = some (.iadd, 1, 0, 0, 0) := rfl
set_option maxRecDepth 20000 in
theorem f_La_law_383 : fetch 0 383 = some (.iaload, 1, 0, 0, 0) := rfl
set_option maxRecDepth 20000 in
theorem f_La_law_384 : fetch 0 384 = some (.invokevirtual 62, 3, 171, 1, 22) := rfl
set_option maxRecDepth 20000 in
theorem f_La_law_387 : fetch 0 387 = some (.aload_n 2, 1, 0, 0, 0) := rfl
set_option maxRecDepth 20000 in
theorem f_La_law_388 : fetch 0 388 = some (.aload_n 0, 1, 0, 0, 0) := rfl
set_option maxRecDepth 20000 in
theorem f_La_law_389 : fetch 0 389 = some (.iload_n 3, 1, 0, 0, 0) := rfl
set_option maxRecDepth 20000 in
theorem f_La_law_390 : fetch 0 390 = some (.iconst 1, 1, 0, 0, 0) := rfl
set_option maxRecDepth 20000 in
theorem f_La_law_391 : fetch 0 391 = some (.iadd, 1, 0, 0, 0) := rfl
set_option maxRecDepth 20000 in
theorem f_La_law_392 : fetch 0 392 = some (.iaload, 1, 0, 0, 0) := rfl
set_option maxRecDepth 20000 in
theorem f_La_law_393 : fetch 0 393 = some (.invokevirtual 65, 3, 98, 1, 23) := rfl
set_option maxRecDepth 20000 in
theorem f_La_law_396 : fetch 0 396 = some (.if_icmp .eq 61, 3, 457, 0, 0) := rfl
set_option maxRecDepth 20000 in
theorem f_La_law_399 : fetch 0 399 = some (.iconst 0, 1, 0, 0, 0) := rfl
set_option maxRecDepth 20000 in
theorem f_La_law_400 : fetch 0 400 = some (.ireturn, 1, 2, 0, 0) := rfl
set_option maxRecDepth 20000 in
theorem f_La_law_401 : fetch 0 401 = some (.aload_n 1, 1, 0, 0, 0) := rfl
set_option maxRecDepth 20000 in
theorem f_La_law_402 : fetch 0 402 = some (.aload_n 0, 1, 0, 0, 0) := rfl
set_option maxRecDepth 20000 in
theorem f_La_law_403 : fetch 0 403 = some (.iload_n 3, 1, 0, 0, 0) := rfl
set_option maxRecDepth 20000 in
theorem f_La_law_404 : fetch 0 404 = some (.iconst 1, 1, 0, 0, 0) := rfl
set_option maxRecDepth 20000 in
theorem f_La_law_405 : fetch 0 405 = some (.iadd, 1, 0, 0, 0) := rfl
set_option maxRecDepth 20000 in
theorem f_La_law_406 : fetch 0 406 = some (.iaload, 1, 0, 0, 0) := rfl
set_option maxRecDepth 20000 in
theorem f_La_law_407 : fetch 0 407 = some (.invokevirtual 66, 3, 172, 1, 24) := rfl
set_option maxRecDepth 20000 in
theorem f_La_law_410 : fetch 0 410 = some (.aload_n 2, 1, 0, 0, 0) := rfl
set_option maxRecDepth 20000 in
theorem f_La_law_411 : fetch 0 411 = some (.aload_n 0, 1, 0, 0, 0) := rfl
set_option maxRecDepth 20000 in
theorem f_La_law_412 : fetch 0 412 = some (.iload_n 3, 1, 0, 0, 0) := rfl
set_option maxRecDepth 20000 in
theorem f_La_law_413 : fetch 0 413 = some (.iconst 1, 1, 0, 0, 0) := rfl
set_option maxRecDepth 20000 in
theorem f_La_law_414 : fetch 0 414 = some (.iadd, 1, 0, 0, 0) := rfl
set_option maxRecDepth 20000 in
theorem f_La_law_415 : fetch 0 415 = some (.iaload, 1, 0, 0, 0) := rfl
set_option maxRecDepth 20000 in
theorem f_La_law_416 : fetch 0 416 = some (.invokevirtual 69, 3, 99, 1, 25) := rfl
set_option maxRecDepth 20000 in
theorem f_La_law_419 : fetch 0 419 = some (.if_icmp .eq 38, 3, 457, 0, 0) := rfl
set_option maxRecDepth 20000 in
theorem f_La_law_422 : fetch 0 422 = some (.iconst 0, 1, 0, 0, 0) := rfl
set_option maxRecDepth 20000 in
theorem f_La_law_423 : fetch 0 423 = some (.ireturn, 1, 2, 0, 0) := rfl
set_option maxRecDepth 20000 in
theorem f_La_law_424 : fetch 0 424 = some (.aload_n 1, 1, 0, 0, 0) := rfl
set_option maxRecDepth 20000 in
theorem f_La_law_425 : fetch 0 425 = some (.aload_n 0, 1, 0, 0, 0) := rfl
set_option maxRecDepth 20000 in
theorem f_La_law_426 : fetch 0 426 = some (.iload_n 3, 1, 0, 0, 0) := rfl
set_option maxRecDepth 20000 in
theorem f_La_law_427 : fetch 0 427 = some (.iconst 1, 1, 0, 0, 0) := rfl
set_option maxRecDepth 20000 in
theorem f_La_law_428 : fetch 0 428 = some (.iadd, 1, 0, 0, 0) := rfl
set_option maxRecDepth 20000 in
theorem f_La_law_429 : fetch 0 429 = some (.iaload, 1, 0, 0, 0) := rfl
set_option maxRecDepth 20000 in
theorem f_La_law_430 : fetch 0 430 = some (.aload_n 0, 1, 0, 0, 0) := rfl
set_option maxRecDepth 20000 in
theorem f_La_law_431 : fetch 0 431 = some (.iload_n 3, 1, 0, 0, 0) := rfl
set_option maxRecDepth 20000 in
theorem f_La_law_432 : fetch 0 432 = some (.iconst 2, 1, 0, 0, 0) := rfl
set_option maxRecDepth 20000 in
theorem f_La_law_433 : fetch 0 433 = some (.iadd, 1, 0, 0, 0) := rfl
set_option maxRecDepth 20000 in
theorem f_La_law_434 : fetch 0 434 = some (.iaload, 1, 0, 0, 0) := rfl
set_option maxRecDepth 20000 in
theorem f_La_law_435 : fetch 0 435 = some (.invokevirtual 70, 3, 173, 2, 26) := rfl
set_option maxRecDepth 20000 in
theorem f_La_law_438 : fetch 0 438 = some (.aload_n 2, 1, 0, 0, 0) := rfl
set_option maxRecDepth 20000 in
theorem f_La_law_439 : fetch 0 439 = some (.aload_n 0, 1, 0, 0, 0) := rfl
set_option maxRecDepth 20000 in
theorem f_La_law_440 : fetch 0 440 = some (.iload_n 3, 1, 0, 0, 0) := rfl
set_option maxRecDepth 20000 in
theorem f_La_law_441 : fetch 0 441 = some (.iconst 1, 1, 0, 0, 0) := rfl
set_option maxRecDepth 20000 in
theorem f_La_law_442 : fetch 0 442 = some (.iadd, 1, 0, 0, 0) := rfl
set_option maxRecDepth 20000 in
theorem f_La_law_443 : fetch 0 443 = some (.iaload, 1, 0, 0, 0) := rfl
set_option maxRecDepth 20000 in
theorem f_La_law_444 : fetch 0 444 = some (.aload_n 0, 1, 0, 0, 0) := rfl
set_option maxRecDepth 20000 in
theorem f_La_law_445 : fetch 0 445 = some (.iload_n 3, 1, 0, 0, 0) := rfl
set_option maxRecDepth 20000 in
theorem f_La_law_446 : fetch 0 446 = some (.iconst 2, 1, 0, 0, 0) := rfl
set_option maxRecDepth 20000 in
theorem f_La_law_447 : fetch 0 447 = some (.iadd, 1, 0, 0, 0) := rfl
set_option maxRecDepth 20000 in
theorem f_La_law_448 : fetch 0 448 = some (.iaload, 1, 0, 0, 0) := rfl
set_option maxRecDepth 20000 in
theorem f_La_law_449 : fetch 0 449 = some (.invokevirtual 73, 3, 100, 2, 27) := rfl
set_option maxRecDepth 20000 in
theorem f_La_law_452 : fetch 0 452 = some (.if_icmp .eq 5, 3, 457, 0, 0) := rfl
set_option maxRecDepth 20000 in
theorem f_La_law_455 : fetch 0 455 = some (.iconst 0, 1, 0, 0, 0) := rfl
set_option maxRecDepth 20000 in
theorem f_La_law_456 : fetch 0 456 = some (.ireturn, 1, 2, 0, 0) := rfl
set_option maxRecDepth 20000 in
theorem f_La_law_457 : fetch 0 457 = some (.iinc 3 4, 3, 0, 0, 0) := rfl
set_option maxRecDepth 20000 in
theorem f_La_law_460 : fetch 0 460 = some (.goto (-442), 3, 18, 0, 0) := rfl
set_option maxRecDepth 20000 in
theorem f_La_law_463 : fetch 0 463 = some (.iconst 1, 1, 0, 0, 0) := rfl
set_option maxRecDepth 20000 in
theorem f_La_law_464 : fetch 0 464 = some (.ireturn, 1, 2, 0, 0) := rfl
def F_La_457 (rec18 : Int32 → SG → SG → Option (Bool × SG × SG)) (x3 : Int32) (σc σm : SG) : Option (Bool × SG × SG) :=
  rec18 ((x3 + 4)) σc σm
theorem w_La_457 {b sb n : Nat} {xs : Nat → Int32} {sc : SC} {Q : Option Value → List PE → Prop} {res : Bool × SG × SG} {rec18 : Int32 → SG → SG → Option (Bool × SG × SG)} (hr18 : ∀ (lv : LV) (x3 : Int32) (σc σm : SG), lv.lookup 0 = some (.ref sb) → lv.lookup 1 = some (.ref (b + 0)) → lv.lookup 2 = some (.ref (b + 176)) → lv.lookup 3 = some (.int x3) → rec18 x3 σc σm = some res → Rn b sc (8 + 1) 0 18 lv [] (G b σc σm) Q) (lv : LV) (x3 : Int32) (σc σm : SG) (l0 : lv.lookup 0 = some (.ref sb)) (l1 : lv.lookup 1 = some (.ref (b + 0))) (l2 : lv.lookup 2 = some (.ref (b + 176))) (l3 : lv.lookup 3 = some (.int x3)) (hF : F_La_457 rec18 x3 σc σm = some res) : Rn b sc (8 + 1) 0 457 lv [] (G b σc σm) Q := by
  unfold F_La_457 at hF
  refine r_iinc f_La_law_457 l3 (w := x3 + 4) rfl ?_
  refine r_goto f_La_law_460 ?_
  exact hr18 _ ((x3 + 4)) σc σm (lk_put_ne l0 (by decide) (Or.inl rfl)) (lk_put_ne l1 (by decide) (Or.inl rfl)) (lk_put_ne l2 (by decide) (Or.inl rfl)) lk_put hF
/-- one round of the law -/
def F_La_body (n : Nat) (xs : Nat → Int32) (rec18 : Int32 → SG → SG → Option (Bool × SG × SG)) (x3 : Int32) (σc σm : SG) : Option (Bool × SG × SG) :=
  if ((Int32.ofNat n) - 4) < x3 then
  some (true, σc, σm)
  else if x3 < 0 ∨ n ≤ (x3).toNatClampNeg then none else
  if ((xs (x3).toNatClampNeg) &&& 15) = 0 then
  if (x3 + 1) < 0 ∨ n ≤ ((x3 + 1)).toNatClampNeg then none else
  if (x3 + 2) < 0 ∨ n ≤ ((x3 + 2)).toNatClampNeg then none else
  if (x3 + 3) < 0 ∨ n ≤ ((x3 + 3)).toNatClampNeg then none else
  match F_TE_draft 0 ((((((xs ((x3 + 1)).toNatClampNeg) : Int32).toInt64) <<< ((32 : Int32).toInt64 &&& 63)) ||| ((((xs ((x3 + 2)).toNatClampNeg) : Int32).toInt64) &&& 4294967295))) ((xs ((x3 + 3)).toNatClampNeg)) σc with
  | none => none
  | some q7 =>
  if (x3 + 1) < 0 ∨ n ≤ ((x3 + 1)).toNatClampNeg then none else
  if (x3 + 2) < 0 ∨ n ≤ ((x3 + 2)).toNatClampNeg then none else
  if (x3 + 3) < 0 ∨ n ≤ ((x3 + 3)).toNatClampNeg then none else
  match F_Mo_draft 0 ((((((xs ((x3 + 1)).toNatClampNeg) : Int32).toInt64) <<< ((32 : Int32).toInt64 &&& 63)) ||| ((((xs ((x3 + 2)).toNatClampNeg) : Int32).toInt64) &&& 4294967295))) ((xs ((x3 + 3)).toNatClampNeg)) σm with
  | none => none
  | some q11 =>
  if q7.1 = q11.1 then
  F_La_457 rec18 (x3) q7.2 q11.2
  else some (false, q7.2, q11.2)
  else if ((xs (x3).toNatClampNeg) &&& 15) = 1 then
  match F_TE_clear 0  σc with
  | none => none
  | some q14 =>
  match F_Mo_clear 0  σm with
  | none => none
  | some q15 =>
  F_La_457 rec18 (x3) q14 q15
  else if ((xs (x3).toNatClampNeg) &&& 15) = 2 then
  match F_TE_load 0  σc with
  | none => none
  | some q17 =>
  match F_Mo_load 0  σm with
  | none => none
  | some q18 =>
  if q17.1 = q18.1 then
  F_La_457 rec18 (x3) q17.2 q18.2
  else some (false, q17.2, q18.2)
  else if ((xs (x3).toNatClampNeg) &&& 15) = 3 then
  if (x3 + 1) < 0 ∨ n ≤ ((x3 + 1)).toNatClampNeg then none else
  match F_TE_verified 0 ((xs ((x3 + 1)).toNatClampNeg)) σc with
  | none => none
  | some q22 =>
  if (x3 + 1) < 0 ∨ n ≤ ((x3 + 1)).toNatClampNeg then none else
  match F_Mo_verified 0 ((xs ((x3 + 1)).toNatClampNeg)) σm with
  | none => none
  | some q24 =>
  if q22.1 = q24.1 then
  F_La_457 rec18 (x3) q22.2 q24.2
  else some (false, q22.2, q24.2)
  else if ((xs (x3).toNatClampNeg) &&& 15) = 4 then
  if (x3 + 1) < 0 ∨ n ≤ ((x3 + 1)).toNatClampNeg then none else
  if (x3 + 2) < 0 ∨ n ≤ ((x3 + 2)).toNatClampNeg then none else
  match F_TE_depth 0 ((xs ((x3 + 1)).toNatClampNeg)) ((xs ((x3 + 2)).toNatClampNeg)) σc with
  | none => none
  | some q29 =>
  if (x3 + 1) < 0 ∨ n ≤ ((x3 + 1)).toNatClampNeg then none else
  if (x3 + 2) < 0 ∨ n ≤ ((x3 + 2)).toNatClampNeg then none else
  match F_Mo_depth 0 ((xs ((x3 + 1)).toNatClampNeg)) ((xs ((x3 + 2)).toNatClampNeg)) σm with
  | none => none
  | some q32 =>
  if q29.1 = q32.1 then
  F_La_457 rec18 (x3) q29.2 q32.2
  else some (false, q29.2, q32.2)
  else if ((xs (x3).toNatClampNeg) &&& 15) = 5 then
  if (x3 + 1) < 0 ∨ n ≤ ((x3 + 1)).toNatClampNeg then none else
  if (x3 + 2) < 0 ∨ n ≤ ((x3 + 2)).toNatClampNeg then none else
  if (x3 + 3) < 0 ∨ n ≤ ((x3 + 3)).toNatClampNeg then none else
  match F_TE_type 0 ((xs ((x3 + 1)).toNatClampNeg)) ((xs ((x3 + 2)).toNatClampNeg)) ((xs ((x3 + 3)).toNatClampNeg)) σc with
  | none => none
  | some q38 =>
  if (x3 + 1) < 0 ∨ n ≤ ((x3 + 1)).toNatClampNeg then none else
  if (x3 + 2) < 0 ∨ n ≤ ((x3 + 2)).toNatClampNeg then none else
  if (x3 + 3) < 0 ∨ n ≤ ((x3 + 3)).toNatClampNeg then none else
  match F_Mo_type 0 ((xs ((x3 + 1)).toNatClampNeg)) ((xs ((x3 + 2)).toNatClampNeg)) ((xs ((x3 + 3)).toNatClampNeg)) σm with
  | none => none
  | some q42 =>
  if q38.1 = q42.1 then
  F_La_457 rec18 (x3) q38.2 q42.2
  else some (false, q38.2, q42.2)
  else if ((xs (x3).toNatClampNeg) &&& 15) = 6 then
  if (x3 + 1) < 0 ∨ n ≤ ((x3 + 1)).toNatClampNeg then none else
  if (x3 + 2) < 0 ∨ n ≤ ((x3 + 2)).toNatClampNeg then none else
  if (x3 + 3) < 0 ∨ n ≤ ((x3 + 3)).toNatClampNeg then none else
  match F_TE_start 0 ((xs ((x3 + 1)).toNatClampNeg)) ((xs ((x3 + 2)).toNatClampNeg)) ((xs ((x3 + 3)).toNatClampNeg)) σc with
  | none => none
  | some q48 =>
  if (x3 + 1) < 0 ∨ n ≤ ((x3 + 1)).toNatClampNeg then none else
  if (x3 + 2) < 0 ∨ n ≤ ((x3 + 2)).toNatClampNeg then none else
  if (x3 + 3) < 0 ∨ n ≤ ((x3 + 3)).toNatClampNeg then none else
  match F_Mo_start 0 ((xs ((x3 + 1)).toNatClampNeg)) ((xs ((x3 + 2)).toNatClampNeg)) ((xs ((x3 + 3)).toNatClampNeg)) σm with
  | none => none
  | some q52 =>
  if q48.1 = q52.1 then
  F_La_457 rec18 (x3) q48.2 q52.2
  else some (false, q48.2, q52.2)
  else if ((xs (x3).toNatClampNeg) &&& 15) = 7 then
  if (x3 + 1) < 0 ∨ n ≤ ((x3 + 1)).toNatClampNeg then none else
  match F_TE_step 0 ((xs ((x3 + 1)).toNatClampNeg)) σc with
  | none => none
  | some q56 =>
  if (x3 + 1) < 0 ∨ n ≤ ((x3 + 1)).toNatClampNeg then none else
  match F_Mo_step 0 ((xs ((x3 + 1)).toNatClampNeg)) σm with
  | none => none
  | some q58 =>
  if q56.1 = q58.1 then
  F_La_457 rec18 (x3) q56.2 q58.2
  else some (false, q56.2, q58.2)
  else if ((xs (x3).toNatClampNeg) &&& 15) = 8 then
  match F_TE_state 0  σc with
  | none => none
  | some q61 =>
  match F_Mo_state 0  σm with
  | none => none
  | some q62 =>
  if q61.1 = q62.1 then
  F_La_457 rec18 (x3) q61.2 q62.2
  else some (false, q61.2, q62.2)
  else if ((xs (x3).toNatClampNeg) &&& 15) = 9 then
  match F_TE_result 0  σc with
  | none => none
  | some q65 =>
  match F_Mo_result 0  σm with
  | none => none
  | some q66 =>
  if q65.1 = q66.1 then
  F_La_457 rec18 (x3) q65.2 q66.2
  else some (false, q65.2, q66.2)
  else if ((xs (x3).toNatClampNeg) &&& 15) = 10 then
  if (x3 + 1) < 0 ∨ n ≤ ((x3 + 1)).toNatClampNeg then none else
  match F_TE_look 0 ((xs ((x3 + 1)).toNatClampNeg)) σc with
  | none => none
  | some q70 =>
  if (x3 + 1) < 0 ∨ n ≤ ((x3 + 1)).toNatClampNeg then none else
  match F_Mo_look 0 ((xs ((x3 + 1)).toNatClampNeg)) σm with
  | none => none
  | some q72 =>
  if q70.1 = q72.1 then
  F_La_457 rec18 (x3) q70.2 q72.2
  else some (false, q70.2, q72.2)
  else if ((xs (x3).toNatClampNeg) &&& 15) = 11 then
  if (x3 + 1) < 0 ∨ n ≤ ((x3 + 1)).toNatClampNeg then none else
  match F_TE_peek 0 ((xs ((x3 + 1)).toNatClampNeg)) σc with
  | none => none
  | some q76 =>
  if (x3 + 1) < 0 ∨ n ≤ ((x3 + 1)).toNatClampNeg then none else
  match F_Mo_peek 0 ((xs ((x3 + 1)).toNatClampNeg)) σm with
  | none => none
  | some q78 =>
  if q76.1 = q78.1 then
  F_La_457 rec18 (x3) q76.2 q78.2
  else some (false, q76.2, q78.2)
  else if ((xs (x3).toNatClampNeg) &&& 15) = 12 then
  if (x3 + 1) < 0 ∨ n ≤ ((x3 + 1)).toNatClampNeg then none else
  if (x3 + 2) < 0 ∨ n ≤ ((x3 + 2)).toNatClampNeg then none else
  match F_TE_entered 0 ((xs ((x3 + 1)).toNatClampNeg)) ((xs ((x3 + 2)).toNatClampNeg)) σc with
  | none => none
  | some q83 =>
  if (x3 + 1) < 0 ∨ n ≤ ((x3 + 1)).toNatClampNeg then none else
  if (x3 + 2) < 0 ∨ n ≤ ((x3 + 2)).toNatClampNeg then none else
  match F_Mo_entered 0 ((xs ((x3 + 1)).toNatClampNeg)) ((xs ((x3 + 2)).toNatClampNeg)) σm with
  | none => none
  | some q86 =>
  if q83.1 = q86.1 then
  F_La_457 rec18 (x3) q83.2 q86.2
  else some (false, q83.2, q86.2)
  else F_La_457 rec18 (x3) σc σm
set_option maxHeartbeats 8000000 in
theorem w_La_body {b sb n : Nat} {xs : Nat → Int32} {sc : SC} {Q : Option Value → List PE → Prop} {res : Bool × SG × SG} {rec18 : Int32 → SG → SG → Option (Bool × SG × SG)} (hsb : sb < b) (hs : sc sb = some (n, xs)) (hr18 : ∀ (lv : LV) (x3 : Int32) (σc σm : SG), lv.lookup 0 = some (.ref sb) → lv.lookup 1 = some (.ref (b + 0)) → lv.lookup 2 = some (.ref (b + 176)) → lv.lookup 3 = some (.int x3) → rec18 x3 σc σm = some res → Rn b sc (8 + 1) 0 18 lv [] (G b σc σm) Q) (hQ : Q (some (.int (bz res.1))) (G b res.2.1 res.2.2)) (lv : LV) (x3 : Int32) (σc σm : SG) (l0 : lv.lookup 0 = some (.ref sb)) (l1 : lv.lookup 1 = some (.ref (b + 0))) (l2 : lv.lookup 2 = some (.ref (b + 176))) (l3 : lv.lookup 3 = some (.int x3)) (hF : F_La_body n xs rec18 x3 σc σm = some res) : Rn b sc (8 + 1) 0 18 lv [] (G b σc σm) Q := by
  unfold F_La_body at hF
  refine r_iload_n f_La_law_18 l3 ?_
  refine r_aload_n f_La_law_19 l0 ?_
  refine s_len hsb hs f_La_law_20 ?_
  refine r_iconst f_La_law_21 (v := 4) (by decide) ?_
  refine r_isub f_La_law_22 ?_
  refine r_icmp_gt f_La_law_23 (fun c1 => ?_) (fun c1 => ?_)
  · rw [if_pos c1] at hF
    refine r_iconst f_La_law_463 (v := 1) (by decide) ?_
    cases hF
    exact r_zreturn f_La_law_464 (bz_or (true)) hQ
  · rw [if_neg c1] at hF
    refine r_aload_n f_La_law_26 l0 ?_
    refine r_iload_n f_La_law_27 l3 ?_
    by_cases c2 : x3 < 0 ∨ n ≤ (x3).toNatClampNeg
    · rw [if_pos c2] at hF; cases hF
    rw [if_neg c2] at hF
    refine s_ald hsb hs f_La_law_28 c2 ?_
    refine r_bipush f_La_law_29 (v := 15) (by decide) ?_
    refine r_iand f_La_law_31 ?_
    by_cases c3 : ((xs (x3).toNatClampNeg) &&& 15) = 0
    · rw [if_pos c3] at hF
      refine r_tswI (t := 100) (off := 68) 0 f_La_law_32 (by rw [c3]; decide) (by rw [c3]; decide) (by rfl) (by decide) ?_
      refine r_aload_n f_La_law_100 l1 ?_
      refine r_aload_n f_La_law_101 l0 ?_
      refine r_iload_n f_La_law_102 l3 ?_
      refine r_iconst f_La_law_103 (v := 1) (by decide) ?_
      refine r_iadd f_La_law_104 ?_
      by_cases c4 : (x3 + 1) < 0 ∨ n ≤ ((x3 + 1)).toNatClampNeg
      · rw [if_pos c4] at hF; cases hF
      rw [if_neg c4] at hF
      refine s_ald hsb hs f_La_law_105 c4 ?_
      refine r_i2l f_La_law_106 ?_
      refine r_bipush f_La_law_107 (v := 32) (by decide) ?_
      refine r_lshl f_La_law_109 ?_
      refine r_aload_n f_La_law_110 l0 ?_
      refine r_iload_n f_La_law_111 l3 ?_
      refine r_iconst f_La_law_112 (v := 2) (by decide) ?_
      refine r_iadd f_La_law_113 ?_
      by_cases c5 : (x3 + 2) < 0 ∨ n ≤ ((x3 + 2)).toNatClampNeg
      · rw [if_pos c5] at hF; cases hF
      rw [if_neg c5] at hF
      refine s_ald hsb hs f_La_law_114 c5 ?_
      refine r_i2l f_La_law_115 ?_
      refine r_ldc2 f_La_law_116 (v := 4294967295) (by decide) ?_
      refine r_land f_La_law_119 ?_
      refine r_lor f_La_law_120 ?_
      refine r_aload_n f_La_law_121 l0 ?_
      refine r_iload_n f_La_law_122 l3 ?_
      refine r_iconst f_La_law_123 (v := 3) (by decide) ?_
      refine r_iadd f_La_law_124 ?_
      by_cases c6 : (x3 + 3) < 0 ∨ n ≤ ((x3 + 3)).toNatClampNeg
      · rw [if_pos c6] at hF; cases hF
      rw [if_neg c6] at hF
      refine s_ald hsb hs f_La_law_125 c6 ?_
      cases hq7 : F_TE_draft 0 ((((((xs ((x3 + 1)).toNatClampNeg) : Int32).toInt64) <<< ((32 : Int32).toInt64 &&& 63)) ||| ((((xs ((x3 + 2)).toNatClampNeg) : Int32).toInt64) &&& 4294967295))) ((xs ((x3 + 3)).toNatClampNeg)) σc with
      | none => simp only [hq7] at hF; cases hF
      | some q7 =>
        simp only [hq7] at hF
        rw [← G1]
        refine t_V2i (B := b) (pre := []) (tl := lay SHm (b + 176) σm) (k := 0) (c := 7) rfl (by decide) rfl rfl f_La_law_126 (by decide) (Nat.le_of_ble_eq_true rfl) (Nat.le_of_ble_eq_true rfl) (w_TE_draft (B := b) (pre := []) (tl := lay SHm (b + 176) σm) rfl  0 ((((((xs ((x3 + 1)).toNatClampNeg) : Int32).toInt64) <<< ((32 : Int32).toInt64 &&& 63)) ||| ((((xs ((x3 + 2)).toNatClampNeg) : Int32).toInt64) &&& 4294967295))) ((xs ((x3 + 3)).toNatClampNeg)) (by decide) hq7 ⟨_, rfl, ?_⟩)
        rw [G1]
        refine r_aload_n f_La_law_129 l2 ?_
        refine r_aload_n f_La_law_130 l0 ?_
        refine r_iload_n f_La_law_131 l3 ?_
        refine r_iconst f_La_law_132 (v := 1) (by decide) ?_
        refine r_iadd f_La_law_133 ?_
        by_cases c8 : (x3 + 1) < 0 ∨ n ≤ ((x3 + 1)).toNatClampNeg
        · rw [if_pos c8] at hF; cases hF
        rw [if_neg c8] at hF
        refine s_ald hsb hs f_La_law_134 c8 ?_
        refine r_i2l f_La_law_135 ?_
        refine r_bipush f_La_law_136 (v := 32) (by decide) ?_
        refine r_lshl f_La_law_138 ?_
        refine r_aload_n f_La_law_139 l0 ?_
        refine r_iload_n f_La_law_140 l3 ?_
        refine r_iconst f_La_law_141 (v := 2) (by decide) ?_
        refine r_iadd f_La_law_142 ?_
        by_cases c9 : (x3 + 2) < 0 ∨ n ≤ ((x3 + 2)).toNatClampNeg
        · rw [if_pos c9] at hF; cases hF
        rw [if_neg c9] at hF
        refine s_ald hsb hs f_La_law_143 c9 ?_
        refine r_i2l f_La_law_144 ?_
        refine r_ldc2 f_La_law_145 (v := 4294967295) (by decide) ?_
        refine r_land f_La_law_148 ?_
        refine r_lor f_La_law_149 ?_
        refine r_aload_n f_La_law_150 l0 ?_
        refine r_iload_n f_La_law_151 l3 ?_
        refine r_iconst f_La_law_152 (v := 3) (by decide) ?_
        refine r_iadd f_La_law_153 ?_
        by_cases c10 : (x3 + 3) < 0 ∨ n ≤ ((x3 + 3)).toNatClampNeg
        · rw [if_pos c10] at hF; cases hF
        rw [if_neg c10] at hF
        refine s_ald hsb hs f_La_law_154 c10 ?_
        cases hq11 : F_Mo_draft 0 ((((((xs ((x3 + 1)).toNatClampNeg) : Int32).toInt64) <<< ((32 : Int32).toInt64 &&& 63)) ||| ((((xs ((x3 + 2)).toNatClampNeg) : Int32).toInt64) &&& 4294967295))) ((xs ((x3 + 3)).toNatClampNeg)) σm with
        | none => simp only [hq11] at hF; cases hF
        | some q11 =>
          simp only [hq11] at hF
          rw [← G2]
          refine t_V2i (B := b + 176) (pre := lay SHc b q7.2) (tl := []) (k := 0) (c := 8) G3 (by decide) rfl rfl f_La_law_155 (by decide) (Nat.le_of_ble_eq_true rfl) (Nat.le_of_ble_eq_true rfl) (w_Mo_draft (B := b + 176) (pre := lay SHc b q7.2) (tl := []) G3  0 ((((((xs ((x3 + 1)).toNatClampNeg) : Int32).toInt64) <<< ((32 : Int32).toInt64 &&& 63)) ||| ((((xs ((x3 + 2)).toNatClampNeg) : Int32).toInt64) &&& 4294967295))) ((xs ((x3 + 3)).toNatClampNeg)) (by decide) hq11 ⟨_, rfl, ?_⟩)
          rw [G2]
          refine r_icmp_eq f_La_law_158 (fun c12 => ?_) (fun c12 => ?_)
          · rw [if_pos (bz_inj.mp c12)] at hF
            exact w_La_457 (n := n) (xs := xs) hr18 _ (x3) q7.2 q11.2 l0 l1 l2 l3 hF
          · rw [if_neg (fun z => c12 (bz_inj.mpr z))] at hF
            refine r_iconst f_La_law_161 (v := 0) (by decide) ?_
            cases hF
            exact r_zreturn f_La_law_162 (bz_or (false)) hQ
    rw [if_neg c3] at hF
    by_cases c13 : ((xs (x3).toNatClampNeg) &&& 15) = 1
    · rw [if_pos c13] at hF
      refine r_tswI (t := 163) (off := 131) 1 f_La_law_32 (by rw [c13]; decide) (by rw [c13]; decide) (by rfl) (by decide) ?_
      refine r_aload_n f_La_law_163 l1 ?_
      cases hq14 : F_TE_clear 0  σc with
      | none => simp only [hq14] at hF; cases hF
      | some q14 =>
        simp only [hq14] at hF
        rw [← G1]
        refine t_V0v (B := b) (pre := []) (tl := lay SHm (b + 176) σm) (k := 0) (c := 7) rfl (by decide) rfl rfl f_La_law_164 (by decide) (Nat.le_of_ble_eq_true rfl) (Nat.le_of_ble_eq_true rfl) (w_TE_clear (B := b) (pre := []) (tl := lay SHm (b + 176) σm) rfl  0  (by decide) hq14 ⟨rfl, ?_⟩)
        rw [G1]
        refine r_aload_n f_La_law_167 l2 ?_
        cases hq15 : F_Mo_clear 0  σm with
        | none => simp only [hq15] at hF; cases hF
        | some q15 =>
          simp only [hq15] at hF
          rw [← G2]
          refine t_V0v (B := b + 176) (pre := lay SHc b q14) (tl := []) (k := 0) (c := 8) G3 (by decide) rfl rfl f_La_law_168 (by decide) (Nat.le_of_ble_eq_true rfl) (Nat.le_of_ble_eq_true rfl) (w_Mo_clear (B := b + 176) (pre := lay SHc b q14) (tl := []) G3  0  (by decide) hq15 ⟨rfl, ?_⟩)
          rw [G2]
          refine r_goto f_La_law_171 ?_
          exact w_La_457 (n := n) (xs := xs) hr18 _ (x3) q14 q15 l0 l1 l2 l3 hF
    rw [if_neg c13] at hF
    by_cases c16 : ((xs (x3).toNatClampNeg) &&& 15) = 2
    · rw [if_pos c16] at hF
      refine r_tswI (t := 174) (off := 142) 2 f_La_law_32 (by rw [c16]; decide) (by rw [c16]; decide) (by rfl) (by decide) ?_
      refine r_aload_n f_La_law_174 l1 ?_
      cases hq17 : F_TE_load 0  σc with
      | none => simp only [hq17] at hF; cases hF
      | some q17 =>
        simp only [hq17] at hF
        rw [← G1]
        refine t_V0i (B := b) (pre := []) (tl := lay SHm (b + 176) σm) (k := 0) (c := 7) rfl (by decide) rfl rfl f_La_law_175 (by decide) (Nat.le_of_ble_eq_true rfl) (Nat.le_of_ble_eq_true rfl) (w_TE_load (B := b) (pre := []) (tl := lay SHm (b + 176) σm) rfl (by decide) 0  (by decide) hq17 ⟨_, rfl, ?_⟩)
        rw [G1]
        refine r_aload_n f_La_law_178 l2 ?_
        cases hq18 : F_Mo_load 0  σm with
        | none => simp only [hq18] at hF; cases hF
        | some q18 =>
          simp only [hq18] at hF
          rw [← G2]
          refine t_V0i (B := b + 176) (pre := lay SHc b q17.2) (tl := []) (k := 0) (c := 8) G3 (by decide) rfl rfl f_La_law_179 (by decide) (Nat.le_of_ble_eq_true rfl) (Nat.le_of_ble_eq_true rfl) (w_Mo_load (B := b + 176) (pre := lay SHc b q17.2) (tl := []) G3 (by decide) 0  (by decide) hq18 ⟨_, rfl, ?_⟩)
          rw [G2]
          refine r_icmp_eq f_La_law_182 (fun c19 => ?_) (fun c19 => ?_)
          · rw [if_pos c19] at hF
            exact w_La_457 (n := n) (xs := xs) hr18 _ (x3) q17.2 q18.2 l0 l1 l2 l3 hF
          · rw [if_neg c19] at hF
            refine r_iconst f_La_law_185 (v := 0) (by decide) ?_
            cases hF
            exact r_zreturn f_La_law_186 (bz_or (false)) hQ
    rw [if_neg c16] at hF
    by_cases c20 : ((xs (x3).toNatClampNeg) &&& 15) = 3
    · rw [if_pos c20] at hF
      refine r_tswI (t := 187) (off := 155) 3 f_La_law_32 (by rw [c20]; decide) (by rw [c20]; decide) (by rfl) (by decide) ?_
      refine r_aload_n f_La_law_187 l1 ?_
      refine r_aload_n f_La_law_188 l0 ?_
      refine r_iload_n f_La_law_189 l3 ?_
      refine r_iconst f_La_law_190 (v := 1) (by decide) ?_
      refine r_iadd f_La_law_191 ?_
      by_cases c21 : (x3 + 1) < 0 ∨ n ≤ ((x3 + 1)).toNatClampNeg
      · rw [if_pos c21] at hF; cases hF
      rw [if_neg c21] at hF
      refine s_ald hsb hs f_La_law_192 c21 ?_
      cases hq22 : F_TE_verified 0 ((xs ((x3 + 1)).toNatClampNeg)) σc with
      | none => simp only [hq22] at hF; cases hF
      | some q22 =>
        simp only [hq22] at hF
        rw [← G1]
        refine t_V1i (B := b) (pre := []) (tl := lay SHm (b + 176) σm) (k := 0) (c := 7) rfl (by decide) rfl rfl f_La_law_193 (by decide) (Nat.le_of_ble_eq_true rfl) (Nat.le_of_ble_eq_true rfl) (w_TE_verified (B := b) (pre := []) (tl := lay SHm (b + 176) σm) rfl (by decide) 0 ((xs ((x3 + 1)).toNatClampNeg)) (by decide) hq22 ⟨_, rfl, ?_⟩)
        rw [G1]
        refine r_aload_n f_La_law_196 l2 ?_
        refine r_aload_n f_La_law_197 l0 ?_
        refine r_iload_n f_La_law_198 l3 ?_
        refine r_iconst f_La_law_199 (v := 1) (by decide) ?_
        refine r_iadd f_La_law_200 ?_
        by_cases c23 : (x3 + 1) < 0 ∨ n ≤ ((x3 + 1)).toNatClampNeg
        · rw [if_pos c23] at hF; cases hF
        rw [if_neg c23] at hF
        refine s_ald hsb hs f_La_law_201 c23 ?_
        cases hq24 : F_Mo_verified 0 ((xs ((x3 + 1)).toNatClampNeg)) σm with
        | none => simp only [hq24] at hF; cases hF
        | some q24 =>
          simp only [hq24] at hF
          rw [← G2]
          refine t_V1i (B := b + 176) (pre := lay SHc b q22.2) (tl := []) (k := 0) (c := 8) G3 (by decide) rfl rfl f_La_law_202 (by decide) (Nat.le_of_ble_eq_true rfl) (Nat.le_of_ble_eq_true rfl) (w_Mo_verified (B := b + 176) (pre := lay SHc b q22.2) (tl := []) G3 (by decide) 0 ((xs ((x3 + 1)).toNatClampNeg)) (by decide) hq24 ⟨_, rfl, ?_⟩)
          rw [G2]
          refine r_icmp_eq f_La_law_205 (fun c25 => ?_) (fun c25 => ?_)
          · rw [if_pos (bz_inj.mp c25)] at hF
            exact w_La_457 (n := n) (xs := xs) hr18 _ (x3) q22.2 q24.2 l0 l1 l2 l3 hF
          · rw [if_neg (fun z => c25 (bz_inj.mpr z))] at hF
            refine r_iconst f_La_law_208 (v := 0) (by decide) ?_
            cases hF
            exact r_zreturn f_La_law_209 (bz_or (false)) hQ
    rw [if_neg c20] at hF
    by_cases c26 : ((xs (x3).toNatClampNeg) &&& 15) = 4
    · rw [if_pos c26] at hF
      refine r_tswI (t := 210) (off := 178) 4 f_La_law_32 (by rw [c26]; decide) (by rw [c26]; decide) (by rfl) (by decide) ?_
      refine r_aload_n f_La_law_210 l1 ?_
      refine r_aload_n f_La_law_211 l0 ?_
      refine r_iload_n f_La_law_212 l3 ?_
      refine r_iconst f_La_law_213 (v := 1) (by decide) ?_
      refine r_iadd f_La_law_214 ?_
      by_cases c27 : (x3 + 1) < 0 ∨ n ≤ ((x3 + 1)).toNatClampNeg
      · rw [if_pos c27] at hF; cases hF
      rw [if_neg c27] at hF
      refine s_ald hsb hs f_La_law_215 c27 ?_
      refine r_aload_n f_La_law_216 l0 ?_
      refine r_iload_n f_La_law_217 l3 ?_
      refine r_iconst f_La_law_218 (v := 2) (by decide) ?_
      refine r_iadd f_La_law_219 ?_
      by_cases c28 : (x3 + 2) < 0 ∨ n ≤ ((x3 + 2)).toNatClampNeg
      · rw [if_pos c28] at hF; cases hF
      rw [if_neg c28] at hF
      refine s_ald hsb hs f_La_law_220 c28 ?_
      cases hq29 : F_TE_depth 0 ((xs ((x3 + 1)).toNatClampNeg)) ((xs ((x3 + 2)).toNatClampNeg)) σc with
      | none => simp only [hq29] at hF; cases hF
      | some q29 =>
        simp only [hq29] at hF
        rw [← G1]
        refine t_V2i (B := b) (pre := []) (tl := lay SHm (b + 176) σm) (k := 0) (c := 7) rfl (by decide) rfl rfl f_La_law_221 (by decide) (Nat.le_of_ble_eq_true rfl) (Nat.le_of_ble_eq_true rfl) (w_TE_depth (B := b) (pre := []) (tl := lay SHm (b + 176) σm) rfl (by decide) 0 ((xs ((x3 + 1)).toNatClampNeg)) ((xs ((x3 + 2)).toNatClampNeg)) (by decide) hq29 ⟨_, rfl, ?_⟩)
        rw [G1]
        refine r_aload_n f_La_law_224 l2 ?_
        refine r_aload_n f_La_law_225 l0 ?_
        refine r_iload_n f_La_law_226 l3 ?_
        refine r_iconst f_La_law_227 (v := 1) (by decide) ?_
        refine r_iadd f_La_law_228 ?_
        by_cases c30 : (x3 + 1) < 0 ∨ n ≤ ((x3 + 1)).toNatClampNeg
        · rw [if_pos c30] at hF; cases hF
        rw [if_neg c30] at hF
        refine s_ald hsb hs f_La_law_229 c30 ?_
        refine r_aload_n f_La_law_230 l0 ?_
        refine r_iload_n f_La_law_231 l3 ?_
        refine r_iconst f_La_law_232 (v := 2) (by decide) ?_
        refine r_iadd f_La_law_233 ?_
        by_cases c31 : (x3 + 2) < 0 ∨ n ≤ ((x3 + 2)).toNatClampNeg
        · rw [if_pos c31] at hF; cases hF
        rw [if_neg c31] at hF
        refine s_ald hsb hs f_La_law_234 c31 ?_
        cases hq32 : F_Mo_depth 0 ((xs ((x3 + 1)).toNatClampNeg)) ((xs ((x3 + 2)).toNatClampNeg)) σm with
        | none => simp only [hq32] at hF; cases hF
        | some q32 =>
          simp only [hq32] at hF
          rw [← G2]
          refine t_V2i (B := b + 176) (pre := lay SHc b q29.2) (tl := []) (k := 0) (c := 8) G3 (by decide) rfl rfl f_La_law_235 (by decide) (Nat.le_of_ble_eq_true rfl) (Nat.le_of_ble_eq_true rfl) (w_Mo_depth (B := b + 176) (pre := lay SHc b q29.2) (tl := []) G3 (by decide) 0 ((xs ((x3 + 1)).toNatClampNeg)) ((xs ((x3 + 2)).toNatClampNeg)) (by decide) hq32 ⟨_, rfl, ?_⟩)
          rw [G2]
          refine r_icmp_eq f_La_law_238 (fun c33 => ?_) (fun c33 => ?_)
          · rw [if_pos c33] at hF
            exact w_La_457 (n := n) (xs := xs) hr18 _ (x3) q29.2 q32.2 l0 l1 l2 l3 hF
          · rw [if_neg c33] at hF
            refine r_iconst f_La_law_241 (v := 0) (by decide) ?_
            cases hF
            exact r_zreturn f_La_law_242 (bz_or (false)) hQ
    rw [if_neg c26] at hF
    by_cases c34 : ((xs (x3).toNatClampNeg) &&& 15) = 5
    · rw [if_pos c34] at hF
      refine r_tswI (t := 243) (off := 211) 5 f_La_law_32 (by rw [c34]; decide) (by rw [c34]; decide) (by rfl) (by decide) ?_
      refine r_aload_n f_La_law_243 l1 ?_
      refine r_aload_n f_La_law_244 l0 ?_
      refine r_iload_n f_La_law_245 l3 ?_
      refine r_iconst f_La_law_246 (v := 1) (by decide) ?_
      refine r_iadd f_La_law_247 ?_
      by_cases c35 : (x3 + 1) < 0 ∨ n ≤ ((x3 + 1)).toNatClampNeg
      · rw [if_pos c35] at hF; cases hF
      rw [if_neg c35] at hF
      refine s_ald hsb hs f_La_law_248 c35 ?_
      refine r_aload_n f_La_law_249 l0 ?_
      refine r_iload_n f_La_law_250 l3 ?_
      refine r_iconst f_La_law_251 (v := 2) (by decide) ?_
      refine r_iadd f_La_law_252 ?_
      by_cases c36 : (x3 + 2) < 0 ∨ n ≤ ((x3 + 2)).toNatClampNeg
      · rw [if_pos c36] at hF; cases hF
      rw [if_neg c36] at hF
      refine s_ald hsb hs f_La_law_253 c36 ?_
      refine r_aload_n f_La_law_254 l0 ?_
      refine r_iload_n f_La_law_255 l3 ?_
      refine r_iconst f_La_law_256 (v := 3) (by decide) ?_
      refine r_iadd f_La_law_257 ?_
      by_cases c37 : (x3 + 3) < 0 ∨ n ≤ ((x3 + 3)).toNatClampNeg
      · rw [if_pos c37] at hF; cases hF
      rw [if_neg c37] at hF
      refine s_ald hsb hs f_La_law_258 c37 ?_
      cases hq38 : F_TE_type 0 ((xs ((x3 + 1)).toNatClampNeg)) ((xs ((x3 + 2)).toNatClampNeg)) ((xs ((x3 + 3)).toNatClampNeg)) σc with
      | none => simp only [hq38] at hF; cases hF
      | some q38 =>
        simp only [hq38] at hF
        rw [← G1]
        refine t_V3i (B := b) (pre := []) (tl := lay SHm (b + 176) σm) (k := 0) (c := 7) rfl (by decide) rfl rfl f_La_law_259 (by decide) (Nat.le_of_ble_eq_true rfl) (Nat.le_of_ble_eq_true rfl) (w_TE_type (B := b) (pre := []) (tl := lay SHm (b + 176) σm) rfl (by decide) 0 ((xs ((x3 + 1)).toNatClampNeg)) ((xs ((x3 + 2)).toNatClampNeg)) ((xs ((x3 + 3)).toNatClampNeg)) (by decide) hq38 ⟨_, rfl, ?_⟩)
        rw [G1]
        refine r_aload_n f_La_law_262 l2 ?_
        refine r_aload_n f_La_law_263 l0 ?_
        refine r_iload_n f_La_law_264 l3 ?_
        refine r_iconst f_La_law_265 (v := 1) (by decide) ?_
        refine r_iadd f_La_law_266 ?_
        by_cases c39 : (x3 + 1) < 0 ∨ n ≤ ((x3 + 1)).toNatClampNeg
        · rw [if_pos c39] at hF; cases hF
        rw [if_neg c39] at hF
        refine s_ald hsb hs f_La_law_267 c39 ?_
        refine r_aload_n f_La_law_268 l0 ?_
        refine r_iload_n f_La_law_269 l3 ?_
        refine r_iconst f_La_law_270 (v := 2) (by decide) ?_
        refine r_iadd f_La_law_271 ?_
        by_cases c40 : (x3 + 2) < 0 ∨ n ≤ ((x3 + 2)).toNatClampNeg
        · rw [if_pos c40] at hF; cases hF
        rw [if_neg c40] at hF
        refine s_ald hsb hs f_La_law_272 c40 ?_
        refine r_aload_n f_La_law_273 l0 ?_
        refine r_iload_n f_La_law_274 l3 ?_
        refine r_iconst f_La_law_275 (v := 3) (by decide) ?_
        refine r_iadd f_La_law_276 ?_
        by_cases c41 : (x3 + 3) < 0 ∨ n ≤ ((x3 + 3)).toNatClampNeg
        · rw [if_pos c41] at hF; cases hF
        rw [if_neg c41] at hF
        refine s_ald hsb hs f_La_law_277 c41 ?_
        cases hq42 : F_Mo_type 0 ((xs ((x3 + 1)).toNatClampNeg)) ((xs ((x3 + 2)).toNatClampNeg)) ((xs ((x3 + 3)).toNatClampNeg)) σm with
        | none => simp only [hq42] at hF; cases hF
        | some q42 =>
          simp only [hq42] at hF
          rw [← G2]
          refine t_V3i (B := b + 176) (pre := lay SHc b q38.2) (tl := []) (k := 0) (c := 8) G3 (by decide) rfl rfl f_La_law_278 (by decide) (Nat.le_of_ble_eq_true rfl) (Nat.le_of_ble_eq_true rfl) (w_Mo_type (B := b + 176) (pre := lay SHc b q38.2) (tl := []) G3 (by decide) 0 ((xs ((x3 + 1)).toNatClampNeg)) ((xs ((x3 + 2)).toNatClampNeg)) ((xs ((x3 + 3)).toNatClampNeg)) (by decide) hq42 ⟨_, rfl, ?_⟩)
          rw [G2]
          refine r_icmp_eq f_La_law_281 (fun c43 => ?_) (fun c43 => ?_)
          · rw [if_pos c43] at hF
            exact w_La_457 (n := n) (xs := xs) hr18 _ (x3) q38.2 q42.2 l0 l1 l2 l3 hF
          · rw [if_neg c43] at hF
            refine r_iconst f_La_law_284 (v := 0) (by decide) ?_
            cases hF
            exact r_zreturn f_La_law_285 (bz_or (false)) hQ
    rw [if_neg c34] at hF
    by_cases c44 : ((xs (x3).toNatClampNeg) &&& 15) = 6
    · rw [if_pos c44] at hF
      refine r_tswI (t := 286) (off := 254) 6 f_La_law_32 (by rw [c44]; decide) (by rw [c44]; decide) (by rfl) (by decide) ?_
      refine r_aload_n f_La_law_286 l1 ?_
      refine r_aload_n f_La_law_287 l0 ?_
      refine r_iload_n f_La_law_288 l3 ?_
      refine r_iconst f_La_law_289 (v := 1) (by decide) ?_
      refine r_iadd f_La_law_290 ?_
      by_cases c45 : (x3 + 1) < 0 ∨ n ≤ ((x3 + 1)).toNatClampNeg
      · rw [if_pos c45] at hF; cases hF
      rw [if_neg c45] at hF
      refine s_ald hsb hs f_La_law_291 c45 ?_
      refine r_aload_n f_La_law_292 l0 ?_
      refine r_iload_n f_La_law_293 l3 ?_
      refine r_iconst f_La_law_294 (v := 2) (by decide) ?_
      refine r_iadd f_La_law_295 ?_
      by_cases c46 : (x3 + 2) < 0 ∨ n ≤ ((x3 + 2)).toNatClampNeg
      · rw [if_pos c46] at hF; cases hF
      rw [if_neg c46] at hF
      refine s_ald hsb hs f_La_law_296 c46 ?_
      refine r_aload_n f_La_law_297 l0 ?_
      refine r_iload_n f_La_law_298 l3 ?_
      refine r_iconst f_La_law_299 (v := 3) (by decide) ?_
      refine r_iadd f_La_law_300 ?_
      by_cases c47 : (x3 + 3) < 0 ∨ n ≤ ((x3 + 3)).toNatClampNeg
      · rw [if_pos c47] at hF; cases hF
      rw [if_neg c47] at hF
      refine s_ald hsb hs f_La_law_301 c47 ?_
      cases hq48 : F_TE_start 0 ((xs ((x3 + 1)).toNatClampNeg)) ((xs ((x3 + 2)).toNatClampNeg)) ((xs ((x3 + 3)).toNatClampNeg)) σc with
      | none => simp only [hq48] at hF; cases hF
      | some q48 =>
        simp only [hq48] at hF
        rw [← G1]
        refine t_V3i (B := b) (pre := []) (tl := lay SHm (b + 176) σm) (k := 0) (c := 7) rfl (by decide) rfl rfl f_La_law_302 (by decide) (Nat.le_of_ble_eq_true rfl) (Nat.le_of_ble_eq_true rfl) (w_TE_start (B := b) (pre := []) (tl := lay SHm (b + 176) σm) rfl (by decide) 0 ((xs ((x3 + 1)).toNatClampNeg)) ((xs ((x3 + 2)).toNatClampNeg)) ((xs ((x3 + 3)).toNatClampNeg)) (by decide) hq48 ⟨_, rfl, ?_⟩)
        rw [G1]
        refine r_aload_n f_La_law_305 l2 ?_
        refine r_aload_n f_La_law_306 l0 ?_
        refine r_iload_n f_La_law_307 l3 ?_
        refine r_iconst f_La_law_308 (v := 1) (by decide) ?_
        refine r_iadd f_La_law_309 ?_
        by_cases c49 : (x3 + 1) < 0 ∨ n ≤ ((x3 + 1)).toNatClampNeg
        · rw [if_pos c49] at hF; cases hF
        rw [if_neg c49] at hF
        refine s_ald hsb hs f_La_law_310 c49 ?_
        refine r_aload_n f_La_law_311 l0 ?_
        refine r_iload_n f_La_law_312 l3 ?_
        refine r_iconst f_La_law_313 (v := 2) (by decide) ?_
        refine r_iadd f_La_law_314 ?_
        by_cases c50 : (x3 + 2) < 0 ∨ n ≤ ((x3 + 2)).toNatClampNeg
        · rw [if_pos c50] at hF; cases hF
        rw [if_neg c50] at hF
        refine s_ald hsb hs f_La_law_315 c50 ?_
        refine r_aload_n f_La_law_316 l0 ?_
        refine r_iload_n f_La_law_317 l3 ?_
        refine r_iconst f_La_law_318 (v := 3) (by decide) ?_
        refine r_iadd f_La_law_319 ?_
        by_cases c51 : (x3 + 3) < 0 ∨ n ≤ ((x3 + 3)).toNatClampNeg
        · rw [if_pos c51] at hF; cases hF
        rw [if_neg c51] at hF
        refine s_ald hsb hs f_La_law_320 c51 ?_
        cases hq52 : F_Mo_start 0 ((xs ((x3 + 1)).toNatClampNeg)) ((xs ((x3 + 2)).toNatClampNeg)) ((xs ((x3 + 3)).toNatClampNeg)) σm with
        | none => simp only [hq52] at hF; cases hF
        | some q52 =>
          simp only [hq52] at hF
          rw [← G2]
          refine t_V3i (B := b + 176) (pre := lay SHc b q48.2) (tl := []) (k := 0) (c := 8) G3 (by decide) rfl rfl f_La_law_321 (by decide) (Nat.le_of_ble_eq_true rfl) (Nat.le_of_ble_eq_true rfl) (w_Mo_start (B := b + 176) (pre := lay SHc b q48.2) (tl := []) G3 (by decide) 0 ((xs ((x3 + 1)).toNatClampNeg)) ((xs ((x3 + 2)).toNatClampNeg)) ((xs ((x3 + 3)).toNatClampNeg)) (by decide) hq52 ⟨_, rfl, ?_⟩)
          rw [G2]
          refine r_icmp_eq f_La_law_324 (fun c53 => ?_) (fun c53 => ?_)
          · rw [if_pos (bz_inj.mp c53)] at hF
            exact w_La_457 (n := n) (xs := xs) hr18 _ (x3) q48.2 q52.2 l0 l1 l2 l3 hF
          · rw [if_neg (fun z => c53 (bz_inj.mpr z))] at hF
            refine r_iconst f_La_law_327 (v := 0) (by decide) ?_
            cases hF
            exact r_zreturn f_La_law_328 (bz_or (false)) hQ
    rw [if_neg c44] at hF
    by_cases c54 : ((xs (x3).toNatClampNeg) &&& 15) = 7
    · rw [if_pos c54] at hF
      refine r_tswI (t := 329) (off := 297) 7 f_La_law_32 (by rw [c54]; decide) (by rw [c54]; decide) (by rfl) (by decide) ?_
      refine r_aload_n f_La_law_329 l1 ?_
      refine r_aload_n f_La_law_330 l0 ?_
      refine r_iload_n f_La_law_331 l3 ?_
      refine r_iconst f_La_law_332 (v := 1) (by decide) ?_
      refine r_iadd f_La_law_333 ?_
      by_cases c55 : (x3 + 1) < 0 ∨ n ≤ ((x3 + 1)).toNatClampNeg
      · rw [if_pos c55] at hF; cases hF
      rw [if_neg c55] at hF
      refine s_ald hsb hs f_La_law_334 c55 ?_
      cases hq56 : F_TE_step 0 ((xs ((x3 + 1)).toNatClampNeg)) σc with
      | none => simp only [hq56] at hF; cases hF
      | some q56 =>
        simp only [hq56] at hF
        rw [← G1]
        refine t_V1i (B := b) (pre := []) (tl := lay SHm (b + 176) σm) (k := 0) (c := 7) rfl (by decide) rfl rfl f_La_law_335 (by decide) (Nat.le_of_ble_eq_true rfl) (Nat.le_of_ble_eq_true rfl) (w_TE_step (B := b) (pre := []) (tl := lay SHm (b + 176) σm) rfl (by decide) 0 ((xs ((x3 + 1)).toNatClampNeg)) (by decide) hq56 ⟨_, rfl, ?_⟩)
        rw [G1]
        refine r_aload_n f_La_law_338 l2 ?_
        refine r_aload_n f_La_law_339 l0 ?_
        refine r_iload_n f_La_law_340 l3 ?_
        refine r_iconst f_La_law_341 (v := 1) (by decide) ?_
        refine r_iadd f_La_law_342 ?_
        by_cases c57 : (x3 + 1) < 0 ∨ n ≤ ((x3 + 1)).toNatClampNeg
        · rw [if_pos c57] at hF; cases hF
        rw [if_neg c57] at hF
        refine s_ald hsb hs f_La_law_343 c57 ?_
        cases hq58 : F_Mo_step 0 ((xs ((x3 + 1)).toNatClampNeg)) σm with
        | none => simp only [hq58] at hF; cases hF
        | some q58 =>
          simp only [hq58] at hF
          rw [← G2]
          refine t_V1i (B := b + 176) (pre := lay SHc b q56.2) (tl := []) (k := 0) (c := 8) G3 (by decide) rfl rfl f_La_law_344 (by decide) (Nat.le_of_ble_eq_true rfl) (Nat.le_of_ble_eq_true rfl) (w_Mo_step (B := b + 176) (pre := lay SHc b q56.2) (tl := []) G3 (by decide) 0 ((xs ((x3 + 1)).toNatClampNeg)) (by decide) hq58 ⟨_, rfl, ?_⟩)
          rw [G2]
          refine r_icmp_eq f_La_law_347 (fun c59 => ?_) (fun c59 => ?_)
          · rw [if_pos c59] at hF
            exact w_La_457 (n := n) (xs := xs) hr18 _ (x3) q56.2 q58.2 l0 l1 l2 l3 hF
          · rw [if_neg c59] at hF
            refine r_iconst f_La_law_350 (v := 0) (by decide) ?_
            cases hF
            exact r_zreturn f_La_law_351 (bz_or (false)) hQ
    rw [if_neg c54] at hF
    by_cases c60 : ((xs (x3).toNatClampNeg) &&& 15) = 8
    · rw [if_pos c60] at hF
      refine r_tswI (t := 352) (off := 320) 8 f_La_law_32 (by rw [c60]; decide) (by rw [c60]; decide) (by rfl) (by decide) ?_
      refine r_aload_n f_La_law_352 l1 ?_
      cases hq61 : F_TE_state 0  σc with
      | none => simp only [hq61] at hF; cases hF
      | some q61 =>
        simp only [hq61] at hF
        rw [← G1]
        refine t_V0i (B := b) (pre := []) (tl := lay SHm (b + 176) σm) (k := 0) (c := 7) rfl (by decide) rfl rfl f_La_law_353 (by decide) (Nat.le_of_ble_eq_true rfl) (Nat.le_of_ble_eq_true rfl) (w_TE_state (B := b) (pre := []) (tl := lay SHm (b + 176) σm) rfl  0  (by decide) hq61 ⟨_, rfl, ?_⟩)
        rw [G1]
        refine r_aload_n f_La_law_356 l2 ?_
        cases hq62 : F_Mo_state 0  σm with
        | none => simp only [hq62] at hF; cases hF
        | some q62 =>
          simp only [hq62] at hF
          rw [← G2]
          refine t_V0i (B := b + 176) (pre := lay SHc b q61.2) (tl := []) (k := 0) (c := 8) G3 (by decide) rfl rfl f_La_law_357 (by decide) (Nat.le_of_ble_eq_true rfl) (Nat.le_of_ble_eq_true rfl) (w_Mo_state (B := b + 176) (pre := lay SHc b q61.2) (tl := []) G3  0  (by decide) hq62 ⟨_, rfl, ?_⟩)
          rw [G2]
          refine r_icmp_eq f_La_law_360 (fun c63 => ?_) (fun c63 => ?_)
          · rw [if_pos c63] at hF
            exact w_La_457 (n := n) (xs := xs) hr18 _ (x3) q61.2 q62.2 l0 l1 l2 l3 hF
          · rw [if_neg c63] at hF
            refine r_iconst f_La_law_363 (v := 0) (by decide) ?_
            cases hF
            exact r_zreturn f_La_law_364 (bz_or (false)) hQ
    rw [if_neg c60] at hF
    by_cases c64 : ((xs (x3).toNatClampNeg) &&& 15) = 9
    · rw [if_pos c64] at hF
      refine r_tswI (t := 365) (off := 333) 9 f_La_law_32 (by rw [c64]; decide) (by rw [c64]; decide) (by rfl) (by decide) ?_
      refine r_aload_n f_La_law_365 l1 ?_
      cases hq65 : F_TE_result 0  σc with
      | none => simp only [hq65] at hF; cases hF
      | some q65 =>
        simp only [hq65] at hF
        rw [← G1]
        refine t_V0i (B := b) (pre := []) (tl := lay SHm (b + 176) σm) (k := 0) (c := 7) rfl (by decide) rfl rfl f_La_law_366 (by decide) (Nat.le_of_ble_eq_true rfl) (Nat.le_of_ble_eq_true rfl) (w_TE_result (B := b) (pre := []) (tl := lay SHm (b + 176) σm) rfl  0  (by decide) hq65 ⟨_, rfl, ?_⟩)
        rw [G1]
        refine r_aload_n f_La_law_369 l2 ?_
        cases hq66 : F_Mo_result 0  σm with
        | none => simp only [hq66] at hF; cases hF
        | some q66 =>
          simp only [hq66] at hF
          rw [← G2]
          refine t_V0i (B := b + 176) (pre := lay SHc b q65.2) (tl := []) (k := 0) (c := 8) G3 (by decide) rfl rfl f_La_law_370 (by decide) (Nat.le_of_ble_eq_true rfl) (Nat.le_of_ble_eq_true rfl) (w_Mo_result (B := b + 176) (pre := lay SHc b q65.2) (tl := []) G3  0  (by decide) hq66 ⟨_, rfl, ?_⟩)
          rw [G2]
          refine r_icmp_eq f_La_law_373 (fun c67 => ?_) (fun c67 => ?_)
          · rw [if_pos c67] at hF
            exact w_La_457 (n := n) (xs := xs) hr18 _ (x3) q65.2 q66.2 l0 l1 l2 l3 hF
          · rw [if_neg c67] at hF
            refine r_iconst f_La_law_376 (v := 0) (by decide) ?_
            cases hF
            exact r_zreturn f_La_law_377 (bz_or (false)) hQ
    rw [if_neg c64] at hF
    by_cases c68 : ((xs (x3).toNatClampNeg) &&& 15) = 10
    · rw [if_pos c68] at hF
      refine r_tswI (t := 378) (off := 346) 10 f_La_law_32 (by rw [c68]; decide) (by rw [c68]; decide) (by rfl) (by decide) ?_
      refine r_aload_n f_La_law_378 l1 ?_
      refine r_aload_n f_La_law_379 l0 ?_
      refine r_iload_n f_La_law_380 l3 ?_
      refine r_iconst f_La_law_381 (v := 1) (by decide) ?_
      refine r_iadd f_La_law_382 ?_
      by_cases c69 : (x3 + 1) < 0 ∨ n ≤ ((x3 + 1)).toNatClampNeg
      · rw [if_pos c69] at hF; cases hF
      rw [if_neg c69] at hF
      refine s_ald hsb hs f_La_law_383 c69 ?_
      cases hq70 : F_TE_look 0 ((xs ((x3 + 1)).toNatClampNeg)) σc with
      | none => simp only [hq70] at hF; cases hF
      | some q70 =>
        simp only [hq70] at hF
        rw [← G1]
        refine t_V1i (B := b) (pre := []) (tl := lay SHm (b + 176) σm) (k := 0) (c := 7) rfl (by decide) rfl rfl f_La_law_384 (by decide) (Nat.le_of_ble_eq_true rfl) (Nat.le_of_ble_eq_true rfl) (w_TE_look (B := b) (pre := []) (tl := lay SHm (b + 176) σm) rfl (by decide) 0 ((xs ((x3 + 1)).toNatClampNeg)) (by decide) hq70 ⟨_, rfl, ?_⟩)
        rw [G1]
        refine r_aload_n f_La_law_387 l2 ?_
        refine r_aload_n f_La_law_388 l0 ?_
        refine r_iload_n f_La_law_389 l3 ?_
        refine r_iconst f_La_law_390 (v := 1) (by decide) ?_
        refine r_iadd f_La_law_391 ?_
        by_cases c71 : (x3 + 1) < 0 ∨ n ≤ ((x3 + 1)).toNatClampNeg
        · rw [if_pos c71] at hF; cases hF
        rw [if_neg c71] at hF
        refine s_ald hsb hs f_La_law_392 c71 ?_
        cases hq72 : F_Mo_look 0 ((xs ((x3 + 1)).toNatClampNeg)) σm with
        | none => simp only [hq72] at hF; cases hF
        | some q72 =>
          simp only [hq72] at hF
          rw [← G2]
          refine t_V1i (B := b + 176) (pre := lay SHc b q70.2) (tl := []) (k := 0) (c := 8) G3 (by decide) rfl rfl f_La_law_393 (by decide) (Nat.le_of_ble_eq_true rfl) (Nat.le_of_ble_eq_true rfl) (w_Mo_look (B := b + 176) (pre := lay SHc b q70.2) (tl := []) G3  0 ((xs ((x3 + 1)).toNatClampNeg)) (by decide) hq72 ⟨_, rfl, ?_⟩)
          rw [G2]
          refine r_icmp_eq f_La_law_396 (fun c73 => ?_) (fun c73 => ?_)
          · rw [if_pos c73] at hF
            exact w_La_457 (n := n) (xs := xs) hr18 _ (x3) q70.2 q72.2 l0 l1 l2 l3 hF
          · rw [if_neg c73] at hF
            refine r_iconst f_La_law_399 (v := 0) (by decide) ?_
            cases hF
            exact r_zreturn f_La_law_400 (bz_or (false)) hQ
    rw [if_neg c68] at hF
    by_cases c74 : ((xs (x3).toNatClampNeg) &&& 15) = 11
    · rw [if_pos c74] at hF
      refine r_tswI (t := 401) (off := 369) 11 f_La_law_32 (by rw [c74]; decide) (by rw [c74]; decide) (by rfl) (by decide) ?_
      refine r_aload_n f_La_law_401 l1 ?_
      refine r_aload_n f_La_law_402 l0 ?_
      refine r_iload_n f_La_law_403 l3 ?_
      refine r_iconst f_La_law_404 (v := 1) (by decide) ?_
      refine r_iadd f_La_law_405 ?_
      by_cases c75 : (x3 + 1) < 0 ∨ n ≤ ((x3 + 1)).toNatClampNeg
      · rw [if_pos c75] at hF; cases hF
      rw [if_neg c75] at hF
      refine s_ald hsb hs f_La_law_406 c75 ?_
      cases hq76 : F_TE_peek 0 ((xs ((x3 + 1)).toNatClampNeg)) σc with
      | none => simp only [hq76] at hF; cases hF
      | some q76 =>
        simp only [hq76] at hF
        rw [← G1]
        refine t_V1i (B := b) (pre := []) (tl := lay SHm (b + 176) σm) (k := 0) (c := 7) rfl (by decide) rfl rfl f_La_law_407 (by decide) (Nat.le_of_ble_eq_true rfl) (Nat.le_of_ble_eq_true rfl) (w_TE_peek (B := b) (pre := []) (tl := lay SHm (b + 176) σm) rfl (by decide) 0 ((xs ((x3 + 1)).toNatClampNeg)) (by decide) hq76 ⟨_, rfl, ?_⟩)
        rw [G1]
        refine r_aload_n f_La_law_410 l2 ?_
        refine r_aload_n f_La_law_411 l0 ?_
        refine r_iload_n f_La_law_412 l3 ?_
        refine r_iconst f_La_law_413 (v := 1) (by decide) ?_
        refine r_iadd f_La_law_414 ?_
        by_cases c77 : (x3 + 1) < 0 ∨ n ≤ ((x3 + 1)).toNatClampNeg
        · rw [if_pos c77] at hF; cases hF
        rw [if_neg c77] at hF
        refine s_ald hsb hs f_La_law_415 c77 ?_
        cases hq78 : F_Mo_peek 0 ((xs ((x3 + 1)).toNatClampNeg)) σm with
        | none => simp only [hq78] at hF; cases hF
        | some q78 =>
          simp only [hq78] at hF
          rw [← G2]
          refine t_V1i (B := b + 176) (pre := lay SHc b q76.2) (tl := []) (k := 0) (c := 8) G3 (by decide) rfl rfl f_La_law_416 (by decide) (Nat.le_of_ble_eq_true rfl) (Nat.le_of_ble_eq_true rfl) (w_Mo_peek (B := b + 176) (pre := lay SHc b q76.2) (tl := []) G3 (by decide) 0 ((xs ((x3 + 1)).toNatClampNeg)) (by decide) hq78 ⟨_, rfl, ?_⟩)
          rw [G2]
          refine r_icmp_eq f_La_law_419 (fun c79 => ?_) (fun c79 => ?_)
          · rw [if_pos c79] at hF
            exact w_La_457 (n := n) (xs := xs) hr18 _ (x3) q76.2 q78.2 l0 l1 l2 l3 hF
          · rw [if_neg c79] at hF
            refine r_iconst f_La_law_422 (v := 0) (by decide) ?_
            cases hF
            exact r_zreturn f_La_law_423 (bz_or (false)) hQ
    rw [if_neg c74] at hF
    by_cases c80 : ((xs (x3).toNatClampNeg) &&& 15) = 12
    · rw [if_pos c80] at hF
      refine r_tswI (t := 424) (off := 392) 12 f_La_law_32 (by rw [c80]; decide) (by rw [c80]; decide) (by rfl) (by decide) ?_
      refine r_aload_n f_La_law_424 l1 ?_
      refine r_aload_n f_La_law_425 l0 ?_
      refine r_iload_n f_La_law_426 l3 ?_
      refine r_iconst f_La_law_427 (v := 1) (by decide) ?_
      refine r_iadd f_La_law_428 ?_
      by_cases c81 : (x3 + 1) < 0 ∨ n ≤ ((x3 + 1)).toNatClampNeg
      · rw [if_pos c81] at hF; cases hF
      rw [if_neg c81] at hF
      refine s_ald hsb hs f_La_law_429 c81 ?_
      refine r_aload_n f_La_law_430 l0 ?_
      refine r_iload_n f_La_law_431 l3 ?_
      refine r_iconst f_La_law_432 (v := 2) (by decide) ?_
      refine r_iadd f_La_law_433 ?_
      by_cases c82 : (x3 + 2) < 0 ∨ n ≤ ((x3 + 2)).toNatClampNeg
      · rw [if_pos c82] at hF; cases hF
      rw [if_neg c82] at hF
      refine s_ald hsb hs f_La_law_434 c82 ?_
      cases hq83 : F_TE_entered 0 ((xs ((x3 + 1)).toNatClampNeg)) ((xs ((x3 + 2)).toNatClampNeg)) σc with
      | none => simp only [hq83] at hF; cases hF
      | some q83 =>
        simp only [hq83] at hF
        rw [← G1]
        refine t_V2i (B := b) (pre := []) (tl := lay SHm (b + 176) σm) (k := 0) (c := 7) rfl (by decide) rfl rfl f_La_law_435 (by decide) (Nat.le_of_ble_eq_true rfl) (Nat.le_of_ble_eq_true rfl) (w_TE_entered (B := b) (pre := []) (tl := lay SHm (b + 176) σm) rfl (by decide) 0 ((xs ((x3 + 1)).toNatClampNeg)) ((xs ((x3 + 2)).toNatClampNeg)) (by decide) hq83 ⟨_, rfl, ?_⟩)
        rw [G1]
        refine r_aload_n f_La_law_438 l2 ?_
        refine r_aload_n f_La_law_439 l0 ?_
        refine r_iload_n f_La_law_440 l3 ?_
        refine r_iconst f_La_law_441 (v := 1) (by decide) ?_
        refine r_iadd f_La_law_442 ?_
        by_cases c84 : (x3 + 1) < 0 ∨ n ≤ ((x3 + 1)).toNatClampNeg
        · rw [if_pos c84] at hF; cases hF
        rw [if_neg c84] at hF
        refine s_ald hsb hs f_La_law_443 c84 ?_
        refine r_aload_n f_La_law_444 l0 ?_
        refine r_iload_n f_La_law_445 l3 ?_
        refine r_iconst f_La_law_446 (v := 2) (by decide) ?_
        refine r_iadd f_La_law_447 ?_
        by_cases c85 : (x3 + 2) < 0 ∨ n ≤ ((x3 + 2)).toNatClampNeg
        · rw [if_pos c85] at hF; cases hF
        rw [if_neg c85] at hF
        refine s_ald hsb hs f_La_law_448 c85 ?_
        cases hq86 : F_Mo_entered 0 ((xs ((x3 + 1)).toNatClampNeg)) ((xs ((x3 + 2)).toNatClampNeg)) σm with
        | none => simp only [hq86] at hF; cases hF
        | some q86 =>
          simp only [hq86] at hF
          rw [← G2]
          refine t_V2i (B := b + 176) (pre := lay SHc b q83.2) (tl := []) (k := 0) (c := 8) G3 (by decide) rfl rfl f_La_law_449 (by decide) (Nat.le_of_ble_eq_true rfl) (Nat.le_of_ble_eq_true rfl) (w_Mo_entered (B := b + 176) (pre := lay SHc b q83.2) (tl := []) G3  0 ((xs ((x3 + 1)).toNatClampNeg)) ((xs ((x3 + 2)).toNatClampNeg)) (by decide) hq86 ⟨_, rfl, ?_⟩)
          rw [G2]
          refine r_icmp_eq f_La_law_452 (fun c87 => ?_) (fun c87 => ?_)
          · rw [if_pos c87] at hF
            exact w_La_457 (n := n) (xs := xs) hr18 _ (x3) q83.2 q86.2 l0 l1 l2 l3 hF
          · rw [if_neg c87] at hF
            refine r_iconst f_La_law_455 (v := 0) (by decide) ?_
            cases hF
            exact r_zreturn f_La_law_456 (bz_or (false)) hQ
    rw [if_neg c80] at hF
    refine r_tswO f_La_law_32 (by have zc3 := lv_neT c3 (by decide : (0 : Int32).toInt = 0); have zc13 := lv_neT c13 (by decide : (1 : Int32).toInt = 1); have zc16 := lv_neT c16 (by decide : (2 : Int32).toInt = 2); have zc20 := lv_neT c20 (by decide : (3 : Int32).toInt = 3); have zc26 := lv_neT c26 (by decide : (4 : Int32).toInt = 4); have zc34 := lv_neT c34 (by decide : (5 : Int32).toInt = 5); have zc44 := lv_neT c44 (by decide : (6 : Int32).toInt = 6); have zc54 := lv_neT c54 (by decide : (7 : Int32).toInt = 7); have zc60 := lv_neT c60 (by decide : (8 : Int32).toInt = 8); have zc64 := lv_neT c64 (by decide : (9 : Int32).toInt = 9); have zc68 := lv_neT c68 (by decide : (10 : Int32).toInt = 10); have zc74 := lv_neT c74 (by decide : (11 : Int32).toInt = 11); have zc80 := lv_neT c80 (by decide : (12 : Int32).toInt = 12); omega) ?_
    exact w_La_457 (n := n) (xs := xs) hr18 _ (x3) σc σm l0 l1 l2 l3 hF
def F_La (n : Nat) (xs : Nat → Int32) : Nat → Int32 → SG → SG → Option (Bool × SG × SG)
  | 0, _, _, _ => none
  | k + 1, x3, σc, σm => F_La_body n xs (F_La n xs k) x3 σc σm
theorem w_La {b sb n : Nat} {xs : Nat → Int32} {sc : SC} {Q : Option Value → List PE → Prop} {res : Bool × SG × SG} (hsb : sb < b) (hs : sc sb = some (n, xs)) (hQ : Q (some (.int (bz res.1))) (G b res.2.1 res.2.2)) : ∀ (k : Nat) (lv : LV) (x3 : Int32) (σc σm : SG), lv.lookup 0 = some (.ref sb) → lv.lookup 1 = some (.ref (b + 0)) → lv.lookup 2 = some (.ref (b + 176)) → lv.lookup 3 = some (.int x3) → F_La n xs k x3 σc σm = some res → Rn b sc (8 + 1) 0 18 lv [] (G b σc σm) Q := by
  intro k
  induction k with
  | zero => intro lv x3 σc σm _ _ _ _ hF; cases hF
  | succ k ih => intro lv x3 σc σm l0 l1 l2 l3 hF; exact w_La_body hsb hs ih hQ lv x3 σc σm l0 l1 l2 l3 hF
