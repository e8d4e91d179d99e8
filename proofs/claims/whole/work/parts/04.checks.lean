/-! What the tables must say of an instruction, and of a method: decided by the kernel. -/
def ilen : Instr → Nat
  | .bipush _ | .iload _ | .lload _ | .aload _ | .istore _ | .lstore _ | .astore _ | .newarray _ => 2
  | .sipush _ | .iinc _ _ | .ldc2_w _ | .ifCond _ _ | .if_icmp _ _ | .goto _ | .ifnull _ | .ifnonnull _ | .getfield _ | .putfield _ | .new _ | .anewarray _ | .invokestatic _ | .invokevirtual _ | .invokespecial _ => 3
  | _ => 1
def isTsw : Instr → Bool
  | .tableswitch _ _ _ _ => true
  | _ => false
def y_nest : MethodName := ⟨"TypedEngine$Region", "<init>", "()V"⟩
def w_nest : Cond := .methodLinkNest "TypedEngine$Method" 22 y_nest "TypedEngine"
def okX (kc kd nL : Nat) (ret : Option FieldType) (pc : Nat) (r1 r2 r3 : Nat) : Instr → Bool
  | .istore i => decide (i < nL)
  | .istore_n i => decide (i.val < nL)
  | .lstore i => decide (i + 1 < nL)
  | .lstore_n i => decide (i.val + 1 < nL)
  | .astore i => decide (i < nL)
  | .astore_n i => decide (i.val < nL)
  | .iinc i _ => decide (i < nL)
  | .ifCond _ off => decide ((pc : Int) + off = (r1 : Int))
  | .if_icmp _ off => decide ((pc : Int) + off = (r1 : Int))
  | .goto off => decide ((pc : Int) + off = (r1 : Int))
  | .ifnull off => decide ((pc : Int) + off = (r1 : Int))
  | .ifnonnull off => decide ((pc : Int) + off = (r1 : Int))
  | .tableswitch d _ _ _ => decide ((pc : Int) + d = (r1 : Int))
  | .ldc2_w i => decide (ltab[r3]? = some (kc, i, r1))
  | .getfield i => decide (ftab[r3]? = some (kc, i, r1, r2))
  | .putfield i => decide (ftab[r3]? = some (kc, i, r1, r2)) && (!((k_fin r1).getD r2 true) || (decide (kd = 2) && decide (r1 = kc)))
  | .newarray a => decide (r1 < 3) && decide (newarray.typeOf a = k_ta r1)
  | .anewarray i => decide (3 ≤ r1) && decide (r1 < 6) && decide (atab[r3]? = some (kc, i, r1))
  | .new i => decide (ctab[r3]? = some (kc, i, r1))
  | .invokestatic i => decide (mtab[r3]? = some (kc, i, r1)) && (if r1 = 9998 then decide (r2 = 2) else match mts[r1]? with
    | some m => decide (m.2.2.2.2.1 = r2) && decide (m.2.2.2.2.2.2.2 = 0) && decide (r1 ≠ 0)
    | none => false)
  | .invokevirtual i => decide (mtab[r3]? = some (kc, i, r1)) && (match mts[r1]? with
    | some m => decide (m.2.2.2.2.1 = r2) && decide (m.2.2.2.2.2.2.2 = 1)
    | none => false)
  | .invokespecial i => decide (mtab[r3]? = some (kc, i, r1)) && (if r1 = 9999 then decide (r2 = 0) else match mts[r1]? with
    | some m => decide (m.2.2.2.2.1 = r2) && decide (m.2.2.2.2.2.2.2 = 2)
    | none => false)
  | .ireturn => decide (r1 = 0 ∧ ret = some .int ∨ r1 = 2 ∧ ret = some .boolean)
  | .lreturn => decide (ret = some .long)
  | .areturn => match ret with
    | some (.object _) => true
    | _ => false
  | .return_ => decide (ret = none)
  | _ => true
def okI (kc kd : Nat) (cc : ByteArray) (nL : Nat) (ret : Option FieldType) (q : Nat × PI) : Bool :=
  decide (decode cc q.1 = .ok (q.2.1, q.2.2.1)) && (isTsw q.2.1 || decide (q.2.2.1 = ilen q.2.1)) && okX kc kd nL ret q.1 q.2.2.2.1 q.2.2.2.2.1 q.2.2.2.2.2 q.2.1
theorem gwm {k i : Nat} {w : Cond} (h : (seg k)[i]? = some w) (hg : goodWord w = true) : w ∈ gw := List.mem_filter.mpr ⟨seg_in (List.mem_of_getElem? h), hg⟩
/-- what stands behind a method: its words, its descriptor -/
def okH (m : MI) : Prop := plainName m.1.cls = true ∧ Cond.code m.1 m.2.1 m.2.2.1 m.2.2.2.1 ∈ gw ∧ Cond.initialized m.1.cls ∈ gw ∧ (m.1.cls ≠ "java/lang/invoke/MethodHandle" ∧ m.1.cls ≠ "java/lang/invoke/VarHandle" ∧ (parseMethodDescriptor m.1.desc).map (fun d => d.parameters.length) = some m.2.2.2.2.1) ∧ m.2.2.1 ≤ 24 ∧ m.1.cls = cnm m.2.2.2.2.2.2.1
  ∧ (m.2.2.2.2.2.2.2 = 0 → Cond.static m.1 ∈ gw) ∧ (m.2.2.2.2.2.2.2 = 1 → Cond.instanceMethod m.1 ∈ gw ∧ Cond.selects m.1.cls m.1 m.1 ∈ gw) ∧ (m.2.2.2.2.2.2.2 = 2 → Cond.instanceMethod m.1 ∈ gw ∧ m.1.name = "<init>" ∧ m.2.2.2.1 = none)
def okC (m : MI) : Bool := m.2.2.2.2.2.1.all (okI m.2.2.2.2.2.2.1 m.2.2.2.2.2.2.2 m.2.1 m.2.2.1 m.2.2.2.1)
/-- a class: its fields' words among the good ones, kinds and defaults as the tables have them -/
def okK (k : Nat) (q : vw_C) : Bool := decide ((k_df k).length = q.2.2)
  && (List.range q.2.2).all (fun j => decide (parseFieldDescriptor (q.2.1 j).2.2.1 = some (k_ty k j)) && decide (defaultValue (k_ty k j) = vp_V (k_df k) j) && (List.range q.2.2).all (fun i => decide (i = j) || decide ((q.2.1 i).2.1 ≠ (q.2.1 j).2.1))
    && (match (k_tg k).getD j 9, k_ty k j with
      | 0, .int => true
      | 1, .long => true
      | 2, .boolean => true
      | 3, .object _ => true
      | 3, .array _ => true
      | _, _ => false) && ((k_fin k).getD j true == (q.2.1 j).2.2.2))
set_option maxRecDepth 100000 in
theorem k_ok : ∀ k, k < 9 → (match k_cl[k]? with | some q => okK k q | none => false) = true := by decide +kernel
theorem gw_good {w : Cond} (h : w ∈ gw) : (w.onTables && w.keeps) = true ∨ ∃ ty, w = .arrayClass ty := good_of_word (List.mem_filter.mp h).2
def ftabOk (q : Nat × Nat × Nat × Nat) : Prop := ∃ c, k_cl[q.2.2.1]? = some c ∧ q.2.2.2 < c.2.2 ∧ (c.2.1 q.2.2.2).1 = c.1 ∧ Cond.fieldLink (cnm q.1) q.2.1 c.1 (c.2.1 q.2.2.2).2.1 (c.2.1 q.2.2.2).2.2.1 ∈ gw
theorem ftab_0 : ftabOk (0, 7, 0, 0) := ⟨_, rfl, by decide, rfl, gwm (k := 1) (i := 204) rfl rfl⟩
theorem ftab_1 : ftabOk (0, 13, 0, 1) := ⟨_, rfl, by decide, rfl, gwm (k := 1) (i := 206) rfl rfl⟩
theorem ftab_2 : ftabOk (0, 17, 0, 5) := ⟨_, rfl, by decide, rfl, gwm (k := 1) (i := 218) rfl rfl⟩
theorem ftab_3 : ftabOk (0, 23, 0, 6) := ⟨_, rfl, by decide, rfl, gwm (k := 1) (i := 219) rfl rfl⟩
theorem ftab_4 : ftabOk (0, 26, 0, 7) := ⟨_, rfl, by decide, rfl, gwm (k := 1) (i := 220) rfl rfl⟩
theorem ftab_5 : ftabOk (0, 30, 0, 8) := ⟨_, rfl, by decide, rfl, gwm (k := 1) (i := 222) rfl rfl⟩
theorem ftab_6 : ftabOk (0, 33, 0, 9) := ⟨_, rfl, by decide, rfl, gwm (k := 1) (i := 224) rfl rfl⟩
theorem ftab_7 : ftabOk (0, 36, 0, 2) := ⟨_, rfl, by decide, rfl, gwm (k := 1) (i := 209) rfl rfl⟩
theorem ftab_8 : ftabOk (0, 39, 0, 3) := ⟨_, rfl, by decide, rfl, gwm (k := 1) (i := 212) rfl rfl⟩
theorem ftab_9 : ftabOk (0, 42, 0, 4) := ⟨_, rfl, by decide, rfl, gwm (k := 1) (i := 215) rfl rfl⟩
theorem ftab_10 : ftabOk (1, 9, 1, 2) := ⟨_, rfl, by decide, rfl, gwm (k := 1) (i := 129) rfl rfl⟩
theorem ftab_11 : ftabOk (1, 13, 1, 3) := ⟨_, rfl, by decide, rfl, gwm (k := 1) (i := 131) rfl rfl⟩
theorem ftab_12 : ftabOk (1, 18, 1, 4) := ⟨_, rfl, by decide, rfl, gwm (k := 1) (i := 134) rfl rfl⟩
theorem ftab_13 : ftabOk (1, 35, 1, 0) := ⟨_, rfl, by decide, rfl, gwm (k := 1) (i := 125) rfl rfl⟩
theorem ftab_14 : ftabOk (1, 23, 1, 1) := ⟨_, rfl, by decide, rfl, gwm (k := 1) (i := 126) rfl rfl⟩
theorem ftab_15 : ftabOk (1, 31, 2, 9) := ⟨_, rfl, by decide, rfl, gwm (k := 1) (i := 94) rfl rfl⟩
theorem ftab_16 : ftabOk (1, 44, 2, 11) := ⟨_, rfl, by decide, rfl, gwm (k := 1) (i := 98) rfl rfl⟩
theorem ftab_17 : ftabOk (2, 9, 2, 5) := ⟨_, rfl, by decide, rfl, gwm (k := 1) (i := 81) rfl rfl⟩
theorem ftab_18 : ftabOk (2, 13, 2, 6) := ⟨_, rfl, by decide, rfl, gwm (k := 1) (i := 84) rfl rfl⟩
theorem ftab_19 : ftabOk (2, 18, 2, 7) := ⟨_, rfl, by decide, rfl, gwm (k := 1) (i := 86) rfl rfl⟩
theorem ftab_20 : ftabOk (2, 23, 2, 8) := ⟨_, rfl, by decide, rfl, gwm (k := 1) (i := 90) rfl rfl⟩
theorem ftab_21 : ftabOk (2, 26, 2, 10) := ⟨_, rfl, by decide, rfl, gwm (k := 1) (i := 95) rfl rfl⟩
theorem ftab_22 : ftabOk (2, 38, 2, 4) := ⟨_, rfl, by decide, rfl, gwm (k := 1) (i := 79) rfl rfl⟩
theorem ftab_23 : ftabOk (2, 35, 2, 2) := ⟨_, rfl, by decide, rfl, gwm (k := 1) (i := 72) rfl rfl⟩
theorem ftab_24 : ftabOk (2, 29, 2, 1) := ⟨_, rfl, by decide, rfl, gwm (k := 1) (i := 68) rfl rfl⟩
theorem ftab_25 : ftabOk (2, 43, 2, 3) := ⟨_, rfl, by decide, rfl, gwm (k := 1) (i := 76) rfl rfl⟩
theorem ftab_26 : ftabOk (2, 53, 4, 3) := ⟨_, rfl, by decide, rfl, gwm (k := 1) (i := 52) rfl rfl⟩
theorem ftab_27 : ftabOk (8, 7, 8, 1) := ⟨_, rfl, by decide, rfl, gwm (k := 4) (i := 50) rfl rfl⟩
theorem ftab_28 : ftabOk (8, 13, 8, 5) := ⟨_, rfl, by decide, rfl, gwm (k := 4) (i := 54) rfl rfl⟩
theorem ftab_29 : ftabOk (8, 16, 8, 6) := ⟨_, rfl, by decide, rfl, gwm (k := 4) (i := 55) rfl rfl⟩
theorem ftab_30 : ftabOk (8, 19, 8, 8) := ⟨_, rfl, by decide, rfl, gwm (k := 4) (i := 57) rfl rfl⟩
theorem ftab_31 : ftabOk (8, 22, 8, 9) := ⟨_, rfl, by decide, rfl, gwm (k := 4) (i := 58) rfl rfl⟩
theorem ftab_32 : ftabOk (8, 25, 8, 10) := ⟨_, rfl, by decide, rfl, gwm (k := 4) (i := 59) rfl rfl⟩
theorem ftab_33 : ftabOk (8, 28, 8, 11) := ⟨_, rfl, by decide, rfl, gwm (k := 4) (i := 60) rfl rfl⟩
theorem ftab_34 : ftabOk (8, 31, 8, 12) := ⟨_, rfl, by decide, rfl, gwm (k := 4) (i := 61) rfl rfl⟩
theorem ftab_35 : ftabOk (8, 34, 8, 13) := ⟨_, rfl, by decide, rfl, gwm (k := 4) (i := 62) rfl rfl⟩
theorem ftab_36 : ftabOk (8, 37, 8, 14) := ⟨_, rfl, by decide, rfl, gwm (k := 4) (i := 63) rfl rfl⟩
theorem ftab_37 : ftabOk (8, 40, 8, 15) := ⟨_, rfl, by decide, rfl, gwm (k := 4) (i := 64) rfl rfl⟩
theorem ftab_38 : ftabOk (8, 43, 8, 16) := ⟨_, rfl, by decide, rfl, gwm (k := 4) (i := 65) rfl rfl⟩
theorem ftab_39 : ftabOk (8, 46, 8, 17) := ⟨_, rfl, by decide, rfl, gwm (k := 4) (i := 66) rfl rfl⟩
theorem ftab_40 : ftabOk (8, 50, 8, 18) := ⟨_, rfl, by decide, rfl, gwm (k := 4) (i := 67) rfl rfl⟩
theorem ftab_41 : ftabOk (8, 53, 8, 19) := ⟨_, rfl, by decide, rfl, gwm (k := 4) (i := 68) rfl rfl⟩
theorem ftab_42 : ftabOk (8, 56, 8, 20) := ⟨_, rfl, by decide, rfl, gwm (k := 4) (i := 69) rfl rfl⟩
theorem ftab_43 : ftabOk (8, 59, 8, 21) := ⟨_, rfl, by decide, rfl, gwm (k := 4) (i := 70) rfl rfl⟩
theorem ftab_44 : ftabOk (8, 62, 8, 22) := ⟨_, rfl, by decide, rfl, gwm (k := 4) (i := 71) rfl rfl⟩
theorem ftab_45 : ftabOk (8, 66, 8, 23) := ⟨_, rfl, by decide, rfl, gwm (k := 4) (i := 72) rfl rfl⟩
theorem ftab_46 : ftabOk (8, 69, 8, 32) := ⟨_, rfl, by decide, rfl, gwm (k := 4) (i := 81) rfl rfl⟩
theorem ftab_47 : ftabOk (8, 72, 8, 33) := ⟨_, rfl, by decide, rfl, gwm (k := 4) (i := 82) rfl rfl⟩
theorem ftab_48 : ftabOk (8, 75, 8, 34) := ⟨_, rfl, by decide, rfl, gwm (k := 4) (i := 83) rfl rfl⟩
theorem ftab_49 : ftabOk (8, 78, 8, 35) := ⟨_, rfl, by decide, rfl, gwm (k := 4) (i := 84) rfl rfl⟩
theorem ftab_50 : ftabOk (8, 81, 8, 36) := ⟨_, rfl, by decide, rfl, gwm (k := 4) (i := 85) rfl rfl⟩
theorem ftab_51 : ftabOk (8, 84, 8, 37) := ⟨_, rfl, by decide, rfl, gwm (k := 4) (i := 86) rfl rfl⟩
theorem ftab_52 : ftabOk (8, 87, 8, 38) := ⟨_, rfl, by decide, rfl, gwm (k := 4) (i := 87) rfl rfl⟩
theorem ftab_53 : ftabOk (8, 90, 8, 39) := ⟨_, rfl, by decide, rfl, gwm (k := 4) (i := 88) rfl rfl⟩
theorem ftab_54 : ftabOk (8, 93, 8, 40) := ⟨_, rfl, by decide, rfl, gwm (k := 4) (i := 89) rfl rfl⟩
theorem ftab_55 : ftabOk (8, 96, 8, 41) := ⟨_, rfl, by decide, rfl, gwm (k := 4) (i := 90) rfl rfl⟩
theorem ftab_56 : ftabOk (8, 99, 8, 42) := ⟨_, rfl, by decide, rfl, gwm (k := 4) (i := 91) rfl rfl⟩
theorem ftab_57 : ftabOk (8, 102, 8, 43) := ⟨_, rfl, by decide, rfl, gwm (k := 4) (i := 92) rfl rfl⟩
theorem ftab_58 : ftabOk (8, 105, 8, 45) := ⟨_, rfl, by decide, rfl, gwm (k := 4) (i := 94) rfl rfl⟩
theorem ftab_59 : ftabOk (8, 108, 8, 0) := ⟨_, rfl, by decide, rfl, gwm (k := 4) (i := 49) rfl rfl⟩
theorem ftab_60 : ftabOk (8, 114, 8, 3) := ⟨_, rfl, by decide, rfl, gwm (k := 4) (i := 52) rfl rfl⟩
theorem ftab_61 : ftabOk (8, 147, 8, 28) := ⟨_, rfl, by decide, rfl, gwm (k := 4) (i := 77) rfl rfl⟩
theorem ftab_62 : ftabOk (8, 136, 8, 7) := ⟨_, rfl, by decide, rfl, gwm (k := 4) (i := 56) rfl rfl⟩
theorem ftab_63 : ftabOk (8, 118, 8, 2) := ⟨_, rfl, by decide, rfl, gwm (k := 4) (i := 51) rfl rfl⟩
theorem ftab_64 : ftabOk (8, 129, 8, 4) := ⟨_, rfl, by decide, rfl, gwm (k := 4) (i := 53) rfl rfl⟩
theorem ftab_65 : ftabOk (8, 154, 8, 24) := ⟨_, rfl, by decide, rfl, gwm (k := 4) (i := 73) rfl rfl⟩
theorem ftab_66 : ftabOk (8, 181, 8, 27) := ⟨_, rfl, by decide, rfl, gwm (k := 4) (i := 76) rfl rfl⟩
theorem ftab_67 : ftabOk (8, 191, 8, 25) := ⟨_, rfl, by decide, rfl, gwm (k := 4) (i := 74) rfl rfl⟩
theorem ftab_68 : ftabOk (8, 194, 8, 26) := ⟨_, rfl, by decide, rfl, gwm (k := 4) (i := 75) rfl rfl⟩
theorem ftab_69 : ftabOk (8, 269, 8, 29) := ⟨_, rfl, by decide, rfl, gwm (k := 4) (i := 78) rfl rfl⟩
theorem ftab_70 : ftabOk (8, 272, 8, 30) := ⟨_, rfl, by decide, rfl, gwm (k := 4) (i := 79) rfl rfl⟩
theorem ftab_71 : ftabOk (8, 275, 8, 31) := ⟨_, rfl, by decide, rfl, gwm (k := 4) (i := 80) rfl rfl⟩
theorem ftab_72 : ftabOk (8, 287, 8, 44) := ⟨_, rfl, by decide, rfl, gwm (k := 4) (i := 93) rfl rfl⟩
theorem ftab_73 : ftabOk (8, 284, 8, 46) := ⟨_, rfl, by decide, rfl, gwm (k := 4) (i := 95) rfl rfl⟩
theorem ftab_74 : ftabOk (3, 7, 3, 0) := ⟨_, rfl, by decide, rfl, gwm (k := 1) (i := 155) rfl rfl⟩
theorem ftab_75 : ftabOk (3, 19, 3, 1) := ⟨_, rfl, by decide, rfl, gwm (k := 1) (i := 156) rfl rfl⟩
theorem ftab_76 : ftabOk (3, 23, 3, 2) := ⟨_, rfl, by decide, rfl, gwm (k := 1) (i := 157) rfl rfl⟩
theorem ftab_77 : ftabOk (3, 26, 3, 3) := ⟨_, rfl, by decide, rfl, gwm (k := 1) (i := 158) rfl rfl⟩
theorem ftab_78 : ftabOk (3, 39, 1, 1) := ⟨_, rfl, by decide, rfl, gwm (k := 1) (i := 127) rfl rfl⟩
theorem ftab_79 : ftabOk (3, 42, 1, 4) := ⟨_, rfl, by decide, rfl, gwm (k := 1) (i := 136) rfl rfl⟩
theorem ftab_80 : ftabOk (3, 50, 1, 0) := ⟨_, rfl, by decide, rfl, gwm (k := 1) (i := 124) rfl rfl⟩
theorem ftab_81 : ftabOk (3, 53, 1, 2) := ⟨_, rfl, by decide, rfl, gwm (k := 1) (i := 130) rfl rfl⟩
theorem ftab_82 : ftabOk (3, 56, 1, 3) := ⟨_, rfl, by decide, rfl, gwm (k := 1) (i := 132) rfl rfl⟩
theorem ftab_83 : ftabOk (3, 69, 2, 0) := ⟨_, rfl, by decide, rfl, gwm (k := 1) (i := 65) rfl rfl⟩
theorem ftab_84 : ftabOk (3, 74, 2, 1) := ⟨_, rfl, by decide, rfl, gwm (k := 1) (i := 69) rfl rfl⟩
theorem ftab_85 : ftabOk (3, 77, 2, 5) := ⟨_, rfl, by decide, rfl, gwm (k := 1) (i := 82) rfl rfl⟩
theorem ftab_86 : ftabOk (3, 80, 2, 2) := ⟨_, rfl, by decide, rfl, gwm (k := 1) (i := 73) rfl rfl⟩
theorem ftab_87 : ftabOk (3, 83, 2, 6) := ⟨_, rfl, by decide, rfl, gwm (k := 1) (i := 85) rfl rfl⟩
theorem ftab_88 : ftabOk (3, 86, 2, 3) := ⟨_, rfl, by decide, rfl, gwm (k := 1) (i := 74) rfl rfl⟩
theorem ftab_89 : ftabOk (3, 89, 2, 7) := ⟨_, rfl, by decide, rfl, gwm (k := 1) (i := 87) rfl rfl⟩
theorem ftab_90 : ftabOk (3, 97, 2, 4) := ⟨_, rfl, by decide, rfl, gwm (k := 1) (i := 80) rfl rfl⟩
theorem ftab_91 : ftabOk (3, 98, 2, 8) := ⟨_, rfl, by decide, rfl, gwm (k := 1) (i := 92) rfl rfl⟩
theorem ftab_92 : ftabOk (3, 101, 4, 0) := ⟨_, rfl, by decide, rfl, gwm (k := 1) (i := 42) rfl rfl⟩
theorem ftab_93 : ftabOk (3, 106, 4, 1) := ⟨_, rfl, by decide, rfl, gwm (k := 1) (i := 45) rfl rfl⟩
theorem ftab_94 : ftabOk (3, 109, 4, 2) := ⟨_, rfl, by decide, rfl, gwm (k := 1) (i := 49) rfl rfl⟩
theorem ftab_95 : ftabOk (3, 112, 4, 3) := ⟨_, rfl, by decide, rfl, gwm (k := 1) (i := 51) rfl rfl⟩
theorem ftab_96 : ftabOk (4, 16, 4, 2) := ⟨_, rfl, by decide, rfl, gwm (k := 1) (i := 48) rfl rfl⟩
theorem ftab_97 : ftabOk (4, 7, 4, 0) := ⟨_, rfl, by decide, rfl, gwm (k := 1) (i := 41) rfl rfl⟩
theorem ftab_98 : ftabOk (4, 13, 4, 1) := ⟨_, rfl, by decide, rfl, gwm (k := 1) (i := 44) rfl rfl⟩
theorem ftab_99 : ftabOk (5, 11, 5, 0) := ⟨_, rfl, by decide, rfl, gwm (k := 2) (i := 8) rfl rfl⟩
theorem ftab_100 : ftabOk (5, 17, 5, 1) := ⟨_, rfl, by decide, rfl, gwm (k := 2) (i := 9) rfl rfl⟩
theorem ftab_101 : ftabOk (5, 21, 1, 4) := ⟨_, rfl, by decide, rfl, gwm (k := 1) (i := 135) rfl rfl⟩
theorem ftab_102 : ftabOk (5, 30, 5, 2) := ⟨_, rfl, by decide, rfl, gwm (k := 2) (i := 10) rfl rfl⟩
theorem ftab_103 : ftabOk (5, 34, 5, 3) := ⟨_, rfl, by decide, rfl, gwm (k := 2) (i := 11) rfl rfl⟩
theorem ftab_104 : ftabOk (5, 38, 5, 4) := ⟨_, rfl, by decide, rfl, gwm (k := 2) (i := 12) rfl rfl⟩
theorem ftab_105 : ftabOk (5, 41, 5, 9) := ⟨_, rfl, by decide, rfl, gwm (k := 2) (i := 17) rfl rfl⟩
theorem ftab_106 : ftabOk (5, 45, 5, 10) := ⟨_, rfl, by decide, rfl, gwm (k := 2) (i := 19) rfl rfl⟩
theorem ftab_107 : ftabOk (5, 48, 5, 11) := ⟨_, rfl, by decide, rfl, gwm (k := 2) (i := 21) rfl rfl⟩
theorem ftab_108 : ftabOk (5, 51, 5, 12) := ⟨_, rfl, by decide, rfl, gwm (k := 2) (i := 23) rfl rfl⟩
theorem ftab_109 : ftabOk (5, 74, 0, 0) := ⟨_, rfl, by decide, rfl, gwm (k := 1) (i := 205) rfl rfl⟩
theorem ftab_110 : ftabOk (5, 80, 0, 1) := ⟨_, rfl, by decide, rfl, gwm (k := 1) (i := 207) rfl rfl⟩
theorem ftab_111 : ftabOk (5, 83, 0, 3) := ⟨_, rfl, by decide, rfl, gwm (k := 1) (i := 213) rfl rfl⟩
theorem ftab_112 : ftabOk (5, 106, 5, 5) := ⟨_, rfl, by decide, rfl, gwm (k := 2) (i := 13) rfl rfl⟩
theorem ftab_113 : ftabOk (5, 150, 0, 4) := ⟨_, rfl, by decide, rfl, gwm (k := 1) (i := 217) rfl rfl⟩
theorem ftab_114 : ftabOk (5, 120, 5, 6) := ⟨_, rfl, by decide, rfl, gwm (k := 2) (i := 14) rfl rfl⟩
theorem ftab_115 : ftabOk (5, 123, 5, 7) := ⟨_, rfl, by decide, rfl, gwm (k := 2) (i := 15) rfl rfl⟩
theorem ftab_116 : ftabOk (5, 126, 5, 8) := ⟨_, rfl, by decide, rfl, gwm (k := 2) (i := 16) rfl rfl⟩
theorem ftab_117 : ftabOk (5, 220, 2, 1) := ⟨_, rfl, by decide, rfl, gwm (k := 1) (i := 71) rfl rfl⟩
theorem ftab_118 : ftabOk (5, 223, 2, 0) := ⟨_, rfl, by decide, rfl, gwm (k := 1) (i := 67) rfl rfl⟩
theorem ftab_119 : ftabOk (5, 236, 2, 3) := ⟨_, rfl, by decide, rfl, gwm (k := 1) (i := 77) rfl rfl⟩
theorem ftab_120 : ftabOk (5, 239, 2, 7) := ⟨_, rfl, by decide, rfl, gwm (k := 1) (i := 89) rfl rfl⟩
theorem ftab_121 : ftabOk (5, 243, 4, 3) := ⟨_, rfl, by decide, rfl, gwm (k := 1) (i := 54) rfl rfl⟩
theorem ftab_122 : ftabOk (5, 274, 4, 1) := ⟨_, rfl, by decide, rfl, gwm (k := 1) (i := 47) rfl rfl⟩
theorem ftab_123 : ftabOk (5, 280, 0, 2) := ⟨_, rfl, by decide, rfl, gwm (k := 1) (i := 211) rfl rfl⟩
theorem ftab_124 : ftabOk (5, 262, 0, 7) := ⟨_, rfl, by decide, rfl, gwm (k := 1) (i := 221) rfl rfl⟩
theorem ftab_125 : ftabOk (5, 265, 0, 8) := ⟨_, rfl, by decide, rfl, gwm (k := 1) (i := 223) rfl rfl⟩
theorem ftab_126 : ftabOk (5, 268, 0, 9) := ⟨_, rfl, by decide, rfl, gwm (k := 1) (i := 225) rfl rfl⟩
theorem ftab_127 : ftabOk (7, 9, 7, 0) := ⟨_, rfl, by decide, rfl, gwm (k := 2) (i := 52) rfl rfl⟩
theorem ftab_128 : ftabOk (7, 13, 7, 1) := ⟨_, rfl, by decide, rfl, gwm (k := 2) (i := 53) rfl rfl⟩
theorem ftab_129 : ftabOk (7, 20, 7, 2) := ⟨_, rfl, by decide, rfl, gwm (k := 2) (i := 54) rfl rfl⟩
theorem ftab_130 : ftabOk (7, 24, 7, 3) := ⟨_, rfl, by decide, rfl, gwm (k := 2) (i := 55) rfl rfl⟩
theorem ftab_131 : ftabOk (7, 30, 7, 4) := ⟨_, rfl, by decide, rfl, gwm (k := 2) (i := 56) rfl rfl⟩
theorem ftab_132 : ftabOk (7, 39, 7, 5) := ⟨_, rfl, by decide, rfl, gwm (k := 2) (i := 57) rfl rfl⟩
theorem ftab_133 : ftabOk (7, 46, 7, 6) := ⟨_, rfl, by decide, rfl, gwm (k := 2) (i := 58) rfl rfl⟩
theorem ftab_134 : ftabOk (7, 56, 1, 1) := ⟨_, rfl, by decide, rfl, gwm (k := 1) (i := 128) rfl rfl⟩
theorem ftab_135 : ftabOk (7, 59, 1, 4) := ⟨_, rfl, by decide, rfl, gwm (k := 1) (i := 137) rfl rfl⟩
theorem ftab_136 : ftabOk (7, 101, 5, 9) := ⟨_, rfl, by decide, rfl, gwm (k := 2) (i := 18) rfl rfl⟩
theorem ftab_137 : ftabOk (7, 107, 5, 10) := ⟨_, rfl, by decide, rfl, gwm (k := 2) (i := 20) rfl rfl⟩
theorem ftab_138 : ftabOk (7, 110, 5, 12) := ⟨_, rfl, by decide, rfl, gwm (k := 2) (i := 24) rfl rfl⟩
theorem ftab_139 : ftabOk (7, 117, 0, 2) := ⟨_, rfl, by decide, rfl, gwm (k := 1) (i := 210) rfl rfl⟩
theorem ftab_140 : ftabOk (7, 122, 0, 3) := ⟨_, rfl, by decide, rfl, gwm (k := 1) (i := 214) rfl rfl⟩
theorem ftab_141 : ftabOk (7, 125, 5, 11) := ⟨_, rfl, by decide, rfl, gwm (k := 2) (i := 22) rfl rfl⟩
theorem ftab_142 : ftabOk (7, 128, 0, 4) := ⟨_, rfl, by decide, rfl, gwm (k := 1) (i := 216) rfl rfl⟩
theorem ftab_143 : ftabOk (7, 131, 0, 1) := ⟨_, rfl, by decide, rfl, gwm (k := 1) (i := 208) rfl rfl⟩
theorem ftab_144 : ftabOk (6, 7, 6, 0) := ⟨_, rfl, by decide, rfl, gwm (k := 1) (i := 174) rfl rfl⟩
theorem ftab_145 : ftabOk (6, 13, 1, 4) := ⟨_, rfl, by decide, rfl, gwm (k := 1) (i := 133) rfl rfl⟩
theorem ftab_146 : ftabOk (6, 19, 6, 1) := ⟨_, rfl, by decide, rfl, gwm (k := 1) (i := 175) rfl rfl⟩
theorem ftab_147 : ftabOk (6, 25, 6, 2) := ⟨_, rfl, by decide, rfl, gwm (k := 1) (i := 176) rfl rfl⟩
theorem ftab_148 : ftabOk (6, 29, 6, 3) := ⟨_, rfl, by decide, rfl, gwm (k := 1) (i := 177) rfl rfl⟩
theorem ftab_149 : ftabOk (6, 33, 2, 11) := ⟨_, rfl, by decide, rfl, gwm (k := 1) (i := 97) rfl rfl⟩
theorem ftab_150 : ftabOk (6, 37, 6, 4) := ⟨_, rfl, by decide, rfl, gwm (k := 1) (i := 178) rfl rfl⟩
theorem ftab_151 : ftabOk (6, 57, 2, 9) := ⟨_, rfl, by decide, rfl, gwm (k := 1) (i := 93) rfl rfl⟩
theorem ftab_152 : ftabOk (6, 61, 2, 4) := ⟨_, rfl, by decide, rfl, gwm (k := 1) (i := 78) rfl rfl⟩
theorem ftab_153 : ftabOk (6, 64, 2, 10) := ⟨_, rfl, by decide, rfl, gwm (k := 1) (i := 96) rfl rfl⟩
theorem ftab_154 : ftabOk (6, 67, 2, 8) := ⟨_, rfl, by decide, rfl, gwm (k := 1) (i := 91) rfl rfl⟩
theorem ftab_155 : ftabOk (6, 79, 2, 3) := ⟨_, rfl, by decide, rfl, gwm (k := 1) (i := 75) rfl rfl⟩
theorem ftab_156 : ftabOk (6, 82, 2, 7) := ⟨_, rfl, by decide, rfl, gwm (k := 1) (i := 88) rfl rfl⟩
theorem ftab_157 : ftabOk (6, 95, 4, 0) := ⟨_, rfl, by decide, rfl, gwm (k := 1) (i := 43) rfl rfl⟩
theorem ftab_158 : ftabOk (6, 98, 4, 1) := ⟨_, rfl, by decide, rfl, gwm (k := 1) (i := 46) rfl rfl⟩
theorem ftab_159 : ftabOk (6, 101, 4, 2) := ⟨_, rfl, by decide, rfl, gwm (k := 1) (i := 50) rfl rfl⟩
theorem ftab_160 : ftabOk (6, 203, 2, 0) := ⟨_, rfl, by decide, rfl, gwm (k := 1) (i := 66) rfl rfl⟩
theorem ftab_161 : ftabOk (6, 209, 2, 1) := ⟨_, rfl, by decide, rfl, gwm (k := 1) (i := 70) rfl rfl⟩
theorem ftab_162 : ftabOk (6, 212, 2, 5) := ⟨_, rfl, by decide, rfl, gwm (k := 1) (i := 83) rfl rfl⟩
theorem ftab_163 : ftabOk (6, 162, 4, 3) := ⟨_, rfl, by decide, rfl, gwm (k := 1) (i := 53) rfl rfl⟩
set_option maxRecDepth 20000 in
theorem ftab_ok : ∀ q ∈ ftab, ftabOk q := by
  unfold ftab
  simp only [List.forall_mem_cons, List.not_mem_nil, false_implies, implies_true, and_true]
  exact ⟨ftab_0, ftab_1, ftab_2, ftab_3, ftab_4, ftab_5, ftab_6, ftab_7, ftab_8, ftab_9, ftab_10, ftab_11, ftab_12, ftab_13, ftab_14, ftab_15, ftab_16, ftab_17, ftab_18, ftab_19, ftab_20, ftab_21, ftab_22, ftab_23, ftab_24, ftab_25, ftab_26, ftab_27, ftab_28, ftab_29, ftab_30, ftab_31, ftab_32, ftab_33, ftab_34, ftab_35, ftab_36, ftab_37, ftab_38, ftab_39, ftab_40, ftab_41, ftab_42, ftab_43, ftab_44, ftab_45, ftab_46, ftab_47, ftab_48, ftab_49, ftab_50, ftab_51, ftab_52, ftab_53, ftab_54, ftab_55, ftab_56, ftab_57, ftab_58, ftab_59, ftab_60, ftab_61, ftab_62, ftab_63, ftab_64, ftab_65, ftab_66, ftab_67, ftab_68, ftab_69, ftab_70, ftab_71, ftab_72, ftab_73, ftab_74, ftab_75, ftab_76, ftab_77, ftab_78, ftab_79, ftab_80, ftab_81, ftab_82, ftab_83, ftab_84, ftab_85, ftab_86, ftab_87, ftab_88, ftab_89, ftab_90, ftab_91, ftab_92, ftab_93, ftab_94, ftab_95, ftab_96, ftab_97, ftab_98, ftab_99, ftab_100, ftab_101, ftab_102, ftab_103, ftab_104, ftab_105, ftab_106, ftab_107, ftab_108, ftab_109, ftab_110, ftab_111, ftab_112, ftab_113, ftab_114, ftab_115, ftab_116, ftab_117, ftab_118, ftab_119, ftab_120, ftab_121, ftab_122, ftab_123, ftab_124, ftab_125, ftab_126, ftab_127, ftab_128, ftab_129, ftab_130, ftab_131, ftab_132, ftab_133, ftab_134, ftab_135, ftab_136, ftab_137, ftab_138, ftab_139, ftab_140, ftab_141, ftab_142, ftab_143, ftab_144, ftab_145, ftab_146, ftab_147, ftab_148, ftab_149, ftab_150, ftab_151, ftab_152, ftab_153, ftab_154, ftab_155, ftab_156, ftab_157, ftab_158, ftab_159, ftab_160, ftab_161, ftab_162, ftab_163⟩
theorem ft_at {i kc idx ci k : Nat} (h : ftab[i]? = some (kc, idx, ci, k)) : ∃ c, k_cl[ci]? = some c ∧ k < c.2.2 ∧ (c.2.1 k).1 = c.1 ∧ Cond.fieldLink (cnm kc) idx c.1 (c.2.1 k).2.1 (c.2.1 k).2.2.1 ∈ gw := ftab_ok _ (List.mem_of_getElem? h)
def ctabOk (q : Nat × Nat × Nat) : Prop := ∃ c, k_cl[q.2.2]? = some c ∧ Cond.classLink (cnm q.1) q.2.1 c.1 ∈ gw
theorem ctab_0 : ctabOk (11, 7, 7) := ⟨_, rfl, gwm (k := 1) (i := 13) rfl rfl⟩
theorem ctab_1 : ctabOk (11, 10, 8) := ⟨_, rfl, gwm (k := 4) (i := 43) rfl rfl⟩
theorem ctab_2 : ctabOk (1, 16, 2) := ⟨_, rfl, gwm (k := 1) (i := 27) rfl rfl⟩
theorem ctab_3 : ctabOk (2, 16, 4) := ⟨_, rfl, gwm (k := 1) (i := 34) rfl rfl⟩
theorem ctab_4 : ctabOk (5, 15, 0) := ⟨_, rfl, gwm (k := 1) (i := 197) rfl rfl⟩
theorem ctab_5 : ctabOk (7, 17, 1) := ⟨_, rfl, gwm (k := 1) (i := 21) rfl rfl⟩
theorem ctab_6 : ctabOk (7, 27, 3) := ⟨_, rfl, gwm (k := 1) (i := 149) rfl rfl⟩
theorem ctab_7 : ctabOk (7, 34, 6) := ⟨_, rfl, gwm (k := 1) (i := 168) rfl rfl⟩
theorem ctab_8 : ctabOk (7, 43, 5) := ⟨_, rfl, gwm (k := 1) (i := 191) rfl rfl⟩
theorem ctab_ok : ∀ q ∈ ctab, ctabOk q := by
  unfold ctab
  simp only [List.forall_mem_cons, List.not_mem_nil, false_implies, implies_true, and_true]
  exact ⟨ctab_0, ctab_1, ctab_2, ctab_3, ctab_4, ctab_5, ctab_6, ctab_7, ctab_8⟩
theorem ct_at {i kc idx ci : Nat} (h : ctab[i]? = some (kc, idx, ci)) : ∃ c, k_cl[ci]? = some c ∧ Cond.classLink (cnm kc) idx c.1 ∈ gw := ctab_ok _ (List.mem_of_getElem? h)
def atabOk (q : Nat × Nat × Nat) : Prop := match k_ta q.2.2 with
  | .object C => Cond.classLink (cnm q.1) q.2.1 C ∈ gw
  | _ => False
theorem atab_0 : atabOk (1, 16, 3) := show Cond.classLink _ _ _ ∈ gw from gwm (k := 1) (i := 27) rfl rfl
theorem atab_1 : atabOk (2, 16, 4) := show Cond.classLink _ _ _ ∈ gw from gwm (k := 1) (i := 34) rfl rfl
theorem atab_2 : atabOk (5, 15, 5) := show Cond.classLink _ _ _ ∈ gw from gwm (k := 1) (i := 197) rfl rfl
theorem atab_ok : ∀ q ∈ atab, atabOk q := by
  unfold atab
  simp only [List.forall_mem_cons, List.not_mem_nil, false_implies, implies_true, and_true]
  exact ⟨atab_0, atab_1, atab_2⟩
theorem at_at {i kc idx t : Nat} (h : atab[i]? = some (kc, idx, t)) : match k_ta t with
  | .object C => Cond.classLink (cnm kc) idx C ∈ gw
  | _ => False := atab_ok _ (List.mem_of_getElem? h)
def ltabOk (q : Nat × Nat × Nat) : Prop := Cond.constantLong (cnm q.1) q.2.1 (Int64.ofNat q.2.2) ∈ gw
theorem ltab_0 : ltabOk (11, 13, 4294967295) := gwm (k := 6) (i := 4) rfl rfl
theorem ltab_1 : ltabOk (8, 112, 255) := gwm (k := 4) (i := 195) rfl rfl
theorem ltab_2 : ltabOk (8, 198, 15) := gwm (k := 5) (i := 47) rfl rfl
theorem ltab_3 : ltabOk (5, 194, 4294967295) := gwm (k := 3) (i := 193) rfl rfl
theorem ltab_4 : ltabOk (7, 50, 255) := gwm (k := 2) (i := 78) rfl rfl
theorem ltab_ok : ∀ q ∈ ltab, ltabOk q := by
  unfold ltab
  simp only [List.forall_mem_cons, List.not_mem_nil, false_implies, implies_true, and_true]
  exact ⟨ltab_0, ltab_1, ltab_2, ltab_3, ltab_4⟩
theorem lt_at {i kc idx v : Nat} (h : ltab[i]? = some (kc, idx, v)) : Cond.constantLong (cnm kc) idx (Int64.ofNat v) ∈ gw := ltab_ok _ (List.mem_of_getElem? h)
def mtabOk (q : Nat × Nat × Nat) : Prop := (q.2.2 = 9999 ∧ Cond.methodLink (cnm q.1) q.2.1 objectInit ∈ gw) ∨ (q.2.2 = 9998 ∧ Cond.methodLink (cnm q.1) q.2.1 Lib.Math.min.name ∈ gw) ∨ (q.2.2 ≠ 9999 ∧ q.2.2 ≠ 9998 ∧ ∃ m, mts[q.2.2]? = some m ∧ (Cond.methodLink (cnm q.1) q.2.1 m.1 ∈ gw ∨ (cnm q.1 = "TypedEngine$Method" ∧ q.2.1 = 22 ∧ m.1 = y_nest)))
theorem mtab_0 : mtabOk (11, 9, 160) := Or.inr (Or.inr ⟨by decide, by decide, _, rfl, Or.inl (gwm (k := 1) (i := 15) rfl rfl)⟩)
theorem mtab_1 : mtabOk (11, 12, 27) := Or.inr (Or.inr ⟨by decide, by decide, _, rfl, Or.inl (gwm (k := 4) (i := 45) rfl rfl)⟩)
theorem mtab_2 : mtabOk (11, 15, 161) := Or.inr (Or.inr ⟨by decide, by decide, _, rfl, Or.inl (gwm (k := 2) (i := 74) rfl rfl)⟩)
theorem mtab_3 : mtabOk (11, 19, 28) := Or.inr (Or.inr ⟨by decide, by decide, _, rfl, Or.inl (gwm (k := 4) (i := 191) rfl rfl)⟩)
theorem mtab_4 : mtabOk (11, 20, 162) := Or.inr (Or.inr ⟨by decide, by decide, _, rfl, Or.inl (gwm (k := 2) (i := 79) rfl rfl)⟩)
theorem mtab_5 : mtabOk (11, 23, 29) := Or.inr (Or.inr ⟨by decide, by decide, _, rfl, Or.inl (gwm (k := 4) (i := 196) rfl rfl)⟩)
theorem mtab_6 : mtabOk (11, 24, 163) := Or.inr (Or.inr ⟨by decide, by decide, _, rfl, Or.inl (gwm (k := 2) (i := 83) rfl rfl)⟩)
theorem mtab_7 : mtabOk (11, 28, 30) := Or.inr (Or.inr ⟨by decide, by decide, _, rfl, Or.inl (gwm (k := 4) (i := 200) rfl rfl)⟩)
theorem mtab_8 : mtabOk (11, 29, 164) := Or.inr (Or.inr ⟨by decide, by decide, _, rfl, Or.inl (gwm (k := 3) (i := 44) rfl rfl)⟩)
theorem mtab_9 : mtabOk (11, 33, 64) := Or.inr (Or.inr ⟨by decide, by decide, _, rfl, Or.inl (gwm (k := 5) (i := 95) rfl rfl)⟩)
theorem mtab_10 : mtabOk (11, 34, 165) := Or.inr (Or.inr ⟨by decide, by decide, _, rfl, Or.inl (gwm (k := 3) (i := 53) rfl rfl)⟩)
theorem mtab_11 : mtabOk (11, 38, 66) := Or.inr (Or.inr ⟨by decide, by decide, _, rfl, Or.inl (gwm (k := 5) (i := 103) rfl rfl)⟩)
theorem mtab_12 : mtabOk (11, 39, 166) := Or.inr (Or.inr ⟨by decide, by decide, _, rfl, Or.inl (gwm (k := 3) (i := 59) rfl rfl)⟩)
theorem mtab_13 : mtabOk (11, 43, 67) := Or.inr (Or.inr ⟨by decide, by decide, _, rfl, Or.inl (gwm (k := 5) (i := 107) rfl rfl)⟩)
theorem mtab_14 : mtabOk (11, 44, 167) := Or.inr (Or.inr ⟨by decide, by decide, _, rfl, Or.inl (gwm (k := 3) (i := 64) rfl rfl)⟩)
theorem mtab_15 : mtabOk (11, 48, 68) := Or.inr (Or.inr ⟨by decide, by decide, _, rfl, Or.inl (gwm (k := 5) (i := 112) rfl rfl)⟩)
theorem mtab_16 : mtabOk (11, 49, 168) := Or.inr (Or.inr ⟨by decide, by decide, _, rfl, Or.inl (gwm (k := 3) (i := 101) rfl rfl)⟩)
theorem mtab_17 : mtabOk (11, 53, 73) := Or.inr (Or.inr ⟨by decide, by decide, _, rfl, Or.inl (gwm (k := 5) (i := 131) rfl rfl)⟩)
theorem mtab_18 : mtabOk (11, 54, 169) := Or.inr (Or.inr ⟨by decide, by decide, _, rfl, Or.inl (gwm (k := 4) (i := 16) rfl rfl)⟩)
theorem mtab_19 : mtabOk (11, 57, 96) := Or.inr (Or.inr ⟨by decide, by decide, _, rfl, Or.inl (gwm (k := 5) (i := 223) rfl rfl)⟩)
theorem mtab_20 : mtabOk (11, 58, 170) := Or.inr (Or.inr ⟨by decide, by decide, _, rfl, Or.inl (gwm (k := 4) (i := 20) rfl rfl)⟩)
theorem mtab_21 : mtabOk (11, 61, 97) := Or.inr (Or.inr ⟨by decide, by decide, _, rfl, Or.inl (gwm (k := 5) (i := 227) rfl rfl)⟩)
theorem mtab_22 : mtabOk (11, 62, 171) := Or.inr (Or.inr ⟨by decide, by decide, _, rfl, Or.inl (gwm (k := 4) (i := 24) rfl rfl)⟩)
theorem mtab_23 : mtabOk (11, 65, 98) := Or.inr (Or.inr ⟨by decide, by decide, _, rfl, Or.inl (gwm (k := 5) (i := 231) rfl rfl)⟩)
theorem mtab_24 : mtabOk (11, 66, 172) := Or.inr (Or.inr ⟨by decide, by decide, _, rfl, Or.inl (gwm (k := 4) (i := 29) rfl rfl)⟩)
theorem mtab_25 : mtabOk (11, 69, 99) := Or.inr (Or.inr ⟨by decide, by decide, _, rfl, Or.inl (gwm (k := 5) (i := 235) rfl rfl)⟩)
theorem mtab_26 : mtabOk (11, 70, 173) := Or.inr (Or.inr ⟨by decide, by decide, _, rfl, Or.inl (gwm (k := 4) (i := 34) rfl rfl)⟩)
theorem mtab_27 : mtabOk (11, 73, 100) := Or.inr (Or.inr ⟨by decide, by decide, _, rfl, Or.inl (gwm (k := 6) (i := 0) rfl rfl)⟩)
theorem mtab_28 : mtabOk (0, 1, 9999) := Or.inl ⟨rfl, gwm (k := 1) (i := 203) rfl rfl⟩
theorem mtab_29 : mtabOk (0, 45, 5) := Or.inr (Or.inr ⟨by decide, by decide, _, rfl, Or.inl (gwm (k := 3) (i := 139) rfl rfl)⟩)
theorem mtab_30 : mtabOk (0, 49, 24) := Or.inr (Or.inr ⟨by decide, by decide, _, rfl, Or.inl (gwm (k := 4) (i := 15) rfl rfl)⟩)
theorem mtab_31 : mtabOk (1, 1, 9999) := Or.inl ⟨rfl, gwm (k := 1) (i := 26) rfl rfl⟩
theorem mtab_32 : mtabOk (1, 22, 18) := Or.inr (Or.inr ⟨by decide, by decide, _, rfl, Or.inl (gwm (k := 1) (i := 30) rfl rfl)⟩)
theorem mtab_33 : mtabOk (1, 38, 13) := Or.inr (Or.inr ⟨by decide, by decide, _, rfl, Or.inl (gwm (k := 2) (i := 110) rfl rfl)⟩)
theorem mtab_34 : mtabOk (1, 27, 15) := Or.inr (Or.inr ⟨by decide, by decide, _, rfl, Or.inl (gwm (k := 3) (i := 52) rfl rfl)⟩)
theorem mtab_35 : mtabOk (2, 1, 9999) := Or.inl ⟨rfl, gwm (k := 1) (i := 33) rfl rfl⟩
theorem mtab_36 : mtabOk (2, 22, 114) := Or.inr (Or.inr ⟨by decide, by decide, _, rfl, Or.inr ⟨rfl, rfl, rfl⟩⟩)
theorem mtab_37 : mtabOk (2, 46, 116) := Or.inr (Or.inr ⟨by decide, by decide, _, rfl, Or.inl (gwm (k := 2) (i := 238) rfl rfl)⟩)
theorem mtab_38 : mtabOk (2, 50, 117) := Or.inr (Or.inr ⟨by decide, by decide, _, rfl, Or.inl (gwm (k := 3) (i := 6) rfl rfl)⟩)
theorem mtab_39 : mtabOk (8, 1, 9999) := Or.inl ⟨rfl, gwm (k := 4) (i := 48) rfl rfl⟩
theorem mtab_40 : mtabOk (8, 143, 31) := Or.inr (Or.inr ⟨by decide, by decide, _, rfl, Or.inl (gwm (k := 4) (i := 204) rfl rfl)⟩)
theorem mtab_41 : mtabOk (8, 150, 36) := Or.inr (Or.inr ⟨by decide, by decide, _, rfl, Or.inl (gwm (k := 4) (i := 224) rfl rfl)⟩)
theorem mtab_42 : mtabOk (8, 121, 32) := Or.inr (Or.inr ⟨by decide, by decide, _, rfl, Or.inl (gwm (k := 4) (i := 208) rfl rfl)⟩)
theorem mtab_43 : mtabOk (8, 125, 33) := Or.inr (Or.inr ⟨by decide, by decide, _, rfl, Or.inl (gwm (k := 4) (i := 212) rfl rfl)⟩)
theorem mtab_44 : mtabOk (8, 132, 34) := Or.inr (Or.inr ⟨by decide, by decide, _, rfl, Or.inl (gwm (k := 4) (i := 216) rfl rfl)⟩)
theorem mtab_45 : mtabOk (8, 139, 35) := Or.inr (Or.inr ⟨by decide, by decide, _, rfl, Or.inl (gwm (k := 4) (i := 220) rfl rfl)⟩)
theorem mtab_46 : mtabOk (8, 174, 37) := Or.inr (Or.inr ⟨by decide, by decide, _, rfl, Or.inl (gwm (k := 4) (i := 228) rfl rfl)⟩)
theorem mtab_47 : mtabOk (8, 178, 40) := Or.inr (Or.inr ⟨by decide, by decide, _, rfl, Or.inl (gwm (k := 4) (i := 239) rfl rfl)⟩)
theorem mtab_48 : mtabOk (8, 184, 42) := Or.inr (Or.inr ⟨by decide, by decide, _, rfl, Or.inl (gwm (k := 5) (i := 7) rfl rfl)⟩)
theorem mtab_49 : mtabOk (8, 188, 43) := Or.inr (Or.inr ⟨by decide, by decide, _, rfl, Or.inl (gwm (k := 5) (i := 11) rfl rfl)⟩)
theorem mtab_50 : mtabOk (8, 164, 38) := Or.inr (Or.inr ⟨by decide, by decide, _, rfl, Or.inl (gwm (k := 4) (i := 232) rfl rfl)⟩)
theorem mtab_51 : mtabOk (8, 167, 39) := Or.inr (Or.inr ⟨by decide, by decide, _, rfl, Or.inl (gwm (k := 4) (i := 236) rfl rfl)⟩)
theorem mtab_52 : mtabOk (8, 170, 41) := Or.inr (Or.inr ⟨by decide, by decide, _, rfl, Or.inl (gwm (k := 5) (i := 3) rfl rfl)⟩)
theorem mtab_53 : mtabOk (8, 203, 44) := Or.inr (Or.inr ⟨by decide, by decide, _, rfl, Or.inl (gwm (k := 5) (i := 15) rfl rfl)⟩)
theorem mtab_54 : mtabOk (8, 207, 45) := Or.inr (Or.inr ⟨by decide, by decide, _, rfl, Or.inl (gwm (k := 5) (i := 19) rfl rfl)⟩)
theorem mtab_55 : mtabOk (8, 211, 54) := Or.inr (Or.inr ⟨by decide, by decide, _, rfl, Or.inl (gwm (k := 5) (i := 56) rfl rfl)⟩)
theorem mtab_56 : mtabOk (8, 214, 57) := Or.inr (Or.inr ⟨by decide, by decide, _, rfl, Or.inl (gwm (k := 5) (i := 68) rfl rfl)⟩)
theorem mtab_57 : mtabOk (8, 217, 60) := Or.inr (Or.inr ⟨by decide, by decide, _, rfl, Or.inl (gwm (k := 5) (i := 80) rfl rfl)⟩)
theorem mtab_58 : mtabOk (8, 220, 62) := Or.inr (Or.inr ⟨by decide, by decide, _, rfl, Or.inl (gwm (k := 5) (i := 87) rfl rfl)⟩)
theorem mtab_59 : mtabOk (8, 223, 63) := Or.inr (Or.inr ⟨by decide, by decide, _, rfl, Or.inl (gwm (k := 5) (i := 91) rfl rfl)⟩)
theorem mtab_60 : mtabOk (8, 232, 46) := Or.inr (Or.inr ⟨by decide, by decide, _, rfl, Or.inl (gwm (k := 5) (i := 23) rfl rfl)⟩)
theorem mtab_61 : mtabOk (8, 157, 47) := Or.inr (Or.inr ⟨by decide, by decide, _, rfl, Or.inl (gwm (k := 5) (i := 27) rfl rfl)⟩)
theorem mtab_62 : mtabOk (8, 235, 48) := Or.inr (Or.inr ⟨by decide, by decide, _, rfl, Or.inl (gwm (k := 5) (i := 31) rfl rfl)⟩)
theorem mtab_63 : mtabOk (8, 238, 50) := Or.inr (Or.inr ⟨by decide, by decide, _, rfl, Or.inl (gwm (k := 5) (i := 39) rfl rfl)⟩)
theorem mtab_64 : mtabOk (8, 229, 49) := Or.inr (Or.inr ⟨by decide, by decide, _, rfl, Or.inl (gwm (k := 5) (i := 35) rfl rfl)⟩)
theorem mtab_65 : mtabOk (8, 241, 52) := Or.inr (Or.inr ⟨by decide, by decide, _, rfl, Or.inl (gwm (k := 5) (i := 48) rfl rfl)⟩)
theorem mtab_66 : mtabOk (8, 200, 51) := Or.inr (Or.inr ⟨by decide, by decide, _, rfl, Or.inl (gwm (k := 5) (i := 43) rfl rfl)⟩)
theorem mtab_67 : mtabOk (8, 244, 53) := Or.inr (Or.inr ⟨by decide, by decide, _, rfl, Or.inl (gwm (k := 5) (i := 52) rfl rfl)⟩)
theorem mtab_68 : mtabOk (8, 247, 55) := Or.inr (Or.inr ⟨by decide, by decide, _, rfl, Or.inl (gwm (k := 5) (i := 60) rfl rfl)⟩)
theorem mtab_69 : mtabOk (8, 250, 56) := Or.inr (Or.inr ⟨by decide, by decide, _, rfl, Or.inl (gwm (k := 5) (i := 64) rfl rfl)⟩)
theorem mtab_70 : mtabOk (8, 254, 58) := Or.inr (Or.inr ⟨by decide, by decide, _, rfl, Or.inl (gwm (k := 5) (i := 72) rfl rfl)⟩)
theorem mtab_71 : mtabOk (8, 226, 59) := Or.inr (Or.inr ⟨by decide, by decide, _, rfl, Or.inl (gwm (k := 5) (i := 76) rfl rfl)⟩)
theorem mtab_72 : mtabOk (8, 161, 61) := Or.inr (Or.inr ⟨by decide, by decide, _, rfl, Or.inl (gwm (k := 5) (i := 84) rfl rfl)⟩)
theorem mtab_73 : mtabOk (8, 257, 65) := Or.inr (Or.inr ⟨by decide, by decide, _, rfl, Or.inl (gwm (k := 5) (i := 99) rfl rfl)⟩)
theorem mtab_74 : mtabOk (8, 260, 66) := Or.inr (Or.inr ⟨by decide, by decide, _, rfl, Or.inl (gwm (k := 5) (i := 111) rfl rfl)⟩)
theorem mtab_75 : mtabOk (8, 266, 69) := Or.inr (Or.inr ⟨by decide, by decide, _, rfl, Or.inl (gwm (k := 5) (i := 116) rfl rfl)⟩)
theorem mtab_76 : mtabOk (8, 278, 71) := Or.inr (Or.inr ⟨by decide, by decide, _, rfl, Or.inl (gwm (k := 5) (i := 124) rfl rfl)⟩)
theorem mtab_77 : mtabOk (8, 263, 70) := Or.inr (Or.inr ⟨by decide, by decide, _, rfl, Or.inl (gwm (k := 5) (i := 120) rfl rfl)⟩)
theorem mtab_78 : mtabOk (8, 281, 72) := Or.inr (Or.inr ⟨by decide, by decide, _, rfl, Or.inl (gwm (k := 5) (i := 128) rfl rfl)⟩)
theorem mtab_79 : mtabOk (8, 356, 74) := Or.inr (Or.inr ⟨by decide, by decide, _, rfl, Or.inl (gwm (k := 5) (i := 135) rfl rfl)⟩)
theorem mtab_80 : mtabOk (8, 293, 75) := Or.inr (Or.inr ⟨by decide, by decide, _, rfl, Or.inl (gwm (k := 5) (i := 139) rfl rfl)⟩)
theorem mtab_81 : mtabOk (8, 296, 81) := Or.inr (Or.inr ⟨by decide, by decide, _, rfl, Or.inl (gwm (k := 5) (i := 163) rfl rfl)⟩)
theorem mtab_82 : mtabOk (8, 299, 86) := Or.inr (Or.inr ⟨by decide, by decide, _, rfl, Or.inl (gwm (k := 5) (i := 183) rfl rfl)⟩)
theorem mtab_83 : mtabOk (8, 302, 89) := Or.inr (Or.inr ⟨by decide, by decide, _, rfl, Or.inl (gwm (k := 5) (i := 195) rfl rfl)⟩)
theorem mtab_84 : mtabOk (8, 290, 76) := Or.inr (Or.inr ⟨by decide, by decide, _, rfl, Or.inl (gwm (k := 5) (i := 143) rfl rfl)⟩)
theorem mtab_85 : mtabOk (8, 305, 77) := Or.inr (Or.inr ⟨by decide, by decide, _, rfl, Or.inl (gwm (k := 5) (i := 147) rfl rfl)⟩)
theorem mtab_86 : mtabOk (8, 308, 78) := Or.inr (Or.inr ⟨by decide, by decide, _, rfl, Or.inl (gwm (k := 5) (i := 151) rfl rfl)⟩)
theorem mtab_87 : mtabOk (8, 311, 79) := Or.inr (Or.inr ⟨by decide, by decide, _, rfl, Or.inl (gwm (k := 5) (i := 155) rfl rfl)⟩)
theorem mtab_88 : mtabOk (8, 314, 80) := Or.inr (Or.inr ⟨by decide, by decide, _, rfl, Or.inl (gwm (k := 5) (i := 159) rfl rfl)⟩)
theorem mtab_89 : mtabOk (8, 317, 82) := Or.inr (Or.inr ⟨by decide, by decide, _, rfl, Or.inl (gwm (k := 5) (i := 167) rfl rfl)⟩)
theorem mtab_90 : mtabOk (8, 320, 84) := Or.inr (Or.inr ⟨by decide, by decide, _, rfl, Or.inl (gwm (k := 5) (i := 175) rfl rfl)⟩)
theorem mtab_91 : mtabOk (8, 324, 85) := Or.inr (Or.inr ⟨by decide, by decide, _, rfl, Or.inl (gwm (k := 5) (i := 179) rfl rfl)⟩)
theorem mtab_92 : mtabOk (8, 327, 83) := Or.inr (Or.inr ⟨by decide, by decide, _, rfl, Or.inl (gwm (k := 5) (i := 171) rfl rfl)⟩)
theorem mtab_93 : mtabOk (8, 330, 87) := Or.inr (Or.inr ⟨by decide, by decide, _, rfl, Or.inl (gwm (k := 5) (i := 187) rfl rfl)⟩)
theorem mtab_94 : mtabOk (8, 333, 88) := Or.inr (Or.inr ⟨by decide, by decide, _, rfl, Or.inl (gwm (k := 5) (i := 191) rfl rfl)⟩)
theorem mtab_95 : mtabOk (8, 336, 93) := Or.inr (Or.inr ⟨by decide, by decide, _, rfl, Or.inl (gwm (k := 5) (i := 211) rfl rfl)⟩)
theorem mtab_96 : mtabOk (8, 339, 95) := Or.inr (Or.inr ⟨by decide, by decide, _, rfl, Or.inl (gwm (k := 5) (i := 219) rfl rfl)⟩)
theorem mtab_97 : mtabOk (8, 345, 90) := Or.inr (Or.inr ⟨by decide, by decide, _, rfl, Or.inl (gwm (k := 5) (i := 199) rfl rfl)⟩)
theorem mtab_98 : mtabOk (8, 349, 91) := Or.inr (Or.inr ⟨by decide, by decide, _, rfl, Or.inl (gwm (k := 5) (i := 203) rfl rfl)⟩)
theorem mtab_99 : mtabOk (8, 342, 92) := Or.inr (Or.inr ⟨by decide, by decide, _, rfl, Or.inl (gwm (k := 5) (i := 207) rfl rfl)⟩)
theorem mtab_100 : mtabOk (8, 353, 94) := Or.inr (Or.inr ⟨by decide, by decide, _, rfl, Or.inl (gwm (k := 5) (i := 215) rfl rfl)⟩)
theorem mtab_101 : mtabOk (8, 359, 67) := Or.inr (Or.inr ⟨by decide, by decide, _, rfl, Or.inl (gwm (k := 5) (i := 239) rfl rfl)⟩)
theorem mtab_102 : mtabOk (3, 1, 9999) := Or.inl ⟨rfl, gwm (k := 1) (i := 154) rfl rfl⟩
theorem mtab_103 : mtabOk (3, 13, 9998) := Or.inr (Or.inl ⟨rfl, gwm (k := 2) (i := 91) rfl rfl⟩)
theorem mtab_104 : mtabOk (3, 30, 108) := Or.inr (Or.inr ⟨by decide, by decide, _, rfl, Or.inl (gwm (k := 2) (i := 94) rfl rfl)⟩)
theorem mtab_105 : mtabOk (3, 33, 109) := Or.inr (Or.inr ⟨by decide, by decide, _, rfl, Or.inl (gwm (k := 2) (i := 98) rfl rfl)⟩)
theorem mtab_106 : mtabOk (3, 46, 111) := Or.inr (Or.inr ⟨by decide, by decide, _, rfl, Or.inl (gwm (k := 2) (i := 114) rfl rfl)⟩)
theorem mtab_107 : mtabOk (3, 59, 110) := Or.inr (Or.inr ⟨by decide, by decide, _, rfl, Or.inl (gwm (k := 2) (i := 102) rfl rfl)⟩)
theorem mtab_108 : mtabOk (3, 115, 12) := Or.inr (Or.inr ⟨by decide, by decide, _, rfl, Or.inl (gwm (k := 2) (i := 106) rfl rfl)⟩)
theorem mtab_109 : mtabOk (3, 65, 112) := Or.inr (Or.inr ⟨by decide, by decide, _, rfl, Or.inl (gwm (k := 2) (i := 118) rfl rfl)⟩)
theorem mtab_110 : mtabOk (3, 93, 113) := Or.inr (Or.inr ⟨by decide, by decide, _, rfl, Or.inl (gwm (k := 2) (i := 122) rfl rfl)⟩)
theorem mtab_111 : mtabOk (4, 1, 9999) := Or.inl ⟨rfl, gwm (k := 1) (i := 40) rfl rfl⟩
theorem mtab_112 : mtabOk (5, 5, 9999) := Or.inl ⟨rfl, gwm (k := 1) (i := 196) rfl rfl⟩
theorem mtab_113 : mtabOk (5, 27, 1) := Or.inr (Or.inr ⟨by decide, by decide, _, rfl, Or.inl (gwm (k := 1) (i := 200) rfl rfl)⟩)
theorem mtab_114 : mtabOk (5, 54, 121) := Or.inr (Or.inr ⟨by decide, by decide, _, rfl, Or.inl (gwm (k := 3) (i := 80) rfl rfl)⟩)
theorem mtab_115 : mtabOk (5, 58, 3) := Or.inr (Or.inr ⟨by decide, by decide, _, rfl, Or.inl (gwm (k := 3) (i := 97) rfl rfl)⟩)
theorem mtab_116 : mtabOk (5, 62, 122) := Or.inr (Or.inr ⟨by decide, by decide, _, rfl, Or.inl (gwm (k := 3) (i := 84) rfl rfl)⟩)
theorem mtab_117 : mtabOk (5, 66, 15) := Or.inr (Or.inr ⟨by decide, by decide, _, rfl, Or.inl (gwm (k := 3) (i := 88) rfl rfl)⟩)
theorem mtab_118 : mtabOk (5, 70, 2) := Or.inr (Or.inr ⟨by decide, by decide, _, rfl, Or.inl (gwm (k := 3) (i := 89) rfl rfl)⟩)
theorem mtab_119 : mtabOk (5, 77, 123) := Or.inr (Or.inr ⟨by decide, by decide, _, rfl, Or.inl (gwm (k := 3) (i := 93) rfl rfl)⟩)
theorem mtab_120 : mtabOk (5, 86, 19) := Or.inr (Or.inr ⟨by decide, by decide, _, rfl, Or.inl (gwm (k := 3) (i := 109) rfl rfl)⟩)
theorem mtab_121 : mtabOk (5, 92, 125) := Or.inr (Or.inr ⟨by decide, by decide, _, rfl, Or.inl (gwm (k := 3) (i := 110) rfl rfl)⟩)
theorem mtab_122 : mtabOk (5, 96, 132) := Or.inr (Or.inr ⟨by decide, by decide, _, rfl, Or.inl (gwm (k := 3) (i := 158) rfl rfl)⟩)
theorem mtab_123 : mtabOk (5, 99, 140) := Or.inr (Or.inr ⟨by decide, by decide, _, rfl, Or.inl (gwm (k := 3) (i := 189) rfl rfl)⟩)
theorem mtab_124 : mtabOk (5, 103, 144) := Or.inr (Or.inr ⟨by decide, by decide, _, rfl, Or.inl (gwm (k := 3) (i := 205) rfl rfl)⟩)
theorem mtab_125 : mtabOk (5, 110, 152) := Or.inr (Or.inr ⟨by decide, by decide, _, rfl, Or.inl (gwm (k := 4) (i := 3) rfl rfl)⟩)
theorem mtab_126 : mtabOk (5, 113, 102) := Or.inr (Or.inr ⟨by decide, by decide, _, rfl, Or.inl (gwm (k := 3) (i := 224) rfl rfl)⟩)
theorem mtab_127 : mtabOk (5, 129, 103) := Or.inr (Or.inr ⟨by decide, by decide, _, rfl, Or.inl (gwm (k := 3) (i := 114) rfl rfl)⟩)
theorem mtab_128 : mtabOk (5, 132, 4) := Or.inr (Or.inr ⟨by decide, by decide, _, rfl, Or.inl (gwm (k := 3) (i := 115) rfl rfl)⟩)
theorem mtab_129 : mtabOk (5, 136, 126) := Or.inr (Or.inr ⟨by decide, by decide, _, rfl, Or.inl (gwm (k := 3) (i := 119) rfl rfl)⟩)
theorem mtab_130 : mtabOk (5, 140, 5) := Or.inr (Or.inr ⟨by decide, by decide, _, rfl, Or.inl (gwm (k := 3) (i := 123) rfl rfl)⟩)
theorem mtab_131 : mtabOk (5, 144, 6) := Or.inr (Or.inr ⟨by decide, by decide, _, rfl, Or.inl (gwm (k := 3) (i := 127) rfl rfl)⟩)
theorem mtab_132 : mtabOk (5, 147, 127) := Or.inr (Or.inr ⟨by decide, by decide, _, rfl, Or.inl (gwm (k := 3) (i := 131) rfl rfl)⟩)
theorem mtab_133 : mtabOk (5, 153, 8) := Or.inr (Or.inr ⟨by decide, by decide, _, rfl, Or.inl (gwm (k := 3) (i := 148) rfl rfl)⟩)
theorem mtab_134 : mtabOk (5, 156, 130) := Or.inr (Or.inr ⟨by decide, by decide, _, rfl, Or.inl (gwm (k := 3) (i := 152) rfl rfl)⟩)
theorem mtab_135 : mtabOk (5, 160, 7) := Or.inr (Or.inr ⟨by decide, by decide, _, rfl, Or.inl (gwm (k := 3) (i := 135) rfl rfl)⟩)
theorem mtab_136 : mtabOk (5, 164, 131) := Or.inr (Or.inr ⟨by decide, by decide, _, rfl, Or.inl (gwm (k := 3) (i := 155) rfl rfl)⟩)
theorem mtab_137 : mtabOk (5, 167, 128) := Or.inr (Or.inr ⟨by decide, by decide, _, rfl, Or.inl (gwm (k := 3) (i := 140) rfl rfl)⟩)
theorem mtab_138 : mtabOk (5, 116, 129) := Or.inr (Or.inr ⟨by decide, by decide, _, rfl, Or.inl (gwm (k := 3) (i := 144) rfl rfl)⟩)
theorem mtab_139 : mtabOk (5, 171, 133) := Or.inr (Or.inr ⟨by decide, by decide, _, rfl, Or.inl (gwm (k := 3) (i := 162) rfl rfl)⟩)
theorem mtab_140 : mtabOk (5, 174, 135) := Or.inr (Or.inr ⟨by decide, by decide, _, rfl, Or.inl (gwm (k := 3) (i := 169) rfl rfl)⟩)
theorem mtab_141 : mtabOk (5, 177, 136) := Or.inr (Or.inr ⟨by decide, by decide, _, rfl, Or.inl (gwm (k := 3) (i := 173) rfl rfl)⟩)
theorem mtab_142 : mtabOk (5, 181, 137) := Or.inr (Or.inr ⟨by decide, by decide, _, rfl, Or.inl (gwm (k := 3) (i := 177) rfl rfl)⟩)
theorem mtab_143 : mtabOk (5, 184, 139) := Or.inr (Or.inr ⟨by decide, by decide, _, rfl, Or.inl (gwm (k := 3) (i := 185) rfl rfl)⟩)
theorem mtab_144 : mtabOk (5, 187, 134) := Or.inr (Or.inr ⟨by decide, by decide, _, rfl, Or.inl (gwm (k := 3) (i := 166) rfl rfl)⟩)
theorem mtab_145 : mtabOk (5, 191, 138) := Or.inr (Or.inr ⟨by decide, by decide, _, rfl, Or.inl (gwm (k := 3) (i := 181) rfl rfl)⟩)
theorem mtab_146 : mtabOk (5, 196, 141) := Or.inr (Or.inr ⟨by decide, by decide, _, rfl, Or.inl (gwm (k := 3) (i := 194) rfl rfl)⟩)
theorem mtab_147 : mtabOk (5, 200, 142) := Or.inr (Or.inr ⟨by decide, by decide, _, rfl, Or.inl (gwm (k := 3) (i := 197) rfl rfl)⟩)
theorem mtab_148 : mtabOk (5, 204, 143) := Or.inr (Or.inr ⟨by decide, by decide, _, rfl, Or.inl (gwm (k := 3) (i := 201) rfl rfl)⟩)
theorem mtab_149 : mtabOk (5, 207, 145) := Or.inr (Or.inr ⟨by decide, by decide, _, rfl, Or.inl (gwm (k := 3) (i := 209) rfl rfl)⟩)
theorem mtab_150 : mtabOk (5, 210, 146) := Or.inr (Or.inr ⟨by decide, by decide, _, rfl, Or.inl (gwm (k := 3) (i := 213) rfl rfl)⟩)
theorem mtab_151 : mtabOk (5, 213, 149) := Or.inr (Or.inr ⟨by decide, by decide, _, rfl, Or.inl (gwm (k := 3) (i := 225) rfl rfl)⟩)
theorem mtab_152 : mtabOk (5, 217, 151) := Or.inr (Or.inr ⟨by decide, by decide, _, rfl, Or.inl (gwm (k := 3) (i := 238) rfl rfl)⟩)
theorem mtab_153 : mtabOk (5, 226, 147) := Or.inr (Or.inr ⟨by decide, by decide, _, rfl, Or.inl (gwm (k := 3) (i := 217) rfl rfl)⟩)
theorem mtab_154 : mtabOk (5, 230, 148) := Or.inr (Or.inr ⟨by decide, by decide, _, rfl, Or.inl (gwm (k := 3) (i := 220) rfl rfl)⟩)
theorem mtab_155 : mtabOk (5, 248, 116) := Or.inr (Or.inr ⟨by decide, by decide, _, rfl, Or.inl (gwm (k := 3) (i := 229) rfl rfl)⟩)
theorem mtab_156 : mtabOk (5, 251, 150) := Or.inr (Or.inr ⟨by decide, by decide, _, rfl, Or.inl (gwm (k := 3) (i := 230) rfl rfl)⟩)
theorem mtab_157 : mtabOk (5, 255, 9) := Or.inr (Or.inr ⟨by decide, by decide, _, rfl, Or.inl (gwm (k := 3) (i := 234) rfl rfl)⟩)
theorem mtab_158 : mtabOk (5, 259, 25) := Or.inr (Or.inr ⟨by decide, by decide, _, rfl, Or.inl (gwm (k := 4) (i := 2) rfl rfl)⟩)
theorem mtab_159 : mtabOk (5, 271, 153) := Or.inr (Or.inr ⟨by decide, by decide, _, rfl, Or.inl (gwm (k := 4) (i := 7) rfl rfl)⟩)
theorem mtab_160 : mtabOk (5, 277, 10) := Or.inr (Or.inr ⟨by decide, by decide, _, rfl, Or.inl (gwm (k := 4) (i := 11) rfl rfl)⟩)
theorem mtab_161 : mtabOk (10, 11, 156) := Or.inr (Or.inr ⟨by decide, by decide, _, rfl, Or.inl (gwm (k := 2) (i := 179) rfl rfl)⟩)
theorem mtab_162 : mtabOk (10, 15, 158) := Or.inr (Or.inr ⟨by decide, by decide, _, rfl, Or.inl (gwm (k := 2) (i := 189) rfl rfl)⟩)
theorem mtab_163 : mtabOk (7, 1, 9999) := Or.inl ⟨rfl, gwm (k := 1) (i := 18) rfl rfl⟩
theorem mtab_164 : mtabOk (7, 19, 11) := Or.inr (Or.inr ⟨by decide, by decide, _, rfl, Or.inl (gwm (k := 1) (i := 23) rfl rfl)⟩)
theorem mtab_165 : mtabOk (7, 29, 106) := Or.inr (Or.inr ⟨by decide, by decide, _, rfl, Or.inl (gwm (k := 1) (i := 151) rfl rfl)⟩)
theorem mtab_166 : mtabOk (7, 36, 174) := Or.inr (Or.inr ⟨by decide, by decide, _, rfl, Or.inl (gwm (k := 1) (i := 170) rfl rfl)⟩)
theorem mtab_167 : mtabOk (7, 45, 118) := Or.inr (Or.inr ⟨by decide, by decide, _, rfl, Or.inl (gwm (k := 1) (i := 193) rfl rfl)⟩)
theorem mtab_168 : mtabOk (7, 52, 107) := Or.inr (Or.inr ⟨by decide, by decide, _, rfl, Or.inl (gwm (k := 2) (i := 87) rfl rfl)⟩)
theorem mtab_169 : mtabOk (7, 63, 175) := Or.inr (Or.inr ⟨by decide, by decide, _, rfl, Or.inl (gwm (k := 2) (i := 126) rfl rfl)⟩)
theorem mtab_170 : mtabOk (7, 67, 119) := Or.inr (Or.inr ⟨by decide, by decide, _, rfl, Or.inl (gwm (k := 3) (i := 40) rfl rfl)⟩)
theorem mtab_171 : mtabOk (7, 70, 16) := Or.inr (Or.inr ⟨by decide, by decide, _, rfl, Or.inl (gwm (k := 3) (i := 48) rfl rfl)⟩)
theorem mtab_172 : mtabOk (7, 74, 20) := Or.inr (Or.inr ⟨by decide, by decide, _, rfl, Or.inl (gwm (k := 3) (i := 57) rfl rfl)⟩)
theorem mtab_173 : mtabOk (7, 82, 156) := Or.inr (Or.inr ⟨by decide, by decide, _, rfl, Or.inl (gwm (k := 3) (i := 58) rfl rfl)⟩)
theorem mtab_174 : mtabOk (7, 85, 158) := Or.inr (Or.inr ⟨by decide, by decide, _, rfl, Or.inl (gwm (k := 3) (i := 63) rfl rfl)⟩)
theorem mtab_175 : mtabOk (7, 89, 26) := Or.inr (Or.inr ⟨by decide, by decide, _, rfl, Or.inl (gwm (k := 3) (i := 68) rfl rfl)⟩)
theorem mtab_176 : mtabOk (7, 93, 17) := Or.inr (Or.inr ⟨by decide, by decide, _, rfl, Or.inl (gwm (k := 3) (i := 72) rfl rfl)⟩)
theorem mtab_177 : mtabOk (7, 97, 120) := Or.inr (Or.inr ⟨by decide, by decide, _, rfl, Or.inl (gwm (k := 3) (i := 76) rfl rfl)⟩)
theorem mtab_178 : mtabOk (7, 104, 124) := Or.inr (Or.inr ⟨by decide, by decide, _, rfl, Or.inl (gwm (k := 3) (i := 105) rfl rfl)⟩)
theorem mtab_179 : mtabOk (7, 113, 122) := Or.inr (Or.inr ⟨by decide, by decide, _, rfl, Or.inl (gwm (k := 4) (i := 28) rfl rfl)⟩)
theorem mtab_180 : mtabOk (7, 137, 8) := Or.inr (Or.inr ⟨by decide, by decide, _, rfl, Or.inl (gwm (k := 4) (i := 33) rfl rfl)⟩)
theorem mtab_181 : mtabOk (7, 141, 15) := Or.inr (Or.inr ⟨by decide, by decide, _, rfl, Or.inl (gwm (k := 4) (i := 38) rfl rfl)⟩)
theorem mtab_182 : mtabOk (7, 143, 154) := Or.inr (Or.inr ⟨by decide, by decide, _, rfl, Or.inl (gwm (k := 4) (i := 39) rfl rfl)⟩)
theorem mtab_183 : mtabOk (6, 1, 9999) := Or.inl ⟨rfl, gwm (k := 1) (i := 173) rfl rfl⟩
theorem mtab_184 : mtabOk (6, 40, 176) := Or.inr (Or.inr ⟨by decide, by decide, _, rfl, Or.inl (gwm (k := 2) (i := 130) rfl rfl)⟩)
theorem mtab_185 : mtabOk (6, 44, 177) := Or.inr (Or.inr ⟨by decide, by decide, _, rfl, Or.inl (gwm (k := 2) (i := 140) rfl rfl)⟩)
theorem mtab_186 : mtabOk (6, 49, 180) := Or.inr (Or.inr ⟨by decide, by decide, _, rfl, Or.inl (gwm (k := 2) (i := 156) rfl rfl)⟩)
theorem mtab_187 : mtabOk (6, 53, 181) := Or.inr (Or.inr ⟨by decide, by decide, _, rfl, Or.inl (gwm (k := 2) (i := 160) rfl rfl)⟩)
theorem mtab_188 : mtabOk (6, 70, 101) := Or.inr (Or.inr ⟨by decide, by decide, _, rfl, Or.inl (gwm (k := 2) (i := 134) rfl rfl)⟩)
theorem mtab_189 : mtabOk (6, 75, 102) := Or.inr (Or.inr ⟨by decide, by decide, _, rfl, Or.inl (gwm (k := 2) (i := 137) rfl rfl)⟩)
theorem mtab_190 : mtabOk (6, 86, 178) := Or.inr (Or.inr ⟨by decide, by decide, _, rfl, Or.inl (gwm (k := 2) (i := 144) rfl rfl)⟩)
theorem mtab_191 : mtabOk (6, 90, 115) := Or.inr (Or.inr ⟨by decide, by decide, _, rfl, Or.inl (gwm (k := 2) (i := 152) rfl rfl)⟩)
theorem mtab_192 : mtabOk (6, 104, 179) := Or.inr (Or.inr ⟨by decide, by decide, _, rfl, Or.inl (gwm (k := 2) (i := 148) rfl rfl)⟩)
theorem mtab_193 : mtabOk (6, 107, 19) := Or.inr (Or.inr ⟨by decide, by decide, _, rfl, Or.inl (gwm (k := 2) (i := 164) rfl rfl)⟩)
theorem mtab_194 : mtabOk (6, 110, 20) := Or.inr (Or.inr ⟨by decide, by decide, _, rfl, Or.inl (gwm (k := 2) (i := 168) rfl rfl)⟩)
theorem mtab_195 : mtabOk (6, 113, 182) := Or.inr (Or.inr ⟨by decide, by decide, _, rfl, Or.inl (gwm (k := 2) (i := 172) rfl rfl)⟩)
theorem mtab_196 : mtabOk (6, 117, 185) := Or.inr (Or.inr ⟨by decide, by decide, _, rfl, Or.inl (gwm (k := 2) (i := 205) rfl rfl)⟩)
theorem mtab_197 : mtabOk (6, 120, 186) := Or.inr (Or.inr ⟨by decide, by decide, _, rfl, Or.inl (gwm (k := 2) (i := 215) rfl rfl)⟩)
theorem mtab_198 : mtabOk (6, 124, 187) := Or.inr (Or.inr ⟨by decide, by decide, _, rfl, Or.inl (gwm (k := 2) (i := 218) rfl rfl)⟩)
theorem mtab_199 : mtabOk (6, 127, 189) := Or.inr (Or.inr ⟨by decide, by decide, _, rfl, Or.inl (gwm (k := 2) (i := 230) rfl rfl)⟩)
theorem mtab_200 : mtabOk (6, 130, 190) := Or.inr (Or.inr ⟨by decide, by decide, _, rfl, Or.inl (gwm (k := 3) (i := 14) rfl rfl)⟩)
theorem mtab_201 : mtabOk (6, 133, 191) := Or.inr (Or.inr ⟨by decide, by decide, _, rfl, Or.inl (gwm (k := 3) (i := 19) rfl rfl)⟩)
theorem mtab_202 : mtabOk (6, 167, 155) := Or.inr (Or.inr ⟨by decide, by decide, _, rfl, Or.inl (gwm (k := 2) (i := 176) rfl rfl)⟩)
theorem mtab_203 : mtabOk (6, 173, 21) := Or.inr (Or.inr ⟨by decide, by decide, _, rfl, Or.inl (gwm (k := 2) (i := 182) rfl rfl)⟩)
theorem mtab_204 : mtabOk (6, 176, 157) := Or.inr (Or.inr ⟨by decide, by decide, _, rfl, Or.inl (gwm (k := 2) (i := 186) rfl rfl)⟩)
theorem mtab_205 : mtabOk (6, 179, 183) := Or.inr (Or.inr ⟨by decide, by decide, _, rfl, Or.inl (gwm (k := 2) (i := 192) rfl rfl)⟩)
theorem mtab_206 : mtabOk (6, 182, 22) := Or.inr (Or.inr ⟨by decide, by decide, _, rfl, Or.inl (gwm (k := 2) (i := 195) rfl rfl)⟩)
theorem mtab_207 : mtabOk (6, 185, 184) := Or.inr (Or.inr ⟨by decide, by decide, _, rfl, Or.inl (gwm (k := 2) (i := 199) rfl rfl)⟩)
theorem mtab_208 : mtabOk (6, 188, 159) := Or.inr (Or.inr ⟨by decide, by decide, _, rfl, Or.inl (gwm (k := 2) (i := 202) rfl rfl)⟩)
theorem mtab_209 : mtabOk (6, 191, 14) := Or.inr (Or.inr ⟨by decide, by decide, _, rfl, Or.inl (gwm (k := 2) (i := 209) rfl rfl)⟩)
theorem mtab_210 : mtabOk (6, 194, 12) := Or.inr (Or.inr ⟨by decide, by decide, _, rfl, Or.inl (gwm (k := 2) (i := 213) rfl rfl)⟩)
theorem mtab_211 : mtabOk (6, 197, 13) := Or.inr (Or.inr ⟨by decide, by decide, _, rfl, Or.inl (gwm (k := 2) (i := 214) rfl rfl)⟩)
theorem mtab_212 : mtabOk (6, 200, 188) := Or.inr (Or.inr ⟨by decide, by decide, _, rfl, Or.inl (gwm (k := 2) (i := 222) rfl rfl)⟩)
theorem mtab_213 : mtabOk (6, 206, 15) := Or.inr (Or.inr ⟨by decide, by decide, _, rfl, Or.inl (gwm (k := 2) (i := 226) rfl rfl)⟩)
theorem mtab_214 : mtabOk (6, 153, 23) := Or.inr (Or.inr ⟨by decide, by decide, _, rfl, Or.inl (gwm (k := 2) (i := 234) rfl rfl)⟩)
theorem mtab_215 : mtabOk (6, 156, 24) := Or.inr (Or.inr ⟨by decide, by decide, _, rfl, Or.inl (gwm (k := 3) (i := 2) rfl rfl)⟩)
theorem mtab_216 : mtabOk (6, 159, 25) := Or.inr (Or.inr ⟨by decide, by decide, _, rfl, Or.inl (gwm (k := 3) (i := 10) rfl rfl)⟩)
theorem mtab_217 : mtabOk (6, 170, 116) := Or.inr (Or.inr ⟨by decide, by decide, _, rfl, Or.inl (gwm (k := 3) (i := 18) rfl rfl)⟩)
theorem mtab_218 : mtabOk (6, 137, 103) := Or.inr (Or.inr ⟨by decide, by decide, _, rfl, Or.inl (gwm (k := 3) (i := 23) rfl rfl)⟩)
theorem mtab_219 : mtabOk (6, 140, 192) := Or.inr (Or.inr ⟨by decide, by decide, _, rfl, Or.inl (gwm (k := 3) (i := 26) rfl rfl)⟩)
theorem mtab_220 : mtabOk (6, 143, 104) := Or.inr (Or.inr ⟨by decide, by decide, _, rfl, Or.inl (gwm (k := 3) (i := 30) rfl rfl)⟩)
theorem mtab_221 : mtabOk (6, 146, 193) := Or.inr (Or.inr ⟨by decide, by decide, _, rfl, Or.inl (gwm (k := 3) (i := 33) rfl rfl)⟩)
theorem mtab_222 : mtabOk (6, 150, 105) := Or.inr (Or.inr ⟨by decide, by decide, _, rfl, Or.inl (gwm (k := 3) (i := 37) rfl rfl)⟩)
set_option maxRecDepth 20000 in
theorem mtab_ok : ∀ q ∈ mtab, mtabOk q := by
  unfold mtab
  simp only [List.forall_mem_cons, List.not_mem_nil, false_implies, implies_true, and_true]
  exact ⟨mtab_0, mtab_1, mtab_2, mtab_3, mtab_4, mtab_5, mtab_6, mtab_7, mtab_8, mtab_9, mtab_10, mtab_11, mtab_12, mtab_13, mtab_14, mtab_15, mtab_16, mtab_17, mtab_18, mtab_19, mtab_20, mtab_21, mtab_22, mtab_23, mtab_24, mtab_25, mtab_26, mtab_27, mtab_28, mtab_29, mtab_30, mtab_31, mtab_32, mtab_33, mtab_34, mtab_35, mtab_36, mtab_37, mtab_38, mtab_39, mtab_40, mtab_41, mtab_42, mtab_43, mtab_44, mtab_45, mtab_46, mtab_47, mtab_48, mtab_49, mtab_50, mtab_51, mtab_52, mtab_53, mtab_54, mtab_55, mtab_56, mtab_57, mtab_58, mtab_59, mtab_60, mtab_61, mtab_62, mtab_63, mtab_64, mtab_65, mtab_66, mtab_67, mtab_68, mtab_69, mtab_70, mtab_71, mtab_72, mtab_73, mtab_74, mtab_75, mtab_76, mtab_77, mtab_78, mtab_79, mtab_80, mtab_81, mtab_82, mtab_83, mtab_84, mtab_85, mtab_86, mtab_87, mtab_88, mtab_89, mtab_90, mtab_91, mtab_92, mtab_93, mtab_94, mtab_95, mtab_96, mtab_97, mtab_98, mtab_99, mtab_100, mtab_101, mtab_102, mtab_103, mtab_104, mtab_105, mtab_106, mtab_107, mtab_108, mtab_109, mtab_110, mtab_111, mtab_112, mtab_113, mtab_114, mtab_115, mtab_116, mtab_117, mtab_118, mtab_119, mtab_120, mtab_121, mtab_122, mtab_123, mtab_124, mtab_125, mtab_126, mtab_127, mtab_128, mtab_129, mtab_130, mtab_131, mtab_132, mtab_133, mtab_134, mtab_135, mtab_136, mtab_137, mtab_138, mtab_139, mtab_140, mtab_141, mtab_142, mtab_143, mtab_144, mtab_145, mtab_146, mtab_147, mtab_148, mtab_149, mtab_150, mtab_151, mtab_152, mtab_153, mtab_154, mtab_155, mtab_156, mtab_157, mtab_158, mtab_159, mtab_160, mtab_161, mtab_162, mtab_163, mtab_164, mtab_165, mtab_166, mtab_167, mtab_168, mtab_169, mtab_170, mtab_171, mtab_172, mtab_173, mtab_174, mtab_175, mtab_176, mtab_177, mtab_178, mtab_179, mtab_180, mtab_181, mtab_182, mtab_183, mtab_184, mtab_185, mtab_186, mtab_187, mtab_188, mtab_189, mtab_190, mtab_191, mtab_192, mtab_193, mtab_194, mtab_195, mtab_196, mtab_197, mtab_198, mtab_199, mtab_200, mtab_201, mtab_202, mtab_203, mtab_204, mtab_205, mtab_206, mtab_207, mtab_208, mtab_209, mtab_210, mtab_211, mtab_212, mtab_213, mtab_214, mtab_215, mtab_216, mtab_217, mtab_218, mtab_219, mtab_220, mtab_221, mtab_222⟩
theorem mt_at {i kc idx M : Nat} (h : mtab[i]? = some (kc, idx, M)) : mtabOk (kc, idx, M) := mtab_ok _ (List.mem_of_getElem? h)
theorem ac_ok : ∀ t, t < 3 → Cond.arrayClass (k_ta t) ∈ gw := by
  intro t ht
  rcases (show t = 0 ∨ t = 1 ∨ t = 2 by omega) with rfl | rfl | rfl
  · exact gwm (k := 1) (i := 64) rfl rfl
  · exact gwm (k := 2) (i := 7) rfl rfl
  · exact gwm (k := 1) (i := 190) rfl rfl
theorem kw_0 : (∀ w ∈ u_ws "TypedEngine$Frame" k_T0 10, w ∈ gw) ∧ Cond.instantiable "TypedEngine$Frame" 10 ∈ gw ∧ Cond.initialized "TypedEngine$Frame" ∈ gw ∧ "TypedEngine$Frame" = cnm 0 := by
  refine ⟨?_, gwm (k := 1) (i := 199) rfl rfl, gwm (k := 1) (i := 8) rfl rfl, rfl⟩
  show ∀ w ∈ [u_lay "TypedEngine$Frame" k_T0 0, u_lay "TypedEngine$Frame" k_T0 1, u_lay "TypedEngine$Frame" k_T0 2, u_lay "TypedEngine$Frame" k_T0 3, u_lay "TypedEngine$Frame" k_T0 4, u_lay "TypedEngine$Frame" k_T0 5, u_lay "TypedEngine$Frame" k_T0 6, u_lay "TypedEngine$Frame" k_T0 7, u_lay "TypedEngine$Frame" k_T0 8, u_lay "TypedEngine$Frame" k_T0 9], w ∈ gw
  simp only [List.forall_mem_cons, List.not_mem_nil, false_implies, implies_true, and_true]
  exact ⟨gwm (k := 1) (i := 226) rfl rfl, gwm (k := 1) (i := 228) rfl rfl, gwm (k := 1) (i := 230) rfl rfl, gwm (k := 1) (i := 232) rfl rfl, gwm (k := 1) (i := 234) rfl rfl, gwm (k := 1) (i := 236) rfl rfl, gwm (k := 1) (i := 238) rfl rfl, gwm (k := 2) (i := 0) rfl rfl, gwm (k := 2) (i := 2) rfl rfl, gwm (k := 2) (i := 4) rfl rfl⟩
theorem kw_1 : (∀ w ∈ u_ws "TypedEngine$Image" k_T1 5, w ∈ gw) ∧ Cond.instantiable "TypedEngine$Image" 5 ∈ gw ∧ Cond.initialized "TypedEngine$Image" ∈ gw ∧ "TypedEngine$Image" = cnm 1 := by
  refine ⟨?_, gwm (k := 1) (i := 22) rfl rfl, gwm (k := 1) (i := 2) rfl rfl, rfl⟩
  show ∀ w ∈ [u_lay "TypedEngine$Image" k_T1 0, u_lay "TypedEngine$Image" k_T1 1, u_lay "TypedEngine$Image" k_T1 2, u_lay "TypedEngine$Image" k_T1 3, u_lay "TypedEngine$Image" k_T1 4], w ∈ gw
  simp only [List.forall_mem_cons, List.not_mem_nil, false_implies, implies_true, and_true]
  exact ⟨gwm (k := 1) (i := 138) rfl rfl, gwm (k := 1) (i := 140) rfl rfl, gwm (k := 1) (i := 142) rfl rfl, gwm (k := 1) (i := 144) rfl rfl, gwm (k := 1) (i := 146) rfl rfl⟩
theorem kw_2 : (∀ w ∈ u_ws "TypedEngine$Method" k_T2 12, w ∈ gw) ∧ Cond.instantiable "TypedEngine$Method" 12 ∈ gw ∧ Cond.initialized "TypedEngine$Method" ∈ gw ∧ "TypedEngine$Method" = cnm 2 := by
  refine ⟨?_, gwm (k := 1) (i := 29) rfl rfl, gwm (k := 1) (i := 3) rfl rfl, rfl⟩
  show ∀ w ∈ [u_lay "TypedEngine$Method" k_T2 0, u_lay "TypedEngine$Method" k_T2 1, u_lay "TypedEngine$Method" k_T2 2, u_lay "TypedEngine$Method" k_T2 3, u_lay "TypedEngine$Method" k_T2 4, u_lay "TypedEngine$Method" k_T2 5, u_lay "TypedEngine$Method" k_T2 6, u_lay "TypedEngine$Method" k_T2 7, u_lay "TypedEngine$Method" k_T2 8, u_lay "TypedEngine$Method" k_T2 9, u_lay "TypedEngine$Method" k_T2 10, u_lay "TypedEngine$Method" k_T2 11], w ∈ gw
  simp only [List.forall_mem_cons, List.not_mem_nil, false_implies, implies_true, and_true]
  exact ⟨gwm (k := 1) (i := 99) rfl rfl, gwm (k := 1) (i := 101) rfl rfl, gwm (k := 1) (i := 103) rfl rfl, gwm (k := 1) (i := 105) rfl rfl, gwm (k := 1) (i := 107) rfl rfl, gwm (k := 1) (i := 109) rfl rfl, gwm (k := 1) (i := 111) rfl rfl, gwm (k := 1) (i := 113) rfl rfl, gwm (k := 1) (i := 115) rfl rfl, gwm (k := 1) (i := 117) rfl rfl, gwm (k := 1) (i := 119) rfl rfl, gwm (k := 1) (i := 121) rfl rfl⟩
theorem kw_3 : (∀ w ∈ u_ws "TypedEngine$Reader" k_T3 4, w ∈ gw) ∧ Cond.instantiable "TypedEngine$Reader" 4 ∈ gw ∧ Cond.initialized "TypedEngine$Reader" ∈ gw ∧ "TypedEngine$Reader" = cnm 3 := by
  refine ⟨?_, gwm (k := 1) (i := 150) rfl rfl, gwm (k := 1) (i := 5) rfl rfl, rfl⟩
  show ∀ w ∈ [u_lay "TypedEngine$Reader" k_T3 0, u_lay "TypedEngine$Reader" k_T3 1, u_lay "TypedEngine$Reader" k_T3 2, u_lay "TypedEngine$Reader" k_T3 3], w ∈ gw
  simp only [List.forall_mem_cons, List.not_mem_nil, false_implies, implies_true, and_true]
  exact ⟨gwm (k := 1) (i := 159) rfl rfl, gwm (k := 1) (i := 161) rfl rfl, gwm (k := 1) (i := 163) rfl rfl, gwm (k := 1) (i := 165) rfl rfl⟩
theorem kw_4 : (∀ w ∈ u_ws "TypedEngine$Region" k_T4 4, w ∈ gw) ∧ Cond.instantiable "TypedEngine$Region" 4 ∈ gw ∧ Cond.initialized "TypedEngine$Region" ∈ gw ∧ "TypedEngine$Region" = cnm 4 := by
  refine ⟨?_, gwm (k := 1) (i := 36) rfl rfl, gwm (k := 1) (i := 4) rfl rfl, rfl⟩
  show ∀ w ∈ [u_lay "TypedEngine$Region" k_T4 0, u_lay "TypedEngine$Region" k_T4 1, u_lay "TypedEngine$Region" k_T4 2, u_lay "TypedEngine$Region" k_T4 3], w ∈ gw
  simp only [List.forall_mem_cons, List.not_mem_nil, false_implies, implies_true, and_true]
  exact ⟨gwm (k := 1) (i := 55) rfl rfl, gwm (k := 1) (i := 57) rfl rfl, gwm (k := 1) (i := 59) rfl rfl, gwm (k := 1) (i := 61) rfl rfl⟩
theorem kw_5 : (∀ w ∈ u_ws "TypedEngine$Run" k_T5 13, w ∈ gw) ∧ Cond.instantiable "TypedEngine$Run" 13 ∈ gw ∧ Cond.initialized "TypedEngine$Run" ∈ gw ∧ "TypedEngine$Run" = cnm 5 := by
  refine ⟨?_, gwm (k := 1) (i := 192) rfl rfl, gwm (k := 1) (i := 7) rfl rfl, rfl⟩
  show ∀ w ∈ [u_lay "TypedEngine$Run" k_T5 0, u_lay "TypedEngine$Run" k_T5 1, u_lay "TypedEngine$Run" k_T5 2, u_lay "TypedEngine$Run" k_T5 3, u_lay "TypedEngine$Run" k_T5 4, u_lay "TypedEngine$Run" k_T5 5, u_lay "TypedEngine$Run" k_T5 6, u_lay "TypedEngine$Run" k_T5 7, u_lay "TypedEngine$Run" k_T5 8, u_lay "TypedEngine$Run" k_T5 9, u_lay "TypedEngine$Run" k_T5 10, u_lay "TypedEngine$Run" k_T5 11, u_lay "TypedEngine$Run" k_T5 12], w ∈ gw
  simp only [List.forall_mem_cons, List.not_mem_nil, false_implies, implies_true, and_true]
  exact ⟨gwm (k := 2) (i := 25) rfl rfl, gwm (k := 2) (i := 27) rfl rfl, gwm (k := 2) (i := 29) rfl rfl, gwm (k := 2) (i := 31) rfl rfl, gwm (k := 2) (i := 33) rfl rfl, gwm (k := 2) (i := 35) rfl rfl, gwm (k := 2) (i := 37) rfl rfl, gwm (k := 2) (i := 39) rfl rfl, gwm (k := 2) (i := 41) rfl rfl, gwm (k := 2) (i := 43) rfl rfl, gwm (k := 2) (i := 45) rfl rfl, gwm (k := 2) (i := 47) rfl rfl, gwm (k := 2) (i := 49) rfl rfl⟩
theorem kw_6 : (∀ w ∈ u_ws "TypedEngine$Verifier" k_T6 5, w ∈ gw) ∧ Cond.instantiable "TypedEngine$Verifier" 5 ∈ gw ∧ Cond.initialized "TypedEngine$Verifier" ∈ gw ∧ "TypedEngine$Verifier" = cnm 6 := by
  refine ⟨?_, gwm (k := 1) (i := 169) rfl rfl, gwm (k := 1) (i := 6) rfl rfl, rfl⟩
  show ∀ w ∈ [u_lay "TypedEngine$Verifier" k_T6 0, u_lay "TypedEngine$Verifier" k_T6 1, u_lay "TypedEngine$Verifier" k_T6 2, u_lay "TypedEngine$Verifier" k_T6 3, u_lay "TypedEngine$Verifier" k_T6 4], w ∈ gw
  simp only [List.forall_mem_cons, List.not_mem_nil, false_implies, implies_true, and_true]
  exact ⟨gwm (k := 1) (i := 179) rfl rfl, gwm (k := 1) (i := 181) rfl rfl, gwm (k := 1) (i := 183) rfl rfl, gwm (k := 1) (i := 185) rfl rfl, gwm (k := 1) (i := 187) rfl rfl⟩
theorem kw_7 : (∀ w ∈ u_ws "TypedEngine" k_T7 7, w ∈ gw) ∧ Cond.instantiable "TypedEngine" 7 ∈ gw ∧ Cond.initialized "TypedEngine" ∈ gw ∧ "TypedEngine" = cnm 7 := by
  refine ⟨?_, gwm (k := 1) (i := 14) rfl rfl, gwm (k := 1) (i := 1) rfl rfl, rfl⟩
  show ∀ w ∈ [u_lay "TypedEngine" k_T7 0, u_lay "TypedEngine" k_T7 1, u_lay "TypedEngine" k_T7 2, u_lay "TypedEngine" k_T7 3, u_lay "TypedEngine" k_T7 4, u_lay "TypedEngine" k_T7 5, u_lay "TypedEngine" k_T7 6], w ∈ gw
  simp only [List.forall_mem_cons, List.not_mem_nil, false_implies, implies_true, and_true]
  exact ⟨gwm (k := 2) (i := 59) rfl rfl, gwm (k := 2) (i := 61) rfl rfl, gwm (k := 2) (i := 63) rfl rfl, gwm (k := 2) (i := 65) rfl rfl, gwm (k := 2) (i := 67) rfl rfl, gwm (k := 2) (i := 69) rfl rfl, gwm (k := 2) (i := 71) rfl rfl⟩
theorem kw_8 : (∀ w ∈ u_ws "TypedEngineModel" k_T8 47, w ∈ gw) ∧ Cond.instantiable "TypedEngineModel" 47 ∈ gw ∧ Cond.initialized "TypedEngineModel" ∈ gw ∧ "TypedEngineModel" = cnm 8 := by
  refine ⟨?_, gwm (k := 4) (i := 44) rfl rfl, gwm (k := 1) (i := 9) rfl rfl, rfl⟩
  show ∀ w ∈ [u_lay "TypedEngineModel" k_T8 0, u_lay "TypedEngineModel" k_T8 1, u_lay "TypedEngineModel" k_T8 2, u_lay "TypedEngineModel" k_T8 3, u_lay "TypedEngineModel" k_T8 4, u_lay "TypedEngineModel" k_T8 5, u_lay "TypedEngineModel" k_T8 6, u_lay "TypedEngineModel" k_T8 7, u_lay "TypedEngineModel" k_T8 8, u_lay "TypedEngineModel" k_T8 9, u_lay "TypedEngineModel" k_T8 10, u_lay "TypedEngineModel" k_T8 11, u_lay "TypedEngineModel" k_T8 12, u_lay "TypedEngineModel" k_T8 13, u_lay "TypedEngineModel" k_T8 14, u_lay "TypedEngineModel" k_T8 15, u_lay "TypedEngineModel" k_T8 16, u_lay "TypedEngineModel" k_T8 17, u_lay "TypedEngineModel" k_T8 18, u_lay "TypedEngineModel" k_T8 19, u_lay "TypedEngineModel" k_T8 20, u_lay "TypedEngineModel" k_T8 21, u_lay "TypedEngineModel" k_T8 22, u_lay "TypedEngineModel" k_T8 23, u_lay "TypedEngineModel" k_T8 24, u_lay "TypedEngineModel" k_T8 25, u_lay "TypedEngineModel" k_T8 26, u_lay "TypedEngineModel" k_T8 27, u_lay "TypedEngineModel" k_T8 28, u_lay "TypedEngineModel" k_T8 29, u_lay "TypedEngineModel" k_T8 30, u_lay "TypedEngineModel" k_T8 31, u_lay "TypedEngineModel" k_T8 32, u_lay "TypedEngineModel" k_T8 33, u_lay "TypedEngineModel" k_T8 34, u_lay "TypedEngineModel" k_T8 35, u_lay "TypedEngineModel" k_T8 36, u_lay "TypedEngineModel" k_T8 37, u_lay "TypedEngineModel" k_T8 38, u_lay "TypedEngineModel" k_T8 39, u_lay "TypedEngineModel" k_T8 40, u_lay "TypedEngineModel" k_T8 41, u_lay "TypedEngineModel" k_T8 42, u_lay "TypedEngineModel" k_T8 43, u_lay "TypedEngineModel" k_T8 44, u_lay "TypedEngineModel" k_T8 45, u_lay "TypedEngineModel" k_T8 46], w ∈ gw
  simp only [List.forall_mem_cons, List.not_mem_nil, false_implies, implies_true, and_true]
  exact ⟨gwm (k := 4) (i := 96) rfl rfl, gwm (k := 4) (i := 98) rfl rfl, gwm (k := 4) (i := 100) rfl rfl, gwm (k := 4) (i := 102) rfl rfl, gwm (k := 4) (i := 104) rfl rfl, gwm (k := 4) (i := 106) rfl rfl, gwm (k := 4) (i := 108) rfl rfl, gwm (k := 4) (i := 110) rfl rfl, gwm (k := 4) (i := 112) rfl rfl, gwm (k := 4) (i := 114) rfl rfl, gwm (k := 4) (i := 116) rfl rfl, gwm (k := 4) (i := 118) rfl rfl, gwm (k := 4) (i := 120) rfl rfl, gwm (k := 4) (i := 122) rfl rfl, gwm (k := 4) (i := 124) rfl rfl, gwm (k := 4) (i := 126) rfl rfl, gwm (k := 4) (i := 128) rfl rfl, gwm (k := 4) (i := 130) rfl rfl, gwm (k := 4) (i := 132) rfl rfl, gwm (k := 4) (i := 134) rfl rfl, gwm (k := 4) (i := 136) rfl rfl, gwm (k := 4) (i := 138) rfl rfl, gwm (k := 4) (i := 140) rfl rfl, gwm (k := 4) (i := 142) rfl rfl, gwm (k := 4) (i := 144) rfl rfl, gwm (k := 4) (i := 146) rfl rfl, gwm (k := 4) (i := 148) rfl rfl, gwm (k := 4) (i := 150) rfl rfl, gwm (k := 4) (i := 152) rfl rfl, gwm (k := 4) (i := 154) rfl rfl, gwm (k := 4) (i := 156) rfl rfl, gwm (k := 4) (i := 158) rfl rfl, gwm (k := 4) (i := 160) rfl rfl, gwm (k := 4) (i := 162) rfl rfl, gwm (k := 4) (i := 164) rfl rfl, gwm (k := 4) (i := 166) rfl rfl, gwm (k := 4) (i := 168) rfl rfl, gwm (k := 4) (i := 170) rfl rfl, gwm (k := 4) (i := 172) rfl rfl, gwm (k := 4) (i := 174) rfl rfl, gwm (k := 4) (i := 176) rfl rfl, gwm (k := 4) (i := 178) rfl rfl, gwm (k := 4) (i := 180) rfl rfl, gwm (k := 4) (i := 182) rfl rfl, gwm (k := 4) (i := 184) rfl rfl, gwm (k := 4) (i := 186) rfl rfl, gwm (k := 4) (i := 188) rfl rfl⟩
theorem kw_ok {k : Nat} {q : vw_C} (hq : k_cl[k]? = some q) : (∀ w ∈ u_ws q.1 q.2.1 q.2.2, w ∈ gw) ∧ Cond.instantiable q.1 q.2.2 ∈ gw ∧ Cond.initialized q.1 ∈ gw ∧ q.1 = cnm k := by
  have hk : k < 9 := (List.getElem?_eq_some_iff.mp hq).1
  rcases (show k = 0 ∨ k = 1 ∨ k = 2 ∨ k = 3 ∨ k = 4 ∨ k = 5 ∨ k = 6 ∨ k = 7 ∨ k = 8 by omega) with rfl | rfl | rfl | rfl | rfl | rfl | rfl | rfl | rfl
  · cases hq; exact kw_0
  · cases hq; exact kw_1
  · cases hq; exact kw_2
  · cases hq; exact kw_3
  · cases hq; exact kw_4
  · cases hq; exact kw_5
  · cases hq; exact kw_6
  · cases hq; exact kw_7
  · cases hq; exact kw_8
theorem obj_ok : Cond.instanceMethod objectInit ∈ gw ∧ Cond.code objectInit ⟨#[0xb1]⟩ 1 none ∈ gw := ⟨gwm (k := 1) (i := 19) rfl rfl, gwm (k := 1) (i := 20) rfl rfl⟩
theorem min_ok : Cond.static Lib.Math.min.name ∈ gw ∧ Cond.initialized "java/lang/Math" ∈ gw ∧ Cond.code Lib.Math.min.name Lib.Math.min.code 2 (some .int) ∈ gw := ⟨gwm (k := 2) (i := 92) rfl rfl, gwm (k := 1) (i := 10) rfl rfl, gwm (k := 2) (i := 93) rfl rfl⟩
theorem oh_Fr_init : okH m_Fr_init := ⟨by decide +kernel, gwm (k := 1) (i := 202) rfl rfl, gwm (k := 1) (i := 8) rfl rfl, by decide +kernel, by decide, rfl, fun h => absurd h (by decide), fun h => absurd h (by decide), fun _ => ⟨gwm (k := 1) (i := 201) rfl rfl, rfl, rfl⟩⟩
theorem oh_Fr_begin : okH m_Fr_begin := ⟨by decide +kernel, gwm (k := 3) (i := 92) rfl rfl, gwm (k := 1) (i := 8) rfl rfl, by decide +kernel, by decide, rfl, fun h => absurd h (by decide), fun _ => ⟨gwm (k := 3) (i := 90) rfl rfl, gwm (k := 3) (i := 91) rfl rfl⟩, fun h => absurd h (by decide)⟩
theorem oh_Fr_setArgument : okH m_Fr_setArgument := ⟨by decide +kernel, gwm (k := 3) (i := 100) rfl rfl, gwm (k := 1) (i := 8) rfl rfl, by decide +kernel, by decide, rfl, fun h => absurd h (by decide), fun _ => ⟨gwm (k := 3) (i := 98) rfl rfl, gwm (k := 3) (i := 99) rfl rfl⟩, fun h => absurd h (by decide)⟩
theorem oh_Fr_push : okH m_Fr_push := ⟨by decide +kernel, gwm (k := 3) (i := 118) rfl rfl, gwm (k := 1) (i := 8) rfl rfl, by decide +kernel, by decide, rfl, fun h => absurd h (by decide), fun _ => ⟨gwm (k := 3) (i := 116) rfl rfl, gwm (k := 3) (i := 117) rfl rfl⟩, fun h => absurd h (by decide)⟩
theorem oh_Fr_pop : okH m_Fr_pop := ⟨by decide +kernel, gwm (k := 3) (i := 126) rfl rfl, gwm (k := 1) (i := 8) rfl rfl, by decide +kernel, by decide, rfl, fun h => absurd h (by decide), fun _ => ⟨gwm (k := 3) (i := 124) rfl rfl, gwm (k := 3) (i := 125) rfl rfl⟩, fun h => absurd h (by decide)⟩
theorem oh_Fr_argument : okH m_Fr_argument := ⟨by decide +kernel, gwm (k := 3) (i := 130) rfl rfl, gwm (k := 1) (i := 8) rfl rfl, by decide +kernel, by decide, rfl, fun h => absurd h (by decide), fun _ => ⟨gwm (k := 3) (i := 128) rfl rfl, gwm (k := 3) (i := 129) rfl rfl⟩, fun h => absurd h (by decide)⟩
theorem oh_Fr_popInt : okH m_Fr_popInt := ⟨by decide +kernel, gwm (k := 3) (i := 138) rfl rfl, gwm (k := 1) (i := 8) rfl rfl, by decide +kernel, by decide, rfl, fun h => absurd h (by decide), fun _ => ⟨gwm (k := 3) (i := 136) rfl rfl, gwm (k := 3) (i := 137) rfl rfl⟩, fun h => absurd h (by decide)⟩
theorem oh_Fr_valueAt : okH m_Fr_valueAt := ⟨by decide +kernel, gwm (k := 3) (i := 151) rfl rfl, gwm (k := 1) (i := 8) rfl rfl, by decide +kernel, by decide, rfl, fun h => absurd h (by decide), fun _ => ⟨gwm (k := 3) (i := 149) rfl rfl, gwm (k := 3) (i := 150) rfl rfl⟩, fun h => absurd h (by decide)⟩
theorem oh_Fr_keepPending : okH m_Fr_keepPending := ⟨by decide +kernel, gwm (k := 3) (i := 237) rfl rfl, gwm (k := 1) (i := 8) rfl rfl, by decide +kernel, by decide, rfl, fun h => absurd h (by decide), fun _ => ⟨gwm (k := 3) (i := 235) rfl rfl, gwm (k := 3) (i := 236) rfl rfl⟩, fun h => absurd h (by decide)⟩
theorem oh_Fr_forgetPending : okH m_Fr_forgetPending := ⟨by decide +kernel, gwm (k := 4) (i := 14) rfl rfl, gwm (k := 1) (i := 8) rfl rfl, by decide +kernel, by decide, rfl, fun h => absurd h (by decide), fun _ => ⟨gwm (k := 4) (i := 12) rfl rfl, gwm (k := 4) (i := 13) rfl rfl⟩, fun h => absurd h (by decide)⟩
theorem oh_Im_init : okH m_Im_init := ⟨by decide +kernel, gwm (k := 1) (i := 25) rfl rfl, gwm (k := 1) (i := 2) rfl rfl, by decide +kernel, by decide, rfl, fun h => absurd h (by decide), fun h => absurd h (by decide), fun _ => ⟨gwm (k := 1) (i := 24) rfl rfl, rfl, rfl⟩⟩
theorem oh_Im_canBeNull : okH m_Im_canBeNull := ⟨by decide +kernel, gwm (k := 2) (i := 109) rfl rfl, gwm (k := 1) (i := 2) rfl rfl, by decide +kernel, by decide, rfl, fun h => absurd h (by decide), fun _ => ⟨gwm (k := 2) (i := 107) rfl rfl, gwm (k := 2) (i := 108) rfl rfl⟩, fun h => absurd h (by decide)⟩
theorem oh_Im_hasClass : okH m_Im_hasClass := ⟨by decide +kernel, gwm (k := 2) (i := 113) rfl rfl, gwm (k := 1) (i := 2) rfl rfl, by decide +kernel, by decide, rfl, fun h => absurd h (by decide), fun _ => ⟨gwm (k := 2) (i := 111) rfl rfl, gwm (k := 2) (i := 112) rfl rfl⟩, fun h => absurd h (by decide)⟩
theorem oh_Im_fieldType : okH m_Im_fieldType := ⟨by decide +kernel, gwm (k := 2) (i := 212) rfl rfl, gwm (k := 1) (i := 2) rfl rfl, by decide +kernel, by decide, rfl, fun h => absurd h (by decide), fun _ => ⟨gwm (k := 2) (i := 210) rfl rfl, gwm (k := 2) (i := 211) rfl rfl⟩, fun h => absurd h (by decide)⟩
theorem oh_Im_method : okH m_Im_method := ⟨by decide +kernel, gwm (k := 2) (i := 229) rfl rfl, gwm (k := 1) (i := 2) rfl rfl, by decide +kernel, by decide, rfl, fun h => absurd h (by decide), fun _ => ⟨gwm (k := 2) (i := 227) rfl rfl, gwm (k := 2) (i := 228) rfl rfl⟩, fun h => absurd h (by decide)⟩
theorem oh_Im_verifiedMethod : okH m_Im_verifiedMethod := ⟨by decide +kernel, gwm (k := 3) (i := 51) rfl rfl, gwm (k := 1) (i := 2) rfl rfl, by decide +kernel, by decide, rfl, fun h => absurd h (by decide), fun _ => ⟨gwm (k := 3) (i := 49) rfl rfl, gwm (k := 3) (i := 50) rfl rfl⟩, fun h => absurd h (by decide)⟩
theorem oh_Im_callsVerifiedAlone : okH m_Im_callsVerifiedAlone := ⟨by decide +kernel, gwm (k := 3) (i := 75) rfl rfl, gwm (k := 1) (i := 2) rfl rfl, by decide +kernel, by decide, rfl, fun h => absurd h (by decide), fun _ => ⟨gwm (k := 3) (i := 73) rfl rfl, gwm (k := 3) (i := 74) rfl rfl⟩, fun h => absurd h (by decide)⟩
theorem oh_Me_init : okH m_Me_init := ⟨by decide +kernel, gwm (k := 1) (i := 32) rfl rfl, gwm (k := 1) (i := 3) rfl rfl, by decide +kernel, by decide, rfl, fun h => absurd h (by decide), fun h => absurd h (by decide), fun _ => ⟨gwm (k := 1) (i := 31) rfl rfl, rfl, rfl⟩⟩
theorem oh_Me_codeAt : okH m_Me_codeAt := ⟨by decide +kernel, gwm (k := 2) (i := 167) rfl rfl, gwm (k := 1) (i := 3) rfl rfl, by decide +kernel, by decide, rfl, fun h => absurd h (by decide), fun _ => ⟨gwm (k := 2) (i := 165) rfl rfl, gwm (k := 2) (i := 166) rfl rfl⟩, fun h => absurd h (by decide)⟩
theorem oh_Me_rowAt : okH m_Me_rowAt := ⟨by decide +kernel, gwm (k := 2) (i := 171) rfl rfl, gwm (k := 1) (i := 3) rfl rfl, by decide +kernel, by decide, rfl, fun h => absurd h (by decide), fun _ => ⟨gwm (k := 2) (i := 169) rfl rfl, gwm (k := 2) (i := 170) rfl rfl⟩, fun h => absurd h (by decide)⟩
theorem oh_Me_localType : okH m_Me_localType := ⟨by decide +kernel, gwm (k := 2) (i := 185) rfl rfl, gwm (k := 1) (i := 3) rfl rfl, by decide +kernel, by decide, rfl, fun h => absurd h (by decide), fun _ => ⟨gwm (k := 2) (i := 183) rfl rfl, gwm (k := 2) (i := 184) rfl rfl⟩, fun h => absurd h (by decide)⟩
theorem oh_Me_argumentType : okH m_Me_argumentType := ⟨by decide +kernel, gwm (k := 2) (i := 198) rfl rfl, gwm (k := 1) (i := 3) rfl rfl, by decide +kernel, by decide, rfl, fun h => absurd h (by decide), fun _ => ⟨gwm (k := 2) (i := 196) rfl rfl, gwm (k := 2) (i := 197) rfl rfl⟩, fun h => absurd h (by decide)⟩
theorem oh_Me_partsAt : okH m_Me_partsAt := ⟨by decide +kernel, gwm (k := 2) (i := 237) rfl rfl, gwm (k := 1) (i := 3) rfl rfl, by decide +kernel, by decide, rfl, fun h => absurd h (by decide), fun _ => ⟨gwm (k := 2) (i := 235) rfl rfl, gwm (k := 2) (i := 236) rfl rfl⟩, fun h => absurd h (by decide)⟩
theorem oh_Me_handlersAt : okH m_Me_handlersAt := ⟨by decide +kernel, gwm (k := 3) (i := 5) rfl rfl, gwm (k := 1) (i := 3) rfl rfl, by decide +kernel, by decide, rfl, fun h => absurd h (by decide), fun _ => ⟨gwm (k := 3) (i := 3) rfl rfl, gwm (k := 3) (i := 4) rfl rfl⟩, fun h => absurd h (by decide)⟩
theorem oh_Me_finallyAround : okH m_Me_finallyAround := ⟨by decide +kernel, gwm (k := 3) (i := 13) rfl rfl, gwm (k := 1) (i := 3) rfl rfl, by decide +kernel, by decide, rfl, fun h => absurd h (by decide), fun _ => ⟨gwm (k := 3) (i := 11) rfl rfl, gwm (k := 3) (i := 12) rfl rfl⟩, fun h => absurd h (by decide)⟩
theorem oh_Me_takesNumbersAlone : okH m_Me_takesNumbersAlone := ⟨by decide +kernel, gwm (k := 3) (i := 71) rfl rfl, gwm (k := 1) (i := 3) rfl rfl, by decide +kernel, by decide, rfl, fun h => absurd h (by decide), fun _ => ⟨gwm (k := 3) (i := 69) rfl rfl, gwm (k := 3) (i := 70) rfl rfl⟩, fun h => absurd h (by decide)⟩
theorem oh_Mo_init : okH m_Mo_init := ⟨by decide +kernel, gwm (k := 4) (i := 47) rfl rfl, gwm (k := 1) (i := 9) rfl rfl, by decide +kernel, by decide, rfl, fun h => absurd h (by decide), fun h => absurd h (by decide), fun _ => ⟨gwm (k := 4) (i := 46) rfl rfl, rfl, rfl⟩⟩
theorem oh_Mo_draft : okH m_Mo_draft := ⟨by decide +kernel, gwm (k := 4) (i := 194) rfl rfl, gwm (k := 1) (i := 9) rfl rfl, by decide +kernel, by decide, rfl, fun h => absurd h (by decide), fun _ => ⟨gwm (k := 4) (i := 192) rfl rfl, gwm (k := 4) (i := 193) rfl rfl⟩, fun h => absurd h (by decide)⟩
theorem oh_Mo_clear : okH m_Mo_clear := ⟨by decide +kernel, gwm (k := 4) (i := 199) rfl rfl, gwm (k := 1) (i := 9) rfl rfl, by decide +kernel, by decide, rfl, fun h => absurd h (by decide), fun _ => ⟨gwm (k := 4) (i := 197) rfl rfl, gwm (k := 4) (i := 198) rfl rfl⟩, fun h => absurd h (by decide)⟩
theorem oh_Mo_load : okH m_Mo_load := ⟨by decide +kernel, gwm (k := 4) (i := 203) rfl rfl, gwm (k := 1) (i := 9) rfl rfl, by decide +kernel, by decide, rfl, fun h => absurd h (by decide), fun _ => ⟨gwm (k := 4) (i := 201) rfl rfl, gwm (k := 4) (i := 202) rfl rfl⟩, fun h => absurd h (by decide)⟩
theorem oh_Mo_scan : okH m_Mo_scan := ⟨by decide +kernel, gwm (k := 4) (i := 207) rfl rfl, gwm (k := 1) (i := 9) rfl rfl, by decide +kernel, by decide, rfl, fun h => absurd h (by decide), fun _ => ⟨gwm (k := 4) (i := 206) rfl rfl, gwm (k := 0) (i := 47) rfl rfl⟩, fun h => absurd h (by decide)⟩
theorem oh_Mo_next : okH m_Mo_next := ⟨by decide +kernel, gwm (k := 4) (i := 211) rfl rfl, gwm (k := 1) (i := 9) rfl rfl, by decide +kernel, by decide, rfl, fun h => absurd h (by decide), fun _ => ⟨gwm (k := 4) (i := 210) rfl rfl, gwm (k := 0) (i := 48) rfl rfl⟩, fun h => absurd h (by decide)⟩
theorem oh_Mo_between : okH m_Mo_between := ⟨by decide +kernel, gwm (k := 4) (i := 215) rfl rfl, gwm (k := 1) (i := 9) rfl rfl, by decide +kernel, by decide, rfl, fun h => absurd h (by decide), fun _ => ⟨gwm (k := 4) (i := 214) rfl rfl, gwm (k := 0) (i := 49) rfl rfl⟩, fun h => absurd h (by decide)⟩
theorem oh_Mo_typeOf : okH m_Mo_typeOf := ⟨by decide +kernel, gwm (k := 4) (i := 219) rfl rfl, gwm (k := 1) (i := 9) rfl rfl, by decide +kernel, by decide, rfl, fun h => absurd h (by decide), fun _ => ⟨gwm (k := 4) (i := 218) rfl rfl, gwm (k := 0) (i := 50) rfl rfl⟩, fun h => absurd h (by decide)⟩
theorem oh_Mo_scanMethod : okH m_Mo_scanMethod := ⟨by decide +kernel, gwm (k := 4) (i := 223) rfl rfl, gwm (k := 1) (i := 9) rfl rfl, by decide +kernel, by decide, rfl, fun h => absurd h (by decide), fun _ => ⟨gwm (k := 4) (i := 222) rfl rfl, gwm (k := 0) (i := 51) rfl rfl⟩, fun h => absurd h (by decide)⟩
theorem oh_Mo_verify : okH m_Mo_verify := ⟨by decide +kernel, gwm (k := 4) (i := 227) rfl rfl, gwm (k := 1) (i := 9) rfl rfl, by decide +kernel, by decide, rfl, fun h => absurd h (by decide), fun _ => ⟨gwm (k := 4) (i := 226) rfl rfl, gwm (k := 0) (i := 52) rfl rfl⟩, fun h => absurd h (by decide)⟩
theorem oh_Mo_split : okH m_Mo_split := ⟨by decide +kernel, gwm (k := 4) (i := 231) rfl rfl, gwm (k := 1) (i := 9) rfl rfl, by decide +kernel, by decide, rfl, fun h => absurd h (by decide), fun _ => ⟨gwm (k := 4) (i := 230) rfl rfl, gwm (k := 0) (i := 53) rfl rfl⟩, fun h => absurd h (by decide)⟩
theorem oh_Mo_op : okH m_Mo_op := ⟨by decide +kernel, gwm (k := 4) (i := 235) rfl rfl, gwm (k := 1) (i := 9) rfl rfl, by decide +kernel, by decide, rfl, fun h => absurd h (by decide), fun _ => ⟨gwm (k := 4) (i := 234) rfl rfl, gwm (k := 0) (i := 54) rfl rfl⟩, fun h => absurd h (by decide)⟩
theorem oh_Mo_bytes : okH m_Mo_bytes := ⟨by decide +kernel, gwm (k := 4) (i := 238) rfl rfl, gwm (k := 1) (i := 9) rfl rfl, by decide +kernel, by decide, rfl, fun _ => gwm (k := 4) (i := 237) rfl rfl, fun h => absurd h (by decide), fun h => absurd h (by decide)⟩
theorem oh_Mo_wellMade : okH m_Mo_wellMade := ⟨by decide +kernel, gwm (k := 5) (i := 2) rfl rfl, gwm (k := 1) (i := 9) rfl rfl, by decide +kernel, by decide, rfl, fun h => absurd h (by decide), fun _ => ⟨gwm (k := 5) (i := 1) rfl rfl, gwm (k := 0) (i := 55) rfl rfl⟩, fun h => absurd h (by decide)⟩
theorem oh_Mo_isBeginning : okH m_Mo_isBeginning := ⟨by decide +kernel, gwm (k := 5) (i := 6) rfl rfl, gwm (k := 1) (i := 9) rfl rfl, by decide +kernel, by decide, rfl, fun h => absurd h (by decide), fun _ => ⟨gwm (k := 5) (i := 5) rfl rfl, gwm (k := 0) (i := 56) rfl rfl⟩, fun h => absurd h (by decide)⟩
theorem oh_Mo_meet : okH m_Mo_meet := ⟨by decide +kernel, gwm (k := 5) (i := 10) rfl rfl, gwm (k := 1) (i := 9) rfl rfl, by decide +kernel, by decide, rfl, fun h => absurd h (by decide), fun _ => ⟨gwm (k := 5) (i := 9) rfl rfl, gwm (k := 0) (i := 57) rfl rfl⟩, fun h => absurd h (by decide)⟩
theorem oh_Mo_flow : okH m_Mo_flow := ⟨by decide +kernel, gwm (k := 5) (i := 14) rfl rfl, gwm (k := 1) (i := 9) rfl rfl, by decide +kernel, by decide, rfl, fun h => absurd h (by decide), fun _ => ⟨gwm (k := 5) (i := 13) rfl rfl, gwm (k := 0) (i := 58) rfl rfl⟩, fun h => absurd h (by decide)⟩
theorem oh_Mo_inPart : okH m_Mo_inPart := ⟨by decide +kernel, gwm (k := 5) (i := 18) rfl rfl, gwm (k := 1) (i := 9) rfl rfl, by decide +kernel, by decide, rfl, fun h => absurd h (by decide), fun _ => ⟨gwm (k := 5) (i := 17) rfl rfl, gwm (k := 0) (i := 59) rfl rfl⟩, fun h => absurd h (by decide)⟩
theorem oh_Mo_simple : okH m_Mo_simple := ⟨by decide +kernel, gwm (k := 5) (i := 22) rfl rfl, gwm (k := 1) (i := 9) rfl rfl, by decide +kernel, by decide, rfl, fun h => absurd h (by decide), fun _ => ⟨gwm (k := 5) (i := 21) rfl rfl, gwm (k := 0) (i := 60) rfl rfl⟩, fun h => absurd h (by decide)⟩
theorem oh_Mo_push : okH m_Mo_push := ⟨by decide +kernel, gwm (k := 5) (i := 26) rfl rfl, gwm (k := 1) (i := 9) rfl rfl, by decide +kernel, by decide, rfl, fun h => absurd h (by decide), fun _ => ⟨gwm (k := 5) (i := 25) rfl rfl, gwm (k := 0) (i := 61) rfl rfl⟩, fun h => absurd h (by decide)⟩
theorem oh_Mo_operand : okH m_Mo_operand := ⟨by decide +kernel, gwm (k := 5) (i := 30) rfl rfl, gwm (k := 1) (i := 9) rfl rfl, by decide +kernel, by decide, rfl, fun h => absurd h (by decide), fun _ => ⟨gwm (k := 5) (i := 29) rfl rfl, gwm (k := 0) (i := 62) rfl rfl⟩, fun h => absurd h (by decide)⟩
theorem oh_Mo_localAt : okH m_Mo_localAt := ⟨by decide +kernel, gwm (k := 5) (i := 34) rfl rfl, gwm (k := 1) (i := 9) rfl rfl, by decide +kernel, by decide, rfl, fun h => absurd h (by decide), fun _ => ⟨gwm (k := 5) (i := 33) rfl rfl, gwm (k := 0) (i := 63) rfl rfl⟩, fun h => absurd h (by decide)⟩
theorem oh_Mo_need : okH m_Mo_need := ⟨by decide +kernel, gwm (k := 5) (i := 38) rfl rfl, gwm (k := 1) (i := 9) rfl rfl, by decide +kernel, by decide, rfl, fun h => absurd h (by decide), fun _ => ⟨gwm (k := 5) (i := 37) rfl rfl, gwm (k := 0) (i := 64) rfl rfl⟩, fun h => absurd h (by decide)⟩
theorem oh_Mo_take : okH m_Mo_take := ⟨by decide +kernel, gwm (k := 5) (i := 42) rfl rfl, gwm (k := 1) (i := 9) rfl rfl, by decide +kernel, by decide, rfl, fun h => absurd h (by decide), fun _ => ⟨gwm (k := 5) (i := 41) rfl rfl, gwm (k := 0) (i := 65) rfl rfl⟩, fun h => absurd h (by decide)⟩
theorem oh_Mo_pop : okH m_Mo_pop := ⟨by decide +kernel, gwm (k := 5) (i := 46) rfl rfl, gwm (k := 1) (i := 9) rfl rfl, by decide +kernel, by decide, rfl, fun h => absurd h (by decide), fun _ => ⟨gwm (k := 5) (i := 45) rfl rfl, gwm (k := 0) (i := 66) rfl rfl⟩, fun h => absurd h (by decide)⟩
theorem oh_Mo_argumentAt : okH m_Mo_argumentAt := ⟨by decide +kernel, gwm (k := 5) (i := 51) rfl rfl, gwm (k := 1) (i := 9) rfl rfl, by decide +kernel, by decide, rfl, fun h => absurd h (by decide), fun _ => ⟨gwm (k := 5) (i := 50) rfl rfl, gwm (k := 0) (i := 67) rfl rfl⟩, fun h => absurd h (by decide)⟩
theorem oh_Mo_isObject : okH m_Mo_isObject := ⟨by decide +kernel, gwm (k := 5) (i := 55) rfl rfl, gwm (k := 1) (i := 9) rfl rfl, by decide +kernel, by decide, rfl, fun h => absurd h (by decide), fun _ => ⟨gwm (k := 5) (i := 54) rfl rfl, gwm (k := 0) (i := 68) rfl rfl⟩, fun h => absurd h (by decide)⟩
theorem oh_Mo_things : okH m_Mo_things := ⟨by decide +kernel, gwm (k := 5) (i := 59) rfl rfl, gwm (k := 1) (i := 9) rfl rfl, by decide +kernel, by decide, rfl, fun h => absurd h (by decide), fun _ => ⟨gwm (k := 5) (i := 58) rfl rfl, gwm (k := 0) (i := 69) rfl rfl⟩, fun h => absurd h (by decide)⟩
theorem oh_Mo_fieldAt : okH m_Mo_fieldAt := ⟨by decide +kernel, gwm (k := 5) (i := 63) rfl rfl, gwm (k := 1) (i := 9) rfl rfl, by decide +kernel, by decide, rfl, fun h => absurd h (by decide), fun _ => ⟨gwm (k := 5) (i := 62) rfl rfl, gwm (k := 0) (i := 70) rfl rfl⟩, fun h => absurd h (by decide)⟩
theorem oh_Mo_taken : okH m_Mo_taken := ⟨by decide +kernel, gwm (k := 5) (i := 67) rfl rfl, gwm (k := 1) (i := 9) rfl rfl, by decide +kernel, by decide, rfl, fun h => absurd h (by decide), fun _ => ⟨gwm (k := 5) (i := 66) rfl rfl, gwm (k := 0) (i := 71) rfl rfl⟩, fun h => absurd h (by decide)⟩
theorem oh_Mo_calls : okH m_Mo_calls := ⟨by decide +kernel, gwm (k := 5) (i := 71) rfl rfl, gwm (k := 1) (i := 9) rfl rfl, by decide +kernel, by decide, rfl, fun h => absurd h (by decide), fun _ => ⟨gwm (k := 5) (i := 70) rfl rfl, gwm (k := 0) (i := 72) rfl rfl⟩, fun h => absurd h (by decide)⟩
theorem oh_Mo_innermost : okH m_Mo_innermost := ⟨by decide +kernel, gwm (k := 5) (i := 75) rfl rfl, gwm (k := 1) (i := 9) rfl rfl, by decide +kernel, by decide, rfl, fun h => absurd h (by decide), fun _ => ⟨gwm (k := 5) (i := 74) rfl rfl, gwm (k := 0) (i := 73) rfl rfl⟩, fun h => absurd h (by decide)⟩
theorem oh_Mo_inHandler : okH m_Mo_inHandler := ⟨by decide +kernel, gwm (k := 5) (i := 79) rfl rfl, gwm (k := 1) (i := 9) rfl rfl, by decide +kernel, by decide, rfl, fun h => absurd h (by decide), fun _ => ⟨gwm (k := 5) (i := 78) rfl rfl, gwm (k := 0) (i := 74) rfl rfl⟩, fun h => absurd h (by decide)⟩
theorem oh_Mo_target : okH m_Mo_target := ⟨by decide +kernel, gwm (k := 5) (i := 83) rfl rfl, gwm (k := 1) (i := 9) rfl rfl, by decide +kernel, by decide, rfl, fun h => absurd h (by decide), fun _ => ⟨gwm (k := 5) (i := 82) rfl rfl, gwm (k := 0) (i := 75) rfl rfl⟩, fun h => absurd h (by decide)⟩
theorem oh_Mo_signed : okH m_Mo_signed := ⟨by decide +kernel, gwm (k := 5) (i := 86) rfl rfl, gwm (k := 1) (i := 9) rfl rfl, by decide +kernel, by decide, rfl, fun _ => gwm (k := 5) (i := 85) rfl rfl, fun h => absurd h (by decide), fun h => absurd h (by decide)⟩
theorem oh_Mo_leaves : okH m_Mo_leaves := ⟨by decide +kernel, gwm (k := 5) (i := 90) rfl rfl, gwm (k := 1) (i := 9) rfl rfl, by decide +kernel, by decide, rfl, fun h => absurd h (by decide), fun _ => ⟨gwm (k := 5) (i := 89) rfl rfl, gwm (k := 0) (i := 76) rfl rfl⟩, fun h => absurd h (by decide)⟩
theorem oh_Mo_goes : okH m_Mo_goes := ⟨by decide +kernel, gwm (k := 5) (i := 94) rfl rfl, gwm (k := 1) (i := 9) rfl rfl, by decide +kernel, by decide, rfl, fun h => absurd h (by decide), fun _ => ⟨gwm (k := 5) (i := 93) rfl rfl, gwm (k := 0) (i := 77) rfl rfl⟩, fun h => absurd h (by decide)⟩
theorem oh_Mo_verified : okH m_Mo_verified := ⟨by decide +kernel, gwm (k := 5) (i := 98) rfl rfl, gwm (k := 1) (i := 9) rfl rfl, by decide +kernel, by decide, rfl, fun h => absurd h (by decide), fun _ => ⟨gwm (k := 5) (i := 96) rfl rfl, gwm (k := 5) (i := 97) rfl rfl⟩, fun h => absurd h (by decide)⟩
theorem oh_Mo_isGood : okH m_Mo_isGood := ⟨by decide +kernel, gwm (k := 5) (i := 102) rfl rfl, gwm (k := 1) (i := 9) rfl rfl, by decide +kernel, by decide, rfl, fun h => absurd h (by decide), fun _ => ⟨gwm (k := 5) (i := 101) rfl rfl, gwm (k := 0) (i := 78) rfl rfl⟩, fun h => absurd h (by decide)⟩
theorem oh_Mo_depth : okH m_Mo_depth := ⟨by decide +kernel, gwm (k := 5) (i := 106) rfl rfl, gwm (k := 1) (i := 9) rfl rfl, by decide +kernel, by decide, rfl, fun h => absurd h (by decide), fun _ => ⟨gwm (k := 5) (i := 104) rfl rfl, gwm (k := 5) (i := 105) rfl rfl⟩, fun h => absurd h (by decide)⟩
theorem oh_Mo_type : okH m_Mo_type := ⟨by decide +kernel, gwm (k := 5) (i := 110) rfl rfl, gwm (k := 1) (i := 9) rfl rfl, by decide +kernel, by decide, rfl, fun h => absurd h (by decide), fun _ => ⟨gwm (k := 5) (i := 108) rfl rfl, gwm (k := 5) (i := 109) rfl rfl⟩, fun h => absurd h (by decide)⟩
theorem oh_Mo_start : okH m_Mo_start := ⟨by decide +kernel, gwm (k := 5) (i := 115) rfl rfl, gwm (k := 1) (i := 9) rfl rfl, by decide +kernel, by decide, rfl, fun h => absurd h (by decide), fun _ => ⟨gwm (k := 5) (i := 113) rfl rfl, gwm (k := 5) (i := 114) rfl rfl⟩, fun h => absurd h (by decide)⟩
theorem oh_Mo_allGood : okH m_Mo_allGood := ⟨by decide +kernel, gwm (k := 5) (i := 119) rfl rfl, gwm (k := 1) (i := 9) rfl rfl, by decide +kernel, by decide, rfl, fun h => absurd h (by decide), fun _ => ⟨gwm (k := 5) (i := 118) rfl rfl, gwm (k := 0) (i := 79) rfl rfl⟩, fun h => absurd h (by decide)⟩
theorem oh_Mo_direct : okH m_Mo_direct := ⟨by decide +kernel, gwm (k := 5) (i := 123) rfl rfl, gwm (k := 1) (i := 9) rfl rfl, by decide +kernel, by decide, rfl, fun h => absurd h (by decide), fun _ => ⟨gwm (k := 5) (i := 122) rfl rfl, gwm (k := 0) (i := 80) rfl rfl⟩, fun h => absurd h (by decide)⟩
theorem oh_Mo_enter : okH m_Mo_enter := ⟨by decide +kernel, gwm (k := 5) (i := 127) rfl rfl, gwm (k := 1) (i := 9) rfl rfl, by decide +kernel, by decide, rfl, fun h => absurd h (by decide), fun _ => ⟨gwm (k := 5) (i := 126) rfl rfl, gwm (k := 0) (i := 81) rfl rfl⟩, fun h => absurd h (by decide)⟩
theorem oh_Mo_isReference : okH m_Mo_isReference := ⟨by decide +kernel, gwm (k := 5) (i := 130) rfl rfl, gwm (k := 1) (i := 9) rfl rfl, by decide +kernel, by decide, rfl, fun _ => gwm (k := 5) (i := 129) rfl rfl, fun h => absurd h (by decide), fun h => absurd h (by decide)⟩
theorem oh_Mo_step : okH m_Mo_step := ⟨by decide +kernel, gwm (k := 5) (i := 134) rfl rfl, gwm (k := 1) (i := 9) rfl rfl, by decide +kernel, by decide, rfl, fun h => absurd h (by decide), fun _ => ⟨gwm (k := 5) (i := 132) rfl rfl, gwm (k := 5) (i := 133) rfl rfl⟩, fun h => absurd h (by decide)⟩
theorem oh_Mo_perform : okH m_Mo_perform := ⟨by decide +kernel, gwm (k := 5) (i := 138) rfl rfl, gwm (k := 1) (i := 9) rfl rfl, by decide +kernel, by decide, rfl, fun h => absurd h (by decide), fun _ => ⟨gwm (k := 5) (i := 137) rfl rfl, gwm (k := 0) (i := 82) rfl rfl⟩, fun h => absurd h (by decide)⟩
theorem oh_Mo_plain : okH m_Mo_plain := ⟨by decide +kernel, gwm (k := 5) (i := 142) rfl rfl, gwm (k := 1) (i := 9) rfl rfl, by decide +kernel, by decide, rfl, fun h => absurd h (by decide), fun _ => ⟨gwm (k := 5) (i := 141) rfl rfl, gwm (k := 0) (i := 83) rfl rfl⟩, fun h => absurd h (by decide)⟩
theorem oh_Mo_put : okH m_Mo_put := ⟨by decide +kernel, gwm (k := 5) (i := 146) rfl rfl, gwm (k := 1) (i := 9) rfl rfl, by decide +kernel, by decide, rfl, fun h => absurd h (by decide), fun _ => ⟨gwm (k := 5) (i := 145) rfl rfl, gwm (k := 0) (i := 84) rfl rfl⟩, fun h => absurd h (by decide)⟩
theorem oh_Mo_putCell : okH m_Mo_putCell := ⟨by decide +kernel, gwm (k := 5) (i := 150) rfl rfl, gwm (k := 1) (i := 9) rfl rfl, by decide +kernel, by decide, rfl, fun h => absurd h (by decide), fun _ => ⟨gwm (k := 5) (i := 149) rfl rfl, gwm (k := 0) (i := 85) rfl rfl⟩, fun h => absurd h (by decide)⟩
theorem oh_Mo_get : okH m_Mo_get := ⟨by decide +kernel, gwm (k := 5) (i := 154) rfl rfl, gwm (k := 1) (i := 9) rfl rfl, by decide +kernel, by decide, rfl, fun h => absurd h (by decide), fun _ => ⟨gwm (k := 5) (i := 153) rfl rfl, gwm (k := 0) (i := 86) rfl rfl⟩, fun h => absurd h (by decide)⟩
theorem oh_Mo_setCell : okH m_Mo_setCell := ⟨by decide +kernel, gwm (k := 5) (i := 158) rfl rfl, gwm (k := 1) (i := 9) rfl rfl, by decide +kernel, by decide, rfl, fun h => absurd h (by decide), fun _ => ⟨gwm (k := 5) (i := 157) rfl rfl, gwm (k := 0) (i := 87) rfl rfl⟩, fun h => absurd h (by decide)⟩
theorem oh_Mo_reckon : okH m_Mo_reckon := ⟨by decide +kernel, gwm (k := 5) (i := 162) rfl rfl, gwm (k := 1) (i := 9) rfl rfl, by decide +kernel, by decide, rfl, fun h => absurd h (by decide), fun _ => ⟨gwm (k := 5) (i := 161) rfl rfl, gwm (k := 0) (i := 88) rfl rfl⟩, fun h => absurd h (by decide)⟩
theorem oh_Mo_work : okH m_Mo_work := ⟨by decide +kernel, gwm (k := 5) (i := 166) rfl rfl, gwm (k := 1) (i := 9) rfl rfl, by decide +kernel, by decide, rfl, fun h => absurd h (by decide), fun _ => ⟨gwm (k := 5) (i := 165) rfl rfl, gwm (k := 0) (i := 89) rfl rfl⟩, fun h => absurd h (by decide)⟩
theorem oh_Mo_create : okH m_Mo_create := ⟨by decide +kernel, gwm (k := 5) (i := 170) rfl rfl, gwm (k := 1) (i := 9) rfl rfl, by decide +kernel, by decide, rfl, fun h => absurd h (by decide), fun _ => ⟨gwm (k := 5) (i := 169) rfl rfl, gwm (k := 0) (i := 90) rfl rfl⟩, fun h => absurd h (by decide)⟩
theorem oh_Mo_make : okH m_Mo_make := ⟨by decide +kernel, gwm (k := 5) (i := 174) rfl rfl, gwm (k := 1) (i := 9) rfl rfl, by decide +kernel, by decide, rfl, fun h => absurd h (by decide), fun _ => ⟨gwm (k := 5) (i := 173) rfl rfl, gwm (k := 0) (i := 91) rfl rfl⟩, fun h => absurd h (by decide)⟩
theorem oh_Mo_cellOf : okH m_Mo_cellOf := ⟨by decide +kernel, gwm (k := 5) (i := 178) rfl rfl, gwm (k := 1) (i := 9) rfl rfl, by decide +kernel, by decide, rfl, fun h => absurd h (by decide), fun _ => ⟨gwm (k := 5) (i := 177) rfl rfl, gwm (k := 0) (i := 92) rfl rfl⟩, fun h => absurd h (by decide)⟩
theorem oh_Mo_putPlace : okH m_Mo_putPlace := ⟨by decide +kernel, gwm (k := 5) (i := 182) rfl rfl, gwm (k := 1) (i := 9) rfl rfl, by decide +kernel, by decide, rfl, fun h => absurd h (by decide), fun _ => ⟨gwm (k := 5) (i := 181) rfl rfl, gwm (k := 0) (i := 93) rfl rfl⟩, fun h => absurd h (by decide)⟩
theorem oh_Mo_control : okH m_Mo_control := ⟨by decide +kernel, gwm (k := 5) (i := 186) rfl rfl, gwm (k := 1) (i := 9) rfl rfl, by decide +kernel, by decide, rfl, fun h => absurd h (by decide), fun _ => ⟨gwm (k := 5) (i := 185) rfl rfl, gwm (k := 0) (i := 94) rfl rfl⟩, fun h => absurd h (by decide)⟩
theorem oh_Mo_call : okH m_Mo_call := ⟨by decide +kernel, gwm (k := 5) (i := 190) rfl rfl, gwm (k := 1) (i := 9) rfl rfl, by decide +kernel, by decide, rfl, fun h => absurd h (by decide), fun _ => ⟨gwm (k := 5) (i := 189) rfl rfl, gwm (k := 0) (i := 95) rfl rfl⟩, fun h => absurd h (by decide)⟩
theorem oh_Mo_finish : okH m_Mo_finish := ⟨by decide +kernel, gwm (k := 5) (i := 194) rfl rfl, gwm (k := 1) (i := 9) rfl rfl, by decide +kernel, by decide, rfl, fun h => absurd h (by decide), fun _ => ⟨gwm (k := 5) (i := 193) rfl rfl, gwm (k := 0) (i := 96) rfl rfl⟩, fun h => absurd h (by decide)⟩
theorem oh_Mo_raise : okH m_Mo_raise := ⟨by decide +kernel, gwm (k := 5) (i := 198) rfl rfl, gwm (k := 1) (i := 9) rfl rfl, by decide +kernel, by decide, rfl, fun h => absurd h (by decide), fun _ => ⟨gwm (k := 5) (i := 197) rfl rfl, gwm (k := 0) (i := 97) rfl rfl⟩, fun h => absurd h (by decide)⟩
theorem oh_Mo_raiseBehind : okH m_Mo_raiseBehind := ⟨by decide +kernel, gwm (k := 5) (i := 202) rfl rfl, gwm (k := 1) (i := 9) rfl rfl, by decide +kernel, by decide, rfl, fun h => absurd h (by decide), fun _ => ⟨gwm (k := 5) (i := 201) rfl rfl, gwm (k := 0) (i := 98) rfl rfl⟩, fun h => absurd h (by decide)⟩
theorem oh_Mo_handle : okH m_Mo_handle := ⟨by decide +kernel, gwm (k := 5) (i := 206) rfl rfl, gwm (k := 1) (i := 9) rfl rfl, by decide +kernel, by decide, rfl, fun h => absurd h (by decide), fun _ => ⟨gwm (k := 5) (i := 205) rfl rfl, gwm (k := 0) (i := 99) rfl rfl⟩, fun h => absurd h (by decide)⟩
theorem oh_Mo_drop : okH m_Mo_drop := ⟨by decide +kernel, gwm (k := 5) (i := 210) rfl rfl, gwm (k := 1) (i := 9) rfl rfl, by decide +kernel, by decide, rfl, fun h => absurd h (by decide), fun _ => ⟨gwm (k := 5) (i := 209) rfl rfl, gwm (k := 0) (i := 100) rfl rfl⟩, fun h => absurd h (by decide)⟩
theorem oh_Mo_leave : okH m_Mo_leave := ⟨by decide +kernel, gwm (k := 5) (i := 214) rfl rfl, gwm (k := 1) (i := 9) rfl rfl, by decide +kernel, by decide, rfl, fun h => absurd h (by decide), fun _ => ⟨gwm (k := 5) (i := 213) rfl rfl, gwm (k := 0) (i := 101) rfl rfl⟩, fun h => absurd h (by decide)⟩
theorem oh_Mo_leaveBehind : okH m_Mo_leaveBehind := ⟨by decide +kernel, gwm (k := 5) (i := 218) rfl rfl, gwm (k := 1) (i := 9) rfl rfl, by decide +kernel, by decide, rfl, fun h => absurd h (by decide), fun _ => ⟨gwm (k := 5) (i := 217) rfl rfl, gwm (k := 0) (i := 102) rfl rfl⟩, fun h => absurd h (by decide)⟩
theorem oh_Mo_goOn : okH m_Mo_goOn := ⟨by decide +kernel, gwm (k := 5) (i := 222) rfl rfl, gwm (k := 1) (i := 9) rfl rfl, by decide +kernel, by decide, rfl, fun h => absurd h (by decide), fun _ => ⟨gwm (k := 5) (i := 221) rfl rfl, gwm (k := 0) (i := 103) rfl rfl⟩, fun h => absurd h (by decide)⟩
theorem oh_Mo_state : okH m_Mo_state := ⟨by decide +kernel, gwm (k := 5) (i := 226) rfl rfl, gwm (k := 1) (i := 9) rfl rfl, by decide +kernel, by decide, rfl, fun h => absurd h (by decide), fun _ => ⟨gwm (k := 5) (i := 224) rfl rfl, gwm (k := 5) (i := 225) rfl rfl⟩, fun h => absurd h (by decide)⟩
theorem oh_Mo_result : okH m_Mo_result := ⟨by decide +kernel, gwm (k := 5) (i := 230) rfl rfl, gwm (k := 1) (i := 9) rfl rfl, by decide +kernel, by decide, rfl, fun h => absurd h (by decide), fun _ => ⟨gwm (k := 5) (i := 228) rfl rfl, gwm (k := 5) (i := 229) rfl rfl⟩, fun h => absurd h (by decide)⟩
theorem oh_Mo_look : okH m_Mo_look := ⟨by decide +kernel, gwm (k := 5) (i := 234) rfl rfl, gwm (k := 1) (i := 9) rfl rfl, by decide +kernel, by decide, rfl, fun h => absurd h (by decide), fun _ => ⟨gwm (k := 5) (i := 232) rfl rfl, gwm (k := 5) (i := 233) rfl rfl⟩, fun h => absurd h (by decide)⟩
theorem oh_Mo_peek : okH m_Mo_peek := ⟨by decide +kernel, gwm (k := 5) (i := 238) rfl rfl, gwm (k := 1) (i := 9) rfl rfl, by decide +kernel, by decide, rfl, fun h => absurd h (by decide), fun _ => ⟨gwm (k := 5) (i := 236) rfl rfl, gwm (k := 5) (i := 237) rfl rfl⟩, fun h => absurd h (by decide)⟩
theorem oh_Mo_entered : okH m_Mo_entered := ⟨by decide +kernel, gwm (k := 6) (i := 3) rfl rfl, gwm (k := 1) (i := 9) rfl rfl, by decide +kernel, by decide, rfl, fun h => absurd h (by decide), fun _ => ⟨gwm (k := 6) (i := 1) rfl rfl, gwm (k := 6) (i := 2) rfl rfl⟩, fun h => absurd h (by decide)⟩
theorem oh_Op_isKnown : okH m_Op_isKnown := ⟨by decide +kernel, gwm (k := 2) (i := 136) rfl rfl, gwm (k := 1) (i := 11) rfl rfl, by decide +kernel, by decide, rfl, fun _ => gwm (k := 2) (i := 135) rfl rfl, fun h => absurd h (by decide), fun h => absurd h (by decide)⟩
theorem oh_Op_width : okH m_Op_width := ⟨by decide +kernel, gwm (k := 2) (i := 139) rfl rfl, gwm (k := 1) (i := 11) rfl rfl, by decide +kernel, by decide, rfl, fun _ => gwm (k := 2) (i := 138) rfl rfl, fun h => absurd h (by decide), fun h => absurd h (by decide)⟩
theorem oh_Op_signed : okH m_Op_signed := ⟨by decide +kernel, gwm (k := 3) (i := 25) rfl rfl, gwm (k := 1) (i := 11) rfl rfl, by decide +kernel, by decide, rfl, fun _ => gwm (k := 3) (i := 24) rfl rfl, fun h => absurd h (by decide), fun h => absurd h (by decide)⟩
theorem oh_Op_jumps : okH m_Op_jumps := ⟨by decide +kernel, gwm (k := 3) (i := 32) rfl rfl, gwm (k := 1) (i := 11) rfl rfl, by decide +kernel, by decide, rfl, fun _ => gwm (k := 3) (i := 31) rfl rfl, fun h => absurd h (by decide), fun h => absurd h (by decide)⟩
theorem oh_Op_goesBehind : okH m_Op_goesBehind := ⟨by decide +kernel, gwm (k := 3) (i := 39) rfl rfl, gwm (k := 1) (i := 11) rfl rfl, by decide +kernel, by decide, rfl, fun _ => gwm (k := 3) (i := 38) rfl rfl, fun h => absurd h (by decide), fun h => absurd h (by decide)⟩
theorem oh_Rd_init : okH m_Rd_init := ⟨by decide +kernel, gwm (k := 1) (i := 153) rfl rfl, gwm (k := 1) (i := 5) rfl rfl, by decide +kernel, by decide, rfl, fun h => absurd h (by decide), fun h => absurd h (by decide), fun _ => ⟨gwm (k := 1) (i := 152) rfl rfl, rfl, rfl⟩⟩
theorem oh_Rd_readInto : okH m_Rd_readInto := ⟨by decide +kernel, gwm (k := 2) (i := 90) rfl rfl, gwm (k := 1) (i := 5) rfl rfl, by decide +kernel, by decide, rfl, fun h => absurd h (by decide), fun _ => ⟨gwm (k := 2) (i := 88) rfl rfl, gwm (k := 2) (i := 89) rfl rfl⟩, fun h => absurd h (by decide)⟩
theorem oh_Rd_number : okH m_Rd_number := ⟨by decide +kernel, gwm (k := 2) (i := 97) rfl rfl, gwm (k := 1) (i := 5) rfl rfl, by decide +kernel, by decide, rfl, fun h => absurd h (by decide), fun _ => ⟨gwm (k := 2) (i := 96) rfl rfl, gwm (k := 0) (i := 0) rfl rfl⟩, fun h => absurd h (by decide)⟩
theorem oh_Rd_readClasses : okH m_Rd_readClasses := ⟨by decide +kernel, gwm (k := 2) (i := 101) rfl rfl, gwm (k := 1) (i := 5) rfl rfl, by decide +kernel, by decide, rfl, fun h => absurd h (by decide), fun _ => ⟨gwm (k := 2) (i := 100) rfl rfl, gwm (k := 0) (i := 1) rfl rfl⟩, fun h => absurd h (by decide)⟩
theorem oh_Rd_keptType : okH m_Rd_keptType := ⟨by decide +kernel, gwm (k := 2) (i := 105) rfl rfl, gwm (k := 1) (i := 5) rfl rfl, by decide +kernel, by decide, rfl, fun h => absurd h (by decide), fun _ => ⟨gwm (k := 2) (i := 104) rfl rfl, gwm (k := 0) (i := 2) rfl rfl⟩, fun h => absurd h (by decide)⟩
theorem oh_Rd_readMethod : okH m_Rd_readMethod := ⟨by decide +kernel, gwm (k := 2) (i := 117) rfl rfl, gwm (k := 1) (i := 5) rfl rfl, by decide +kernel, by decide, rfl, fun h => absurd h (by decide), fun _ => ⟨gwm (k := 2) (i := 116) rfl rfl, gwm (k := 0) (i := 3) rfl rfl⟩, fun h => absurd h (by decide)⟩
theorem oh_Rd_nextIs : okH m_Rd_nextIs := ⟨by decide +kernel, gwm (k := 2) (i := 121) rfl rfl, gwm (k := 1) (i := 5) rfl rfl, by decide +kernel, by decide, rfl, fun h => absurd h (by decide), fun _ => ⟨gwm (k := 2) (i := 120) rfl rfl, gwm (k := 0) (i := 4) rfl rfl⟩, fun h => absurd h (by decide)⟩
theorem oh_Rd_readRegion : okH m_Rd_readRegion := ⟨by decide +kernel, gwm (k := 2) (i := 125) rfl rfl, gwm (k := 1) (i := 5) rfl rfl, by decide +kernel, by decide, rfl, fun h => absurd h (by decide), fun _ => ⟨gwm (k := 2) (i := 124) rfl rfl, gwm (k := 0) (i := 5) rfl rfl⟩, fun h => absurd h (by decide)⟩
theorem oh_Rg_init : okH m_Rg_init := ⟨by decide +kernel, gwm (k := 1) (i := 39) rfl rfl, gwm (k := 1) (i := 4) rfl rfl, by decide +kernel, by decide, rfl, fun h => absurd h (by decide), fun h => absurd h (by decide), fun _ => ⟨gwm (k := 1) (i := 38) rfl rfl, rfl, rfl⟩⟩
theorem oh_Rg_isApartFromOrWithin : okH m_Rg_isApartFromOrWithin := ⟨by decide +kernel, gwm (k := 2) (i := 155) rfl rfl, gwm (k := 1) (i := 4) rfl rfl, by decide +kernel, by decide, rfl, fun h => absurd h (by decide), fun _ => ⟨gwm (k := 2) (i := 153) rfl rfl, gwm (k := 2) (i := 154) rfl rfl⟩, fun h => absurd h (by decide)⟩
theorem oh_Rg_keeps : okH m_Rg_keeps := ⟨by decide +kernel, gwm (k := 3) (i := 1) rfl rfl, gwm (k := 1) (i := 4) rfl rfl, by decide +kernel, by decide, rfl, fun h => absurd h (by decide), fun _ => ⟨gwm (k := 2) (i := 239) rfl rfl, gwm (k := 3) (i := 0) rfl rfl⟩, fun h => absurd h (by decide)⟩
theorem oh_Rg_handles : okH m_Rg_handles := ⟨by decide +kernel, gwm (k := 3) (i := 9) rfl rfl, gwm (k := 1) (i := 4) rfl rfl, by decide +kernel, by decide, rfl, fun h => absurd h (by decide), fun _ => ⟨gwm (k := 3) (i := 7) rfl rfl, gwm (k := 3) (i := 8) rfl rfl⟩, fun h => absurd h (by decide)⟩
theorem oh_Ru_init : okH m_Ru_init := ⟨by decide +kernel, gwm (k := 1) (i := 195) rfl rfl, gwm (k := 1) (i := 7) rfl rfl, by decide +kernel, by decide, rfl, fun h => absurd h (by decide), fun h => absurd h (by decide), fun _ => ⟨gwm (k := 1) (i := 194) rfl rfl, rfl, rfl⟩⟩
theorem oh_Ru_drop : okH m_Ru_drop := ⟨by decide +kernel, gwm (k := 3) (i := 43) rfl rfl, gwm (k := 1) (i := 7) rfl rfl, by decide +kernel, by decide, rfl, fun h => absurd h (by decide), fun _ => ⟨gwm (k := 3) (i := 41) rfl rfl, gwm (k := 3) (i := 42) rfl rfl⟩, fun h => absurd h (by decide)⟩
theorem oh_Ru_begin : okH m_Ru_begin := ⟨by decide +kernel, gwm (k := 3) (i := 79) rfl rfl, gwm (k := 1) (i := 7) rfl rfl, by decide +kernel, by decide, rfl, fun h => absurd h (by decide), fun _ => ⟨gwm (k := 3) (i := 77) rfl rfl, gwm (k := 3) (i := 78) rfl rfl⟩, fun h => absurd h (by decide)⟩
theorem oh_Ru_activate : okH m_Ru_activate := ⟨by decide +kernel, gwm (k := 3) (i := 83) rfl rfl, gwm (k := 1) (i := 7) rfl rfl, by decide +kernel, by decide, rfl, fun h => absurd h (by decide), fun _ => ⟨gwm (k := 3) (i := 82) rfl rfl, gwm (k := 0) (i := 21) rfl rfl⟩, fun h => absurd h (by decide)⟩
theorem oh_Ru_latest : okH m_Ru_latest := ⟨by decide +kernel, gwm (k := 3) (i := 87) rfl rfl, gwm (k := 1) (i := 7) rfl rfl, by decide +kernel, by decide, rfl, fun h => absurd h (by decide), fun _ => ⟨gwm (k := 3) (i := 85) rfl rfl, gwm (k := 3) (i := 86) rfl rfl⟩, fun h => absurd h (by decide)⟩
theorem oh_Ru_setCell : okH m_Ru_setCell := ⟨by decide +kernel, gwm (k := 3) (i := 96) rfl rfl, gwm (k := 1) (i := 7) rfl rfl, by decide +kernel, by decide, rfl, fun h => absurd h (by decide), fun _ => ⟨gwm (k := 3) (i := 95) rfl rfl, gwm (k := 0) (i := 22) rfl rfl⟩, fun h => absurd h (by decide)⟩
theorem oh_Ru_doInstruction : okH m_Ru_doInstruction := ⟨by decide +kernel, gwm (k := 3) (i := 108) rfl rfl, gwm (k := 1) (i := 7) rfl rfl, by decide +kernel, by decide, rfl, fun h => absurd h (by decide), fun _ => ⟨gwm (k := 3) (i := 106) rfl rfl, gwm (k := 3) (i := 107) rfl rfl⟩, fun h => absurd h (by decide)⟩
theorem oh_Ru_doSimple : okH m_Ru_doSimple := ⟨by decide +kernel, gwm (k := 3) (i := 113) rfl rfl, gwm (k := 1) (i := 7) rfl rfl, by decide +kernel, by decide, rfl, fun h => absurd h (by decide), fun _ => ⟨gwm (k := 3) (i := 112) rfl rfl, gwm (k := 0) (i := 23) rfl rfl⟩, fun h => absurd h (by decide)⟩
theorem oh_Ru_cell : okH m_Ru_cell := ⟨by decide +kernel, gwm (k := 3) (i := 122) rfl rfl, gwm (k := 1) (i := 7) rfl rfl, by decide +kernel, by decide, rfl, fun h => absurd h (by decide), fun _ => ⟨gwm (k := 3) (i := 121) rfl rfl, gwm (k := 0) (i := 24) rfl rfl⟩, fun h => absurd h (by decide)⟩
theorem oh_Ru_compute : okH m_Ru_compute := ⟨by decide +kernel, gwm (k := 3) (i := 134) rfl rfl, gwm (k := 1) (i := 7) rfl rfl, by decide +kernel, by decide, rfl, fun h => absurd h (by decide), fun _ => ⟨gwm (k := 3) (i := 133) rfl rfl, gwm (k := 0) (i := 25) rfl rfl⟩, fun h => absurd h (by decide)⟩
theorem oh_Ru_raise : okH m_Ru_raise := ⟨by decide +kernel, gwm (k := 3) (i := 143) rfl rfl, gwm (k := 1) (i := 7) rfl rfl, by decide +kernel, by decide, rfl, fun h => absurd h (by decide), fun _ => ⟨gwm (k := 3) (i := 142) rfl rfl, gwm (k := 0) (i := 26) rfl rfl⟩, fun h => absurd h (by decide)⟩
theorem oh_Ru_raiseFrom : okH m_Ru_raiseFrom := ⟨by decide +kernel, gwm (k := 3) (i := 147) rfl rfl, gwm (k := 1) (i := 7) rfl rfl, by decide +kernel, by decide, rfl, fun h => absurd h (by decide), fun _ => ⟨gwm (k := 3) (i := 146) rfl rfl, gwm (k := 0) (i := 27) rfl rfl⟩, fun h => absurd h (by decide)⟩
theorem oh_Ru_jump : okH m_Ru_jump := ⟨by decide +kernel, gwm (k := 3) (i := 154) rfl rfl, gwm (k := 1) (i := 7) rfl rfl, by decide +kernel, by decide, rfl, fun _ => gwm (k := 3) (i := 153) rfl rfl, fun h => absurd h (by decide), fun h => absurd h (by decide)⟩
theorem oh_Ru_jumpIfLess : okH m_Ru_jumpIfLess := ⟨by decide +kernel, gwm (k := 3) (i := 157) rfl rfl, gwm (k := 1) (i := 7) rfl rfl, by decide +kernel, by decide, rfl, fun _ => gwm (k := 3) (i := 156) rfl rfl, fun h => absurd h (by decide), fun h => absurd h (by decide)⟩
theorem oh_Ru_doThing : okH m_Ru_doThing := ⟨by decide +kernel, gwm (k := 3) (i := 161) rfl rfl, gwm (k := 1) (i := 7) rfl rfl, by decide +kernel, by decide, rfl, fun h => absurd h (by decide), fun _ => ⟨gwm (k := 3) (i := 160) rfl rfl, gwm (k := 0) (i := 28) rfl rfl⟩, fun h => absurd h (by decide)⟩
theorem oh_Ru_make : okH m_Ru_make := ⟨by decide +kernel, gwm (k := 3) (i := 165) rfl rfl, gwm (k := 1) (i := 7) rfl rfl, by decide +kernel, by decide, rfl, fun h => absurd h (by decide), fun _ => ⟨gwm (k := 3) (i := 164) rfl rfl, gwm (k := 0) (i := 29) rfl rfl⟩, fun h => absurd h (by decide)⟩
theorem oh_Ru_addressIn : okH m_Ru_addressIn := ⟨by decide +kernel, gwm (k := 3) (i := 168) rfl rfl, gwm (k := 1) (i := 7) rfl rfl, by decide +kernel, by decide, rfl, fun _ => gwm (k := 3) (i := 167) rfl rfl, fun h => absurd h (by decide), fun h => absurd h (by decide)⟩
theorem oh_Ru_doField : okH m_Ru_doField := ⟨by decide +kernel, gwm (k := 3) (i := 172) rfl rfl, gwm (k := 1) (i := 7) rfl rfl, by decide +kernel, by decide, rfl, fun h => absurd h (by decide), fun _ => ⟨gwm (k := 3) (i := 171) rfl rfl, gwm (k := 0) (i := 30) rfl rfl⟩, fun h => absurd h (by decide)⟩
theorem oh_Ru_makeArray : okH m_Ru_makeArray := ⟨by decide +kernel, gwm (k := 3) (i := 176) rfl rfl, gwm (k := 1) (i := 7) rfl rfl, by decide +kernel, by decide, rfl, fun h => absurd h (by decide), fun _ => ⟨gwm (k := 3) (i := 175) rfl rfl, gwm (k := 0) (i := 31) rfl rfl⟩, fun h => absurd h (by decide)⟩
theorem oh_Ru_pushSize : okH m_Ru_pushSize := ⟨by decide +kernel, gwm (k := 3) (i := 180) rfl rfl, gwm (k := 1) (i := 7) rfl rfl, by decide +kernel, by decide, rfl, fun h => absurd h (by decide), fun _ => ⟨gwm (k := 3) (i := 179) rfl rfl, gwm (k := 0) (i := 32) rfl rfl⟩, fun h => absurd h (by decide)⟩
theorem oh_Ru_itemCount : okH m_Ru_itemCount := ⟨by decide +kernel, gwm (k := 3) (i := 184) rfl rfl, gwm (k := 1) (i := 7) rfl rfl, by decide +kernel, by decide, rfl, fun h => absurd h (by decide), fun _ => ⟨gwm (k := 3) (i := 183) rfl rfl, gwm (k := 0) (i := 33) rfl rfl⟩, fun h => absurd h (by decide)⟩
theorem oh_Ru_doItem : okH m_Ru_doItem := ⟨by decide +kernel, gwm (k := 3) (i := 188) rfl rfl, gwm (k := 1) (i := 7) rfl rfl, by decide +kernel, by decide, rfl, fun h => absurd h (by decide), fun _ => ⟨gwm (k := 3) (i := 187) rfl rfl, gwm (k := 0) (i := 34) rfl rfl⟩, fun h => absurd h (by decide)⟩
theorem oh_Ru_doValue : okH m_Ru_doValue := ⟨by decide +kernel, gwm (k := 3) (i := 192) rfl rfl, gwm (k := 1) (i := 7) rfl rfl, by decide +kernel, by decide, rfl, fun h => absurd h (by decide), fun _ => ⟨gwm (k := 3) (i := 191) rfl rfl, gwm (k := 0) (i := 35) rfl rfl⟩, fun h => absurd h (by decide)⟩
theorem oh_Ru_firstOf : okH m_Ru_firstOf := ⟨by decide +kernel, gwm (k := 3) (i := 196) rfl rfl, gwm (k := 1) (i := 7) rfl rfl, by decide +kernel, by decide, rfl, fun _ => gwm (k := 3) (i := 195) rfl rfl, fun h => absurd h (by decide), fun h => absurd h (by decide)⟩
theorem oh_Ru_makeBox : okH m_Ru_makeBox := ⟨by decide +kernel, gwm (k := 3) (i := 200) rfl rfl, gwm (k := 1) (i := 7) rfl rfl, by decide +kernel, by decide, rfl, fun h => absurd h (by decide), fun _ => ⟨gwm (k := 3) (i := 199) rfl rfl, gwm (k := 0) (i := 36) rfl rfl⟩, fun h => absurd h (by decide)⟩
theorem oh_Ru_openBox : okH m_Ru_openBox := ⟨by decide +kernel, gwm (k := 3) (i := 204) rfl rfl, gwm (k := 1) (i := 7) rfl rfl, by decide +kernel, by decide, rfl, fun h => absurd h (by decide), fun _ => ⟨gwm (k := 3) (i := 203) rfl rfl, gwm (k := 0) (i := 37) rfl rfl⟩, fun h => absurd h (by decide)⟩
theorem oh_Ru_doFlow : okH m_Ru_doFlow := ⟨by decide +kernel, gwm (k := 3) (i := 208) rfl rfl, gwm (k := 1) (i := 7) rfl rfl, by decide +kernel, by decide, rfl, fun h => absurd h (by decide), fun _ => ⟨gwm (k := 3) (i := 207) rfl rfl, gwm (k := 0) (i := 38) rfl rfl⟩, fun h => absurd h (by decide)⟩
theorem oh_Ru_call : okH m_Ru_call := ⟨by decide +kernel, gwm (k := 3) (i := 212) rfl rfl, gwm (k := 1) (i := 7) rfl rfl, by decide +kernel, by decide, rfl, fun h => absurd h (by decide), fun _ => ⟨gwm (k := 3) (i := 211) rfl rfl, gwm (k := 0) (i := 39) rfl rfl⟩, fun h => absurd h (by decide)⟩
theorem oh_Ru_giveBack : okH m_Ru_giveBack := ⟨by decide +kernel, gwm (k := 3) (i := 216) rfl rfl, gwm (k := 1) (i := 7) rfl rfl, by decide +kernel, by decide, rfl, fun h => absurd h (by decide), fun _ => ⟨gwm (k := 3) (i := 215) rfl rfl, gwm (k := 0) (i := 40) rfl rfl⟩, fun h => absurd h (by decide)⟩
theorem oh_Ru_numberOf : okH m_Ru_numberOf := ⟨by decide +kernel, gwm (k := 3) (i := 219) rfl rfl, gwm (k := 1) (i := 7) rfl rfl, by decide +kernel, by decide, rfl, fun _ => gwm (k := 3) (i := 218) rfl rfl, fun h => absurd h (by decide), fun h => absurd h (by decide)⟩
theorem oh_Ru_end : okH m_Ru_end := ⟨by decide +kernel, gwm (k := 3) (i := 223) rfl rfl, gwm (k := 1) (i := 7) rfl rfl, by decide +kernel, by decide, rfl, fun h => absurd h (by decide), fun _ => ⟨gwm (k := 3) (i := 222) rfl rfl, gwm (k := 0) (i := 41) rfl rfl⟩, fun h => absurd h (by decide)⟩
theorem oh_Ru_leave : okH m_Ru_leave := ⟨by decide +kernel, gwm (k := 3) (i := 228) rfl rfl, gwm (k := 1) (i := 7) rfl rfl, by decide +kernel, by decide, rfl, fun h => absurd h (by decide), fun _ => ⟨gwm (k := 3) (i := 227) rfl rfl, gwm (k := 0) (i := 42) rfl rfl⟩, fun h => absurd h (by decide)⟩
theorem oh_Ru_enter : okH m_Ru_enter := ⟨by decide +kernel, gwm (k := 3) (i := 233) rfl rfl, gwm (k := 1) (i := 7) rfl rfl, by decide +kernel, by decide, rfl, fun h => absurd h (by decide), fun _ => ⟨gwm (k := 3) (i := 232) rfl rfl, gwm (k := 0) (i := 43) rfl rfl⟩, fun h => absurd h (by decide)⟩
theorem oh_Ru_finish : okH m_Ru_finish := ⟨by decide +kernel, gwm (k := 4) (i := 1) rfl rfl, gwm (k := 1) (i := 7) rfl rfl, by decide +kernel, by decide, rfl, fun h => absurd h (by decide), fun _ => ⟨gwm (k := 4) (i := 0) rfl rfl, gwm (k := 0) (i := 44) rfl rfl⟩, fun h => absurd h (by decide)⟩
theorem oh_Ru_throwOn : okH m_Ru_throwOn := ⟨by decide +kernel, gwm (k := 4) (i := 6) rfl rfl, gwm (k := 1) (i := 7) rfl rfl, by decide +kernel, by decide, rfl, fun h => absurd h (by decide), fun _ => ⟨gwm (k := 4) (i := 5) rfl rfl, gwm (k := 0) (i := 45) rfl rfl⟩, fun h => absurd h (by decide)⟩
theorem oh_Ru_handle : okH m_Ru_handle := ⟨by decide +kernel, gwm (k := 4) (i := 10) rfl rfl, gwm (k := 1) (i := 7) rfl rfl, by decide +kernel, by decide, rfl, fun h => absurd h (by decide), fun _ => ⟨gwm (k := 4) (i := 9) rfl rfl, gwm (k := 0) (i := 46) rfl rfl⟩, fun h => absurd h (by decide)⟩
theorem oh_Ru_entriesOf : okH m_Ru_entriesOf := ⟨by decide +kernel, gwm (k := 4) (i := 42) rfl rfl, gwm (k := 1) (i := 7) rfl rfl, by decide +kernel, by decide, rfl, fun h => absurd h (by decide), fun _ => ⟨gwm (k := 4) (i := 40) rfl rfl, gwm (k := 4) (i := 41) rfl rfl⟩, fun h => absurd h (by decide)⟩
theorem oh_Rw_with : okH m_Rw_with := ⟨by decide +kernel, gwm (k := 2) (i := 178) rfl rfl, gwm (k := 1) (i := 12) rfl rfl, by decide +kernel, by decide, rfl, fun _ => gwm (k := 2) (i := 177) rfl rfl, fun h => absurd h (by decide), fun h => absurd h (by decide)⟩
theorem oh_Rw_size : okH m_Rw_size := ⟨by decide +kernel, gwm (k := 2) (i := 181) rfl rfl, gwm (k := 1) (i := 12) rfl rfl, by decide +kernel, by decide, rfl, fun _ => gwm (k := 2) (i := 180) rfl rfl, fun h => absurd h (by decide), fun h => absurd h (by decide)⟩
theorem oh_Rw_without : okH m_Rw_without := ⟨by decide +kernel, gwm (k := 2) (i := 188) rfl rfl, gwm (k := 1) (i := 12) rfl rfl, by decide +kernel, by decide, rfl, fun _ => gwm (k := 2) (i := 187) rfl rfl, fun h => absurd h (by decide), fun h => absurd h (by decide)⟩
theorem oh_Rw_typeAt : okH m_Rw_typeAt := ⟨by decide +kernel, gwm (k := 2) (i := 191) rfl rfl, gwm (k := 1) (i := 12) rfl rfl, by decide +kernel, by decide, rfl, fun _ => gwm (k := 2) (i := 190) rfl rfl, fun h => absurd h (by decide), fun h => absurd h (by decide)⟩
theorem oh_Rw_top : okH m_Rw_top := ⟨by decide +kernel, gwm (k := 2) (i := 204) rfl rfl, gwm (k := 1) (i := 12) rfl rfl, by decide +kernel, by decide, rfl, fun _ => gwm (k := 2) (i := 203) rfl rfl, fun h => absurd h (by decide), fun h => absurd h (by decide)⟩
theorem oh_TE_init : okH m_TE_init := ⟨by decide +kernel, gwm (k := 1) (i := 17) rfl rfl, gwm (k := 1) (i := 1) rfl rfl, by decide +kernel, by decide, rfl, fun h => absurd h (by decide), fun h => absurd h (by decide), fun _ => ⟨gwm (k := 1) (i := 16) rfl rfl, rfl, rfl⟩⟩
theorem oh_TE_draft : okH m_TE_draft := ⟨by decide +kernel, gwm (k := 2) (i := 77) rfl rfl, gwm (k := 1) (i := 1) rfl rfl, by decide +kernel, by decide, rfl, fun h => absurd h (by decide), fun _ => ⟨gwm (k := 2) (i := 75) rfl rfl, gwm (k := 2) (i := 76) rfl rfl⟩, fun h => absurd h (by decide)⟩
theorem oh_TE_clear : okH m_TE_clear := ⟨by decide +kernel, gwm (k := 2) (i := 82) rfl rfl, gwm (k := 1) (i := 1) rfl rfl, by decide +kernel, by decide, rfl, fun h => absurd h (by decide), fun _ => ⟨gwm (k := 2) (i := 80) rfl rfl, gwm (k := 2) (i := 81) rfl rfl⟩, fun h => absurd h (by decide)⟩
theorem oh_TE_load : okH m_TE_load := ⟨by decide +kernel, gwm (k := 2) (i := 86) rfl rfl, gwm (k := 1) (i := 1) rfl rfl, by decide +kernel, by decide, rfl, fun h => absurd h (by decide), fun _ => ⟨gwm (k := 2) (i := 84) rfl rfl, gwm (k := 2) (i := 85) rfl rfl⟩, fun h => absurd h (by decide)⟩
theorem oh_TE_verified : okH m_TE_verified := ⟨by decide +kernel, gwm (k := 3) (i := 47) rfl rfl, gwm (k := 1) (i := 1) rfl rfl, by decide +kernel, by decide, rfl, fun h => absurd h (by decide), fun _ => ⟨gwm (k := 3) (i := 45) rfl rfl, gwm (k := 3) (i := 46) rfl rfl⟩, fun h => absurd h (by decide)⟩
theorem oh_TE_depth : okH m_TE_depth := ⟨by decide +kernel, gwm (k := 3) (i := 56) rfl rfl, gwm (k := 1) (i := 1) rfl rfl, by decide +kernel, by decide, rfl, fun h => absurd h (by decide), fun _ => ⟨gwm (k := 3) (i := 54) rfl rfl, gwm (k := 3) (i := 55) rfl rfl⟩, fun h => absurd h (by decide)⟩
theorem oh_TE_type : okH m_TE_type := ⟨by decide +kernel, gwm (k := 3) (i := 62) rfl rfl, gwm (k := 1) (i := 1) rfl rfl, by decide +kernel, by decide, rfl, fun h => absurd h (by decide), fun _ => ⟨gwm (k := 3) (i := 60) rfl rfl, gwm (k := 3) (i := 61) rfl rfl⟩, fun h => absurd h (by decide)⟩
theorem oh_TE_start : okH m_TE_start := ⟨by decide +kernel, gwm (k := 3) (i := 67) rfl rfl, gwm (k := 1) (i := 1) rfl rfl, by decide +kernel, by decide, rfl, fun h => absurd h (by decide), fun _ => ⟨gwm (k := 3) (i := 65) rfl rfl, gwm (k := 3) (i := 66) rfl rfl⟩, fun h => absurd h (by decide)⟩
theorem oh_TE_step : okH m_TE_step := ⟨by decide +kernel, gwm (k := 3) (i := 104) rfl rfl, gwm (k := 1) (i := 1) rfl rfl, by decide +kernel, by decide, rfl, fun h => absurd h (by decide), fun _ => ⟨gwm (k := 3) (i := 102) rfl rfl, gwm (k := 3) (i := 103) rfl rfl⟩, fun h => absurd h (by decide)⟩
theorem oh_TE_state : okH m_TE_state := ⟨by decide +kernel, gwm (k := 4) (i := 19) rfl rfl, gwm (k := 1) (i := 1) rfl rfl, by decide +kernel, by decide, rfl, fun h => absurd h (by decide), fun _ => ⟨gwm (k := 4) (i := 17) rfl rfl, gwm (k := 4) (i := 18) rfl rfl⟩, fun h => absurd h (by decide)⟩
theorem oh_TE_result : okH m_TE_result := ⟨by decide +kernel, gwm (k := 4) (i := 23) rfl rfl, gwm (k := 1) (i := 1) rfl rfl, by decide +kernel, by decide, rfl, fun h => absurd h (by decide), fun _ => ⟨gwm (k := 4) (i := 21) rfl rfl, gwm (k := 4) (i := 22) rfl rfl⟩, fun h => absurd h (by decide)⟩
theorem oh_TE_look : okH m_TE_look := ⟨by decide +kernel, gwm (k := 4) (i := 27) rfl rfl, gwm (k := 1) (i := 1) rfl rfl, by decide +kernel, by decide, rfl, fun h => absurd h (by decide), fun _ => ⟨gwm (k := 4) (i := 25) rfl rfl, gwm (k := 4) (i := 26) rfl rfl⟩, fun h => absurd h (by decide)⟩
theorem oh_TE_peek : okH m_TE_peek := ⟨by decide +kernel, gwm (k := 4) (i := 32) rfl rfl, gwm (k := 1) (i := 1) rfl rfl, by decide +kernel, by decide, rfl, fun h => absurd h (by decide), fun _ => ⟨gwm (k := 4) (i := 30) rfl rfl, gwm (k := 4) (i := 31) rfl rfl⟩, fun h => absurd h (by decide)⟩
theorem oh_TE_entered : okH m_TE_entered := ⟨by decide +kernel, gwm (k := 4) (i := 37) rfl rfl, gwm (k := 1) (i := 1) rfl rfl, by decide +kernel, by decide, rfl, fun h => absurd h (by decide), fun _ => ⟨gwm (k := 4) (i := 35) rfl rfl, gwm (k := 4) (i := 36) rfl rfl⟩, fun h => absurd h (by decide)⟩
theorem oh_Vf_init : okH m_Vf_init := ⟨by decide +kernel, gwm (k := 1) (i := 172) rfl rfl, gwm (k := 1) (i := 6) rfl rfl, by decide +kernel, by decide, rfl, fun h => absurd h (by decide), fun h => absurd h (by decide), fun _ => ⟨gwm (k := 1) (i := 171) rfl rfl, rfl, rfl⟩⟩
theorem oh_Vf_verify : okH m_Vf_verify := ⟨by decide +kernel, gwm (k := 2) (i := 129) rfl rfl, gwm (k := 1) (i := 6) rfl rfl, by decide +kernel, by decide, rfl, fun h => absurd h (by decide), fun _ => ⟨gwm (k := 2) (i := 127) rfl rfl, gwm (k := 2) (i := 128) rfl rfl⟩, fun h => absurd h (by decide)⟩
theorem oh_Vf_findBeginnings : okH m_Vf_findBeginnings := ⟨by decide +kernel, gwm (k := 2) (i := 133) rfl rfl, gwm (k := 1) (i := 6) rfl rfl, by decide +kernel, by decide, rfl, fun h => absurd h (by decide), fun _ => ⟨gwm (k := 2) (i := 132) rfl rfl, gwm (k := 0) (i := 6) rfl rfl⟩, fun h => absurd h (by decide)⟩
theorem oh_Vf_areRegionsWellMade : okH m_Vf_areRegionsWellMade := ⟨by decide +kernel, gwm (k := 2) (i := 143) rfl rfl, gwm (k := 1) (i := 6) rfl rfl, by decide +kernel, by decide, rfl, fun h => absurd h (by decide), fun _ => ⟨gwm (k := 2) (i := 142) rfl rfl, gwm (k := 0) (i := 7) rfl rfl⟩, fun h => absurd h (by decide)⟩
theorem oh_Vf_isWellMade : okH m_Vf_isWellMade := ⟨by decide +kernel, gwm (k := 2) (i := 147) rfl rfl, gwm (k := 1) (i := 6) rfl rfl, by decide +kernel, by decide, rfl, fun h => absurd h (by decide), fun _ => ⟨gwm (k := 2) (i := 146) rfl rfl, gwm (k := 0) (i := 8) rfl rfl⟩, fun h => absurd h (by decide)⟩
theorem oh_Vf_beginsAt : okH m_Vf_beginsAt := ⟨by decide +kernel, gwm (k := 2) (i := 151) rfl rfl, gwm (k := 1) (i := 6) rfl rfl, by decide +kernel, by decide, rfl, fun h => absurd h (by decide), fun _ => ⟨gwm (k := 2) (i := 150) rfl rfl, gwm (k := 0) (i := 9) rfl rfl⟩, fun h => absurd h (by decide)⟩
theorem oh_Vf_reach : okH m_Vf_reach := ⟨by decide +kernel, gwm (k := 2) (i := 159) rfl rfl, gwm (k := 1) (i := 6) rfl rfl, by decide +kernel, by decide, rfl, fun h => absurd h (by decide), fun _ => ⟨gwm (k := 2) (i := 158) rfl rfl, gwm (k := 0) (i := 10) rfl rfl⟩, fun h => absurd h (by decide)⟩
theorem oh_Vf_follow : okH m_Vf_follow := ⟨by decide +kernel, gwm (k := 2) (i := 163) rfl rfl, gwm (k := 1) (i := 6) rfl rfl, by decide +kernel, by decide, rfl, fun h => absurd h (by decide), fun _ => ⟨gwm (k := 2) (i := 162) rfl rfl, gwm (k := 0) (i := 11) rfl rfl⟩, fun h => absurd h (by decide)⟩
theorem oh_Vf_rowBehindSimple : okH m_Vf_rowBehindSimple := ⟨by decide +kernel, gwm (k := 2) (i := 175) rfl rfl, gwm (k := 1) (i := 6) rfl rfl, by decide +kernel, by decide, rfl, fun h => absurd h (by decide), fun _ => ⟨gwm (k := 2) (i := 174) rfl rfl, gwm (k := 0) (i := 12) rfl rfl⟩, fun h => absurd h (by decide)⟩
theorem oh_Vf_placeOf : okH m_Vf_placeOf := ⟨by decide +kernel, gwm (k := 2) (i := 194) rfl rfl, gwm (k := 1) (i := 6) rfl rfl, by decide +kernel, by decide, rfl, fun _ => gwm (k := 2) (i := 193) rfl rfl, fun h => absurd h (by decide), fun h => absurd h (by decide)⟩
theorem oh_Vf_withoutNumbers : okH m_Vf_withoutNumbers := ⟨by decide +kernel, gwm (k := 2) (i := 201) rfl rfl, gwm (k := 1) (i := 6) rfl rfl, by decide +kernel, by decide, rfl, fun _ => gwm (k := 2) (i := 200) rfl rfl, fun h => absurd h (by decide), fun h => absurd h (by decide)⟩
theorem oh_Vf_rowBehindThing : okH m_Vf_rowBehindThing := ⟨by decide +kernel, gwm (k := 2) (i := 208) rfl rfl, gwm (k := 1) (i := 6) rfl rfl, by decide +kernel, by decide, rfl, fun h => absurd h (by decide), fun _ => ⟨gwm (k := 2) (i := 207) rfl rfl, gwm (k := 0) (i := 13) rfl rfl⟩, fun h => absurd h (by decide)⟩
theorem oh_Vf_rowBehindValue : okH m_Vf_rowBehindValue := ⟨by decide +kernel, gwm (k := 2) (i := 217) rfl rfl, gwm (k := 1) (i := 6) rfl rfl, by decide +kernel, by decide, rfl, fun _ => gwm (k := 2) (i := 216) rfl rfl, fun h => absurd h (by decide), fun h => absurd h (by decide)⟩
theorem oh_Vf_rowBehindFlow : okH m_Vf_rowBehindFlow := ⟨by decide +kernel, gwm (k := 2) (i := 221) rfl rfl, gwm (k := 1) (i := 6) rfl rfl, by decide +kernel, by decide, rfl, fun h => absurd h (by decide), fun _ => ⟨gwm (k := 2) (i := 220) rfl rfl, gwm (k := 0) (i := 14) rfl rfl⟩, fun h => absurd h (by decide)⟩
theorem oh_Vf_rowBehindCall : okH m_Vf_rowBehindCall := ⟨by decide +kernel, gwm (k := 2) (i := 225) rfl rfl, gwm (k := 1) (i := 6) rfl rfl, by decide +kernel, by decide, rfl, fun h => absurd h (by decide), fun _ => ⟨gwm (k := 2) (i := 224) rfl rfl, gwm (k := 0) (i := 15) rfl rfl⟩, fun h => absurd h (by decide)⟩
theorem oh_Vf_liesWhereItMay : okH m_Vf_liesWhereItMay := ⟨by decide +kernel, gwm (k := 2) (i := 233) rfl rfl, gwm (k := 1) (i := 6) rfl rfl, by decide +kernel, by decide, rfl, fun h => absurd h (by decide), fun _ => ⟨gwm (k := 2) (i := 232) rfl rfl, gwm (k := 0) (i := 16) rfl rfl⟩, fun h => absurd h (by decide)⟩
theorem oh_Vf_reachHandlers : okH m_Vf_reachHandlers := ⟨by decide +kernel, gwm (k := 3) (i := 17) rfl rfl, gwm (k := 1) (i := 6) rfl rfl, by decide +kernel, by decide, rfl, fun h => absurd h (by decide), fun _ => ⟨gwm (k := 3) (i := 16) rfl rfl, gwm (k := 0) (i := 17) rfl rfl⟩, fun h => absurd h (by decide)⟩
theorem oh_Vf_reachNext : okH m_Vf_reachNext := ⟨by decide +kernel, gwm (k := 3) (i := 22) rfl rfl, gwm (k := 1) (i := 6) rfl rfl, by decide +kernel, by decide, rfl, fun h => absurd h (by decide), fun _ => ⟨gwm (k := 3) (i := 21) rfl rfl, gwm (k := 0) (i := 18) rfl rfl⟩, fun h => absurd h (by decide)⟩
theorem oh_Vf_mayLeave : okH m_Vf_mayLeave := ⟨by decide +kernel, gwm (k := 3) (i := 29) rfl rfl, gwm (k := 1) (i := 6) rfl rfl, by decide +kernel, by decide, rfl, fun h => absurd h (by decide), fun _ => ⟨gwm (k := 3) (i := 28) rfl rfl, gwm (k := 0) (i := 19) rfl rfl⟩, fun h => absurd h (by decide)⟩
theorem oh_Vf_goOn : okH m_Vf_goOn := ⟨by decide +kernel, gwm (k := 3) (i := 36) rfl rfl, gwm (k := 1) (i := 6) rfl rfl, by decide +kernel, by decide, rfl, fun h => absurd h (by decide), fun _ => ⟨gwm (k := 3) (i := 35) rfl rfl, gwm (k := 0) (i := 20) rfl rfl⟩, fun h => absurd h (by decide)⟩
set_option maxRecDepth 20000 in
theorem oh_all {M : Nat} {m : MI} (h : mts[M]? = some m) (h0 : M ≠ 0) : okH m := by
  have h1 : ∀ x ∈ mts.drop 1, okH x := by
    show ∀ x ∈ [m_Fr_init, m_Fr_begin, m_Fr_setArgument, m_Fr_push, m_Fr_pop, m_Fr_argument, m_Fr_popInt, m_Fr_valueAt, m_Fr_keepPending, m_Fr_forgetPending, m_Im_init, m_Im_canBeNull, m_Im_hasClass, m_Im_fieldType, m_Im_method, m_Im_verifiedMethod, m_Im_callsVerifiedAlone, m_Me_init, m_Me_codeAt, m_Me_rowAt, m_Me_localType, m_Me_argumentType, m_Me_partsAt, m_Me_handlersAt, m_Me_finallyAround, m_Me_takesNumbersAlone, m_Mo_init, m_Mo_draft, m_Mo_clear, m_Mo_load, m_Mo_scan, m_Mo_next, m_Mo_between, m_Mo_typeOf, m_Mo_scanMethod, m_Mo_verify, m_Mo_split, m_Mo_op, m_Mo_bytes, m_Mo_wellMade, m_Mo_isBeginning, m_Mo_meet, m_Mo_flow, m_Mo_inPart, m_Mo_simple, m_Mo_push, m_Mo_operand, m_Mo_localAt, m_Mo_need, m_Mo_take, m_Mo_pop, m_Mo_argumentAt, m_Mo_isObject, m_Mo_things, m_Mo_fieldAt, m_Mo_taken, m_Mo_calls, m_Mo_innermost, m_Mo_inHandler, m_Mo_target, m_Mo_signed, m_Mo_leaves, m_Mo_goes, m_Mo_verified, m_Mo_isGood, m_Mo_depth, m_Mo_type, m_Mo_start, m_Mo_allGood, m_Mo_direct, m_Mo_enter, m_Mo_isReference, m_Mo_step, m_Mo_perform, m_Mo_plain, m_Mo_put, m_Mo_putCell, m_Mo_get, m_Mo_setCell, m_Mo_reckon, m_Mo_work, m_Mo_create, m_Mo_make, m_Mo_cellOf, m_Mo_putPlace, m_Mo_control, m_Mo_call, m_Mo_finish, m_Mo_raise, m_Mo_raiseBehind, m_Mo_handle, m_Mo_drop, m_Mo_leave, m_Mo_leaveBehind, m_Mo_goOn, m_Mo_state, m_Mo_result, m_Mo_look, m_Mo_peek, m_Mo_entered, m_Op_isKnown, m_Op_width, m_Op_signed, m_Op_jumps, m_Op_goesBehind, m_Rd_init, m_Rd_readInto, m_Rd_number, m_Rd_readClasses, m_Rd_keptType, m_Rd_readMethod, m_Rd_nextIs, m_Rd_readRegion, m_Rg_init, m_Rg_isApartFromOrWithin, m_Rg_keeps, m_Rg_handles, m_Ru_init, m_Ru_drop, m_Ru_begin, m_Ru_activate, m_Ru_latest, m_Ru_setCell, m_Ru_doInstruction, m_Ru_doSimple, m_Ru_cell, m_Ru_compute, m_Ru_raise, m_Ru_raiseFrom, m_Ru_jump, m_Ru_jumpIfLess, m_Ru_doThing, m_Ru_make, m_Ru_addressIn, m_Ru_doField, m_Ru_makeArray, m_Ru_pushSize, m_Ru_itemCount, m_Ru_doItem, m_Ru_doValue, m_Ru_firstOf, m_Ru_makeBox, m_Ru_openBox, m_Ru_doFlow, m_Ru_call, m_Ru_giveBack, m_Ru_numberOf, m_Ru_end, m_Ru_leave, m_Ru_enter, m_Ru_finish, m_Ru_throwOn, m_Ru_handle, m_Ru_entriesOf, m_Rw_with, m_Rw_size, m_Rw_without, m_Rw_typeAt, m_Rw_top, m_TE_init, m_TE_draft, m_TE_clear, m_TE_load, m_TE_verified, m_TE_depth, m_TE_type, m_TE_start, m_TE_step, m_TE_state, m_TE_result, m_TE_look, m_TE_peek, m_TE_entered, m_Vf_init, m_Vf_verify, m_Vf_findBeginnings, m_Vf_areRegionsWellMade, m_Vf_isWellMade, m_Vf_beginsAt, m_Vf_reach, m_Vf_follow, m_Vf_rowBehindSimple, m_Vf_placeOf, m_Vf_withoutNumbers, m_Vf_rowBehindThing, m_Vf_rowBehindValue, m_Vf_rowBehindFlow, m_Vf_rowBehindCall, m_Vf_liesWhereItMay, m_Vf_reachHandlers, m_Vf_reachNext, m_Vf_mayLeave, m_Vf_goOn], okH x
    simp only [List.forall_mem_cons, List.not_mem_nil, false_implies, implies_true, and_true]
    exact ⟨oh_Fr_init, oh_Fr_begin, oh_Fr_setArgument, oh_Fr_push, oh_Fr_pop, oh_Fr_argument, oh_Fr_popInt, oh_Fr_valueAt, oh_Fr_keepPending, oh_Fr_forgetPending, oh_Im_init, oh_Im_canBeNull, oh_Im_hasClass, oh_Im_fieldType, oh_Im_method, oh_Im_verifiedMethod, oh_Im_callsVerifiedAlone, oh_Me_init, oh_Me_codeAt, oh_Me_rowAt, oh_Me_localType, oh_Me_argumentType, oh_Me_partsAt, oh_Me_handlersAt, oh_Me_finallyAround, oh_Me_takesNumbersAlone, oh_Mo_init, oh_Mo_draft, oh_Mo_clear, oh_Mo_load, oh_Mo_scan, oh_Mo_next, oh_Mo_between, oh_Mo_typeOf, oh_Mo_scanMethod, oh_Mo_verify, oh_Mo_split, oh_Mo_op, oh_Mo_bytes, oh_Mo_wellMade, oh_Mo_isBeginning, oh_Mo_meet, oh_Mo_flow, oh_Mo_inPart, oh_Mo_simple, oh_Mo_push, oh_Mo_operand, oh_Mo_localAt, oh_Mo_need, oh_Mo_take, oh_Mo_pop, oh_Mo_argumentAt, oh_Mo_isObject, oh_Mo_things, oh_Mo_fieldAt, oh_Mo_taken, oh_Mo_calls, oh_Mo_innermost, oh_Mo_inHandler, oh_Mo_target, oh_Mo_signed, oh_Mo_leaves, oh_Mo_goes, oh_Mo_verified, oh_Mo_isGood, oh_Mo_depth, oh_Mo_type, oh_Mo_start, oh_Mo_allGood, oh_Mo_direct, oh_Mo_enter, oh_Mo_isReference, oh_Mo_step, oh_Mo_perform, oh_Mo_plain, oh_Mo_put, oh_Mo_putCell, oh_Mo_get, oh_Mo_setCell, oh_Mo_reckon, oh_Mo_work, oh_Mo_create, oh_Mo_make, oh_Mo_cellOf, oh_Mo_putPlace, oh_Mo_control, oh_Mo_call, oh_Mo_finish, oh_Mo_raise, oh_Mo_raiseBehind, oh_Mo_handle, oh_Mo_drop, oh_Mo_leave, oh_Mo_leaveBehind, oh_Mo_goOn, oh_Mo_state, oh_Mo_result, oh_Mo_look, oh_Mo_peek, oh_Mo_entered, oh_Op_isKnown, oh_Op_width, oh_Op_signed, oh_Op_jumps, oh_Op_goesBehind, oh_Rd_init, oh_Rd_readInto, oh_Rd_number, oh_Rd_readClasses, oh_Rd_keptType, oh_Rd_readMethod, oh_Rd_nextIs, oh_Rd_readRegion, oh_Rg_init, oh_Rg_isApartFromOrWithin, oh_Rg_keeps, oh_Rg_handles, oh_Ru_init, oh_Ru_drop, oh_Ru_begin, oh_Ru_activate, oh_Ru_latest, oh_Ru_setCell, oh_Ru_doInstruction, oh_Ru_doSimple, oh_Ru_cell, oh_Ru_compute, oh_Ru_raise, oh_Ru_raiseFrom, oh_Ru_jump, oh_Ru_jumpIfLess, oh_Ru_doThing, oh_Ru_make, oh_Ru_addressIn, oh_Ru_doField, oh_Ru_makeArray, oh_Ru_pushSize, oh_Ru_itemCount, oh_Ru_doItem, oh_Ru_doValue, oh_Ru_firstOf, oh_Ru_makeBox, oh_Ru_openBox, oh_Ru_doFlow, oh_Ru_call, oh_Ru_giveBack, oh_Ru_numberOf, oh_Ru_end, oh_Ru_leave, oh_Ru_enter, oh_Ru_finish, oh_Ru_throwOn, oh_Ru_handle, oh_Ru_entriesOf, oh_Rw_with, oh_Rw_size, oh_Rw_without, oh_Rw_typeAt, oh_Rw_top, oh_TE_init, oh_TE_draft, oh_TE_clear, oh_TE_load, oh_TE_verified, oh_TE_depth, oh_TE_type, oh_TE_start, oh_TE_step, oh_TE_state, oh_TE_result, oh_TE_look, oh_TE_peek, oh_TE_entered, oh_Vf_init, oh_Vf_verify, oh_Vf_findBeginnings, oh_Vf_areRegionsWellMade, oh_Vf_isWellMade, oh_Vf_beginsAt, oh_Vf_reach, oh_Vf_follow, oh_Vf_rowBehindSimple, oh_Vf_placeOf, oh_Vf_withoutNumbers, oh_Vf_rowBehindThing, oh_Vf_rowBehindValue, oh_Vf_rowBehindFlow, oh_Vf_rowBehindCall, oh_Vf_liesWhereItMay, oh_Vf_reachHandlers, oh_Vf_reachNext, oh_Vf_mayLeave, oh_Vf_goOn⟩
  refine h1 m (List.mem_of_getElem? (i := M - 1) ?_)
  rw [List.getElem?_drop, show 1 + (M - 1) = M by omega]
  exact h
