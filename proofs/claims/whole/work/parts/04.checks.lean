/-! What the tables must say of an instruction, and of a method: decided by the kernel. -/
def ilen : Instr → Nat
  | .bipush _ | .iload _ | .lload _ | .aload _ | .istore _ | .lstore _ | .astore _ | .newarray _ => 2
  | .sipush _ | .iinc _ _ | .ldc2_w _ | .ifCond _ _ | .if_icmp _ _ | .goto _ | .ifnull _ | .ifnonnull _ | .getfield _ | .putfield _ | .new _ | .anewarray _ | .invokestatic _ | .invokevirtual _ | .invokespecial _ => 3
  | _ => 1
def isTsw : Instr → Bool
  | .tableswitch _ _ _ _ => true
  | _ => false
def wis (i : Nat) (w : Cond) : Bool := decide (wd i = some w) && goodWord w
def y_nest : MethodName := ⟨"TypedEngine$Region", "<init>", "()V"⟩
def w_nest : Cond := .methodLinkNest "TypedEngine$Method" 22 y_nest "TypedEngine"
def okX (own : String) (isI : Bool) (nL : Nat) (ret : Option FieldType) (pc : Nat) (r1 r2 r3 : Nat) : Instr → Bool
  | .istore i => decide (i < nL)
  | .istore_n i => decide (i.val < nL)
  | .lstore i => decide (i + 1 < nL)
  | .lstore_n i => decide (i.val + 1 < nL)
  | .astore i => decide (i < nL)
  | .astore_n i => decide (i.val < nL)
  | .iinc i _ => decide (i < nL)
  | .ifCond _ off => decide ((pc : Int) + off = (r1 : Int))
  | .if_icmp _ off => decide ((pc : Int) + off = (r1 : Int))
  | .goto off => decide ((pc : Int) + off = (r1 : Int))
  | .ifnull off => decide ((pc : Int) + off = (r1 : Int))
  | .ifnonnull off => decide ((pc : Int) + off = (r1 : Int))
  | .tableswitch d _ _ _ => decide ((pc : Int) + d = (r1 : Int))
  | .ldc2_w i => wis r2 (.constantLong own i (Int64.ofNat r1))
  | .getfield i => match k_cl[r1]? with
    | some q => decide (r2 < q.2.2) && wis r3 (.fieldLink own i q.1 (q.2.1 r2).2.1 (q.2.1 r2).2.2.1) && decide ((q.2.1 r2).1 = q.1)
    | none => false
  | .putfield i => match k_cl[r1]? with
    | some q => decide (r2 < q.2.2) && wis r3 (.fieldLink own i q.1 (q.2.1 r2).2.1 (q.2.1 r2).2.2.1) && decide ((q.2.1 r2).1 = q.1) && (!(q.2.1 r2).2.2.2 || (isI && decide ((q.2.1 r2).1 = own)))
    | none => false
  | .newarray a => decide (r1 < 3) && decide (newarray.typeOf a = k_ta r1)
  | .anewarray i => decide (3 ≤ r1) && decide (r1 < 6) && (match k_ta r1 with
    | .object C => wis r2 (.classLink own i C)
    | _ => false)
  | .new i => match k_cl[r1]? with
    | some q => wis r2 (.classLink own i q.1)
    | none => false
  | .invokestatic i => match mts[r1]? with
    | some m => wis r3 (.methodLink own i m.1) && decide (m.2.2.2.2.1 = r2) && wis m.2.2.2.2.2.2.2.2.1 (.static m.1)
    | none => false
  | .invokevirtual i => match mts[r1]? with
    | some m => wis r3 (.methodLink own i m.1) && decide (m.2.2.2.2.1 = r2) && wis m.2.2.2.2.2.2.2.2.1 (.instanceMethod m.1) && wis m.2.2.2.2.2.2.2.2.2 (.selects m.1.cls m.1 m.1)
    | none => false
  | .invokespecial i => if r1 = 9999 then wis r3 (.methodLink own i objectInit) && decide (r2 = 0) else match mts[r1]? with
    | some m => (wis r3 (.methodLink own i m.1) || decide (own = "TypedEngine$Method" ∧ i = 22 ∧ m.1 = y_nest)) && decide (m.2.2.2.2.1 = r2) && wis m.2.2.2.2.2.2.2.2.1 (.instanceMethod m.1) && decide (m.1.name = "<init>") && decide (m.2.2.2.1 = none)
    | none => false
  | .ireturn => decide (r1 = 0 ∧ ret = some .int ∨ r1 = 2 ∧ ret = some .boolean)
  | .lreturn => decide (ret = some .long)
  | .areturn => match ret with
    | some (.object _) => true
    | _ => false
  | .return_ => decide (ret = none)
  | _ => true
def okI (own : String) (isI : Bool) (cc : ByteArray) (nL : Nat) (ret : Option FieldType) (q : Nat × PI) : Bool :=
  decide (decode cc q.1 = .ok (q.2.1, q.2.2.1)) && (isTsw q.2.1 || decide (q.2.2.1 = ilen q.2.1)) && okX own isI nL ret q.1 q.2.2.2.1 q.2.2.2.2.1 q.2.2.2.2.2 q.2.1
def isIn (m : MI) : Bool := decide (m.1.name = "<init>")
def okC (m : MI) : Bool := m.2.2.2.2.2.1.all (okI m.1.cls (isIn m) m.2.1 m.2.2.1 m.2.2.2.1)
def okH (m : MI) : Bool := plainName m.1.cls && wis m.2.2.2.2.2.2.1 (.code m.1 m.2.1 m.2.2.1 m.2.2.2.1) && wis m.2.2.2.2.2.2.2.1 (.initialized m.1.cls)
  && decide (m.1.cls ≠ "java/lang/invoke/MethodHandle" ∧ m.1.cls ≠ "java/lang/invoke/VarHandle" ∧ (parseMethodDescriptor m.1.desc).map (fun d => d.parameters.length) = some m.2.2.2.2.1) && decide (m.2.2.1 ≤ 24)
/-- a class: its fields' words among the good ones, kinds and defaults as the tables have them -/
def okK (k : Nat) (q : vw_C) : Bool := (u_ws q.1 q.2.1 q.2.2).all (fun w => decide (w ∈ gw)) && wis (k_pi k).1 (.instantiable q.1 q.2.2) && wis (k_pi k).2 (.initialized q.1) && decide ((k_df k).length = q.2.2)
  && (List.range q.2.2).all (fun j => decide (parseFieldDescriptor (q.2.1 j).2.2.1 = some (k_ty k j)) && decide (defaultValue (k_ty k j) = vp_V (k_df k) j) && (List.range q.2.2).all (fun i => decide (i = j) || decide ((q.2.1 i).2.1 ≠ (q.2.1 j).2.1))
    && (match (k_tg k).getD j 9, k_ty k j with
      | 0, .int => true
      | 1, .long => true
      | 2, .boolean => true
      | 3, .object _ => true
      | 3, .array _ => true
      | _, _ => false))
set_option maxRecDepth 100000 in
theorem k_ok : ∀ k, k < 9 → (match k_cl[k]? with | some q => okK k q | none => false) = true := by decide +kernel
theorem wis_gw {i : Nat} {w : Cond} (h : wis i w = true) : w ∈ gw := by
  unfold wis at h
  rw [Bool.and_eq_true, decide_eq_true_eq] at h
  exact List.mem_filter.mpr ⟨seg_in (List.mem_of_getElem? h.1), h.2⟩
theorem gw_good {w : Cond} (h : w ∈ gw) : (w.onTables && w.keeps) = true ∨ ∃ ty, w = .arrayClass ty := good_of_word (List.mem_filter.mp h).2
