/-! The pure machine: a heap is a list of entities, the one at place k lies at base + k; locals as the kit's rows keep them. -/
abbrev PE : Type := (Nat × vp_A) ⊕ (Nat × List Value)
abbrev LV : Type := List (Nat × Value)
abbrev SC : Type := Nat → Option (Nat × (Nat → Int32))
abbrev PS : Type := Nat × LV × List Value × List PE
/-- element types of arrays by their tag -/
def k_ta (t : Nat) : FieldType := match t with
  | 0 => .int
  | 1 => .long
  | 2 => .boolean
  | 3 => .object "TypedEngine$Method"
  | 4 => .object "TypedEngine$Region"
  | _ => .object "TypedEngine$Frame"
/-- the class of an array's elements -/
def k_te (t : Nat) : Nat := match t with
  | 3 => 2
  | 4 => 4
  | _ => 0
/-- the word at a place: 1000 * the table's number + its place there -/
def seg (k : Nat) : List Cond := match k with
  | 0 => k2_sels lw_privs
  | 1 => tables_1_1
  | 2 => tables_1_2
  | 3 => tables_1_3
  | 4 => tables_1_4
  | 5 => tables_1_5
  | 6 => tables_1_6
  | _ => []
def wd (i : Nat) : Option Cond := (seg (i / 1000))[i % 1000]?
theorem seg_in {k : Nat} {w : Cond} (h : w ∈ seg k) : w ∈ lw_tbl := by
  unfold lw_tbl tables_1
  simp only [List.mem_append]
  unfold seg at h
  split at h
  · exact Or.inl h
  · exact Or.inr (Or.inl h)
  · exact Or.inr (Or.inr (Or.inl h))
  · exact Or.inr (Or.inr (Or.inr (Or.inl h)))
  · exact Or.inr (Or.inr (Or.inr (Or.inr (Or.inl h))))
  · exact Or.inr (Or.inr (Or.inr (Or.inr (Or.inr (Or.inl h)))))
  · exact Or.inr (Or.inr (Or.inr (Or.inr (Or.inr (Or.inr h)))))
  · cases h
def gw : List Cond := lw_tbl.filter goodWord
def fetch (M pc : Nat) : Option PI := match mts[M]? with
  | some m => m.2.2.2.2.2.1.lookup pc
  | none => none
def lput (lv : LV) (i : Nat) (v : Value) : LV := (i, v) :: lv.filter (fun q => !(q.1 == i) && !(q.1 + 1 == i && q.2.category == 2))
def lput2 (lv : LV) (i : Nat) (v : Value) : LV := (i, v) :: lv.filter (fun q => !(q.1 == i) && (!(q.1 == i + 1) && !(q.1 + 1 == i && q.2.category == 2)))
def rd (base : Nat) (h : List PE) (a : Nat) : Option PE := if base ≤ a then h[a - base]? else none
def wr (base : Nat) (h : List PE) (a : Nat) (e : PE) : List PE := h.set (a - base) e
/-- what may be stored in a field of that kind -/
def okv (t : Nat) (v : Value) : Bool := match t, v with
  | 0, .int _ => true
  | 1, .long _ => true
  | 2, .int x => x == 0 || x == 1
  | 3, .ref _ => true
  | _, _ => false
def narr (t n : Nat) : vp_A := match t with
  | 1 => (n, .inr (.inl fun _ => 0))
  | _ => (n, .inl fun _ => 0)
def esz : PE → Nat
  | .inl a => a.2.1
  | .inr o => o.2.length
def sl (h : List PE) : Nat := (h.map esz).sum
def q_k (n : Nat) (v : Value) (pc : Nat) (lv : LV) (st : List Value) (h : List PE) : Option PS := some (pc + n, lv, v :: st, h)
def q_ldi (n i : Nat) (pc : Nat) (lv : LV) (st : List Value) (h : List PE) : Option PS := match lv.lookup i with
  | some (.int v) => some (pc + n, lv, .int v :: st, h)
  | _ => none
def q_ldl (n i : Nat) (pc : Nat) (lv : LV) (st : List Value) (h : List PE) : Option PS := match lv.lookup i with
  | some (.long v) => some (pc + n, lv, .long v :: st, h)
  | _ => none
def q_lda (n i : Nat) (pc : Nat) (lv : LV) (st : List Value) (h : List PE) : Option PS := match lv.lookup i with
  | some (.ref v) => some (pc + n, lv, .ref v :: st, h)
  | some .null => some (pc + n, lv, .null :: st, h)
  | _ => none
def q_sti (n i : Nat) (pc : Nat) (lv : LV) (st : List Value) (h : List PE) : Option PS := match st with
  | .int v :: r => some (pc + n, lput lv i (.int v), r, h)
  | _ => none
def q_stl (n i : Nat) (pc : Nat) (lv : LV) (st : List Value) (h : List PE) : Option PS := match st with
  | .long v :: r => some (pc + n, lput2 lv i (.long v), r, h)
  | _ => none
def q_sta (n i : Nat) (pc : Nat) (lv : LV) (st : List Value) (h : List PE) : Option PS := match st with
  | .ref v :: r => some (pc + n, lput lv i (.ref v), r, h)
  | .null :: r => some (pc + n, lput lv i .null, r, h)
  | _ => none
def q_inc (i : Nat) (k : Int) (pc : Nat) (lv : LV) (st : List Value) (h : List PE) : Option PS := match lv.lookup i with
  | some (.int v) => some (pc + 3, lput lv i (.int (v + Int32.ofInt k)), st, h)
  | _ => none
def q_i2 (f : Int32 → Int32 → Int32) (pc : Nat) (lv : LV) (st : List Value) (h : List PE) : Option PS := match st with
  | .int y :: .int x :: r => some (pc + 1, lv, .int (f x y) :: r, h)
  | _ => none
def q_id (f : Int32 → Int32 → Int32) (pc : Nat) (lv : LV) (st : List Value) (h : List PE) : Option PS := match st with
  | .int y :: .int x :: r => if y = 0 then none else some (pc + 1, lv, .int (f x y) :: r, h)
  | _ => none
def q_l2 (f : Int64 → Int64 → Int64) (pc : Nat) (lv : LV) (st : List Value) (h : List PE) : Option PS := match st with
  | .long y :: .long x :: r => some (pc + 1, lv, .long (f x y) :: r, h)
  | _ => none
def q_ls (f : Int64 → Int32 → Int64) (pc : Nat) (lv : LV) (st : List Value) (h : List PE) : Option PS := match st with
  | .int y :: .long x :: r => some (pc + 1, lv, .long (f x y) :: r, h)
  | _ => none
def q_c1 (c : Int32 → Bool) (t : Nat) (pc : Nat) (lv : LV) (st : List Value) (h : List PE) : Option PS := match st with
  | .int x :: r => some (bif c x then t else pc + 3, lv, r, h)
  | _ => none
def q_c2 (c : Int32 → Int32 → Bool) (t : Nat) (pc : Nat) (lv : LV) (st : List Value) (h : List PE) : Option PS := match st with
  | .int y :: .int x :: r => some (bif c x y then t else pc + 3, lv, r, h)
  | _ => none
def q_tsw (dflt lo hi : Int) (offs : Array Int) (t : Nat) (pc : Nat) (lv : LV) (st : List Value) (h : List PE) : Option PS := match st with
  | .int x :: r => if x.toInt < lo ∨ hi < x.toInt then some (t, lv, r, h) else match offs[(x.toInt - lo).toNat]? with
    | some off => if 0 ≤ (pc : Int) + off then some (((pc : Int) + off).toNat, lv, r, h) else none
    | none => none
  | _ => none
def q_get (base c k : Nat) (pc : Nat) (lv : LV) (st : List Value) (h : List PE) : Option PS := match st with
  | .ref a :: r => match rd base h a with
    | some (.inr o) => if o.1 = c then match o.2[k]? with
      | some v => some (pc + 3, lv, v :: r, h)
      | none => none
      else none
    | _ => none
  | _ => none
def q_put (base c k : Nat) (pc : Nat) (lv : LV) (st : List Value) (h : List PE) : Option PS := match st with
  | v :: .ref a :: r => match rd base h a with
    | some (.inr o) => if o.1 = c ∧ k < o.2.length ∧ okv ((k_tg c).getD k 9) v = true then some (pc + 3, lv, r, wr base h a (.inr (c, o.2.set k v))) else none
    | _ => none
  | _ => none
def q_len (base : Nat) (sc : SC) (pc : Nat) (lv : LV) (st : List Value) (h : List PE) : Option PS := match st with
  | .ref a :: r => match rd base h a with
    | some (.inl x) => if x.1 < 6 then some (pc + 1, lv, .int (Int32.ofNat x.2.1) :: r, h) else none
    | some _ => none
    | none => match sc a with
      | some y => some (pc + 1, lv, .int (Int32.ofNat y.1) :: r, h)
      | none => none
  | _ => none
def q_iald (base : Nat) (sc : SC) (pc : Nat) (lv : LV) (st : List Value) (h : List PE) : Option PS := match st with
  | .int i :: .ref a :: r => match rd base h a with
    | some (.inl (t, n, .inl f)) => if t = 0 ∧ ¬ (i < 0 ∨ n ≤ i.toNatClampNeg) then some (pc + 1, lv, .int (f i.toNatClampNeg) :: r, h) else none
    | some _ => none
    | none => match sc a with
      | some y => if ¬ (i < 0 ∨ y.1 ≤ i.toNatClampNeg) then some (pc + 1, lv, .int (y.2 i.toNatClampNeg) :: r, h) else none
      | none => none
  | _ => none
def q_bald (base : Nat) (pc : Nat) (lv : LV) (st : List Value) (h : List PE) : Option PS := match st with
  | .int i :: .ref a :: r => match rd base h a with
    | some (.inl (t, n, .inl f)) => if t = 2 ∧ ¬ (i < 0 ∨ n ≤ i.toNatClampNeg) then some (pc + 1, lv, .int (f i.toNatClampNeg) :: r, h) else none
    | _ => none
  | _ => none
def q_lald (base : Nat) (pc : Nat) (lv : LV) (st : List Value) (h : List PE) : Option PS := match st with
  | .int i :: .ref a :: r => match rd base h a with
    | some (.inl (t, n, .inr (.inl f))) => if t = 1 ∧ ¬ (i < 0 ∨ n ≤ i.toNatClampNeg) then some (pc + 1, lv, .long (f i.toNatClampNeg) :: r, h) else none
    | _ => none
  | _ => none
def q_aald (base : Nat) (pc : Nat) (lv : LV) (st : List Value) (h : List PE) : Option PS := match st with
  | .int i :: .ref a :: r => match rd base h a with
    | some (.inl (t, n, .inr (.inr (.inr (.inr f))))) => if (3 ≤ t ∧ t < 6) ∧ ¬ (i < 0 ∨ n ≤ i.toNatClampNeg) then some (pc + 1, lv, va_rf (f i.toNatClampNeg) :: r, h) else none
    | _ => none
  | _ => none
def q_iast (base : Nat) (pc : Nat) (lv : LV) (st : List Value) (h : List PE) : Option PS := match st with
  | .int x :: .int i :: .ref a :: r => match rd base h a with
    | some (.inl (t, n, .inl f)) => if t = 0 ∧ ¬ (i < 0 ∨ n ≤ i.toNatClampNeg) then some (pc + 1, lv, r, wr base h a (.inl (0, n, .inl (upd f i.toNatClampNeg x)))) else none
    | _ => none
  | _ => none
def q_bast (base : Nat) (pc : Nat) (lv : LV) (st : List Value) (h : List PE) : Option PS := match st with
  | .int x :: .int i :: .ref a :: r => match rd base h a with
    | some (.inl (t, n, .inl f)) => if t = 2 ∧ ¬ (i < 0 ∨ n ≤ i.toNatClampNeg) then some (pc + 1, lv, r, wr base h a (.inl (2, n, .inl (upd f i.toNatClampNeg (vp_nar .boolean x))))) else none
    | _ => none
  | _ => none
def q_last (base : Nat) (pc : Nat) (lv : LV) (st : List Value) (h : List PE) : Option PS := match st with
  | .long x :: .int i :: .ref a :: r => match rd base h a with
    | some (.inl (t, n, .inr (.inl f))) => if t = 1 ∧ ¬ (i < 0 ∨ n ≤ i.toNatClampNeg) then some (pc + 1, lv, r, wr base h a (.inl (1, n, .inr (.inl (vp_updL f i.toNatClampNeg x))))) else none
    | _ => none
  | _ => none
def q_aast (base : Nat) (pc : Nat) (lv : LV) (st : List Value) (h : List PE) : Option PS := match st with
  | .ref v :: .int i :: .ref a :: r => match rd base h a, rd base h v with
    | some (.inl (t, n, .inr (.inr (.inr (.inr f))))), some (.inr o) => if ((3 ≤ t ∧ t < 6) ∧ k_te t = o.1) ∧ ¬ (i < 0 ∨ n ≤ i.toNatClampNeg) then some (pc + 1, lv, r, wr base h a (.inl (t, n, .inr (.inr (.inr (.inr (va_up f i.toNatClampNeg (some v)))))))) else none
    | _, _ => none
  | _ => none
def q_newa (base t : Nat) (pc : Nat) (lv : LV) (st : List Value) (h : List PE) : Option PS := match st with
  | .int n :: r => if ¬ n < 0 ∧ n.toNatClampNeg ≤ 10000 then some (pc + 2, lv, .ref (base + h.length) :: r, h ++ [.inl (t, narr t n.toNatClampNeg)]) else none
  | _ => none
def q_newq (base t : Nat) (pc : Nat) (lv : LV) (st : List Value) (h : List PE) : Option PS := match st with
  | .int n :: r => if ¬ n < 0 ∧ n.toNatClampNeg ≤ 10000 then some (pc + 3, lv, .ref (base + h.length) :: r, h ++ [.inl (t, n.toNatClampNeg, .inr (.inr (.inr (.inr (fun _ => none)))))]) else none
  | _ => none
def q_dup (pc : Nat) (lv : LV) (st : List Value) (h : List PE) : Option PS := match st with
  | v :: r => if v.category = 1 then some (pc + 1, lv, v :: v :: r, h) else none
  | _ => none
def q_dup2 (pc : Nat) (lv : LV) (st : List Value) (h : List PE) : Option PS := match st with
  | v :: w :: r => if v.category = 1 ∧ w.category = 1 then some (pc + 1, lv, v :: w :: v :: w :: r, h) else none
  | _ => none
def q_pop (pc : Nat) (lv : LV) (st : List Value) (h : List PE) : Option PS := match st with
  | v :: r => if v.category = 1 then some (pc + 1, lv, r, h) else none
  | _ => none
def q_pop2 (pc : Nat) (lv : LV) (st : List Value) (h : List PE) : Option PS := match st with
  | v :: r => if v.category = 2 then some (pc + 1, lv, r, h) else none
  | _ => none
def q_i2l (pc : Nat) (lv : LV) (st : List Value) (h : List PE) : Option PS := match st with
  | .int v :: r => some (pc + 1, lv, .long v.toInt64 :: r, h)
  | _ => none
def q_l2i (pc : Nat) (lv : LV) (st : List Value) (h : List PE) : Option PS := match st with
  | .long v :: r => some (pc + 1, lv, .int v.toInt32 :: r, h)
  | _ => none
def q_lcmp (pc : Nat) (lv : LV) (st : List Value) (h : List PE) : Option PS := match st with
  | .long y :: .long x :: r => some (pc + 1, lv, .int (lg_cmp x y) :: r, h)
  | _ => none
def q_nul (nn : Bool) (t : Nat) (pc : Nat) (lv : LV) (st : List Value) (h : List PE) : Option PS := match st with
  | .null :: r => some (bif nn then pc + 3 else t, lv, r, h)
  | .ref _ :: r => some (bif nn then t else pc + 3, lv, r, h)
  | _ => none
def stp (base : Nat) (sc : SC) (x : PI) : Nat → LV → List Value → List PE → Option PS := match x.1 with
  | .aconst_null => q_k 1 .null
  | .iconst n => q_k 1 (.int (Int32.ofInt n))
  | .bipush n => q_k 2 (.int (Int8.ofInt n).toInt32)
  | .sipush n => q_k 3 (.int (Int16.ofInt n).toInt32)
  | .lconst n => q_k 1 (.long (Int64.ofNat n.val))
  | .ldc2_w _ => q_k 3 (.long (Int64.ofNat x.2.2.1))
  | .iload i => q_ldi 2 i
  | .iload_n i => q_ldi 1 i.val
  | .lload i => q_ldl 2 i
  | .lload_n i => q_ldl 1 i.val
  | .aload i => q_lda 2 i
  | .aload_n i => q_lda 1 i.val
  | .istore i => q_sti 2 i
  | .istore_n i => q_sti 1 i.val
  | .lstore i => q_stl 2 i
  | .lstore_n i => q_stl 1 i.val
  | .astore i => q_sta 2 i
  | .astore_n i => q_sta 1 i.val
  | .iinc i k => q_inc i k
  | .iadd => q_i2 (fun x y => x + y)
  | .isub => q_i2 (fun x y => x - y)
  | .imul => q_i2 (fun x y => x * y)
  | .iand => q_i2 (fun x y => x &&& y)
  | .ior => q_i2 (fun x y => x ||| y)
  | .ixor => q_i2 (fun x y => x ^^^ y)
  | .ishl => q_i2 (fun x y => x <<< (y &&& 31))
  | .ishr => q_i2 (fun x y => x >>> (y &&& 31))
  | .iushr => q_i2 (fun x y => (x.toUInt32 >>> (y.toUInt32 &&& Int32.toUInt32 31)).toInt32)
  | .idiv => q_id (fun x y => x / y)
  | .irem => q_id (fun x y => x - x / y * y)
  | .lsub => q_l2 (fun x y => x - y)
  | .land => q_l2 (fun x y => x &&& y)
  | .lor => q_l2 (fun x y => x ||| y)
  | .lshl => q_ls (fun x y => x <<< (y.toInt64 &&& 63))
  | .lshr => q_ls (fun x y => x >>> (y.toInt64 &&& 63))
  | .lushr => q_ls (fun x y => (x.toUInt64 >>> (y.toInt64.toUInt64 &&& Int64.toUInt64 63)).toInt64)
  | .ifCond .eq _ => q_c1 (fun x => decide (x = 0)) x.2.2.1
  | .ifCond .ne _ => q_c1 (fun x => decide (¬ x = 0)) x.2.2.1
  | .ifCond .lt _ => q_c1 (fun x => decide (x < 0)) x.2.2.1
  | .ifCond .ge _ => q_c1 (fun x => decide (0 ≤ x)) x.2.2.1
  | .ifCond .gt _ => q_c1 (fun x => decide (0 < x)) x.2.2.1
  | .ifCond .le _ => q_c1 (fun x => decide (x ≤ 0)) x.2.2.1
  | .if_icmp .eq _ => q_c2 (fun x y => decide (x = y)) x.2.2.1
  | .if_icmp .ne _ => q_c2 (fun x y => decide (¬ x = y)) x.2.2.1
  | .if_icmp .lt _ => q_c2 (fun x y => decide (x < y)) x.2.2.1
  | .if_icmp .ge _ => q_c2 (fun x y => decide (y ≤ x)) x.2.2.1
  | .if_icmp .gt _ => q_c2 (fun x y => decide (y < x)) x.2.2.1
  | .if_icmp .le _ => q_c2 (fun x y => decide (x ≤ y)) x.2.2.1
  | .goto _ => fun _ lv st h => some (x.2.2.1, lv, st, h)
  | .ifnull _ => q_nul false x.2.2.1
  | .ifnonnull _ => q_nul true x.2.2.1
  | .tableswitch d lo hi offs => q_tsw d lo hi offs x.2.2.1
  | .getfield _ => q_get base x.2.2.1 x.2.2.2.1
  | .putfield _ => q_put base x.2.2.1 x.2.2.2.1
  | .arraylength => q_len base sc
  | .iaload => q_iald base sc
  | .baload => q_bald base
  | .laload => q_lald base
  | .aaload => q_aald base
  | .iastore => q_iast base
  | .bastore => q_bast base
  | .lastore => q_last base
  | .aastore => q_aast base
  | .newarray _ => q_newa base x.2.2.1
  | .anewarray _ => q_newq base x.2.2.1
  | .new _ => fun pc lv st h => some (pc + 3, lv, .ref (base + h.length) :: st, h ++ [.inr (x.2.2.1, k_df x.2.2.1)])
  | .dup => q_dup
  | .dup2 => q_dup2
  | .pop => q_pop
  | .pop2 => q_pop2
  | .i2l => q_i2l
  | .l2i => q_l2i
  | .lcmp => q_lcmp
  | _ => fun _ _ _ _ => none
/-- the answer of a return -/
def rtv (x : PI) (st : List Value) : Option (Option Value) := match x.1, st with
  | .ireturn, [.int v] => if okv x.2.2.1 (.int v) = true then some (some (.int v)) else none
  | .lreturn, [.long v] => some (some (.long v))
  | .areturn, [.ref a] => some (some (.ref a))
  | .areturn, [.null] => some (some .null)
  | .return_, [] => some none
  | _, _ => none
/-- a call: the callee, its arguments (the receiver first), what is left; none if it is no call that may be done -/
def cll (base : Nat) (x : PI) (st : List Value) (h : List PE) : Option (Nat × List Value × List Value) :=
  let k := x.2.2.2.1
  let rest := st.drop k
  match x.1 with
  | .invokestatic _ => if k ≤ st.length ∧ (rest.map Value.category).sum ≤ 8 then some (x.2.2.1, (st.take k).reverse, rest) else none
  | .invokevirtual _ => match rest with
    | .ref b :: r => match rd base h b, mts[x.2.2.1]? with
      | some (.inr o), some m => if (k_cl[o.1]?).map (·.1) = some m.1.cls ∧ (r.map Value.category).sum ≤ 8 then some (x.2.2.1, .ref b :: (st.take k).reverse, r) else none
      | _, _ => none
    | _ => none
  | .invokespecial _ => match rest with
    | .ref b :: r => if (r.map Value.category).sum ≤ 8 then some (x.2.2.1, .ref b :: (st.take k).reverse, r) else none
    | _ => none
  | _ => none
def isCall (x : PI) : Bool := match x.1 with
  | .invokestatic _ | .invokevirtual _ | .invokespecial _ => true
  | _ => false
def isRet (x : PI) : Bool := match x.1 with
  | .ireturn | .lreturn | .areturn | .return_ => true
  | _ => false
def mxl (M : Nat) : Nat := match mts[M]? with
  | some m => m.2.2.1
  | none => 0
def prun (base : Nat) : Nat → SC → Nat → Nat → Nat → LV → List Value → List PE → Option (Option Value × List PE)
  | 0, _, _, _, _, _, _, _ => none
  | n + 1, sc, d, M, pc, lv, st, h => match fetch M pc with
    | none => none
    | some x => bif isRet x then (rtv x st).map (fun v => (v, h)) else bif isCall x then (match cll base x st h with
        | none => none
        | some c => bif c.1 == 9999 then (if 1 ≤ d then prun base n sc d M (pc + 3) lv c.2.2 h else none) else bif c.1 == 9998 then (if 1 ≤ d then (match c.2.1 with
          | [.int x, .int y] => prun base n sc d M (pc + 3) lv (.int (if y < x then y else x) :: c.2.2) h
          | _ => none) else none) else (match d with
          | 0 => none
          | d' + 1 => if (lg_sl c.2.1).length ≤ mxl c.1 then (match prun base n (fun _ => none) d' c.1 0 (lv_args 0 c.2.1) [] h with
            | none => none
            | some r => prun base n sc (d' + 1) M (pc + 3) lv (r.1.toList ++ c.2.2) r.2) else none))
      else (match stp base sc x pc lv st h with
        | none => none
        | some t => prun base n sc d M t.1 t.2.1 t.2.2.1 t.2.2.2)
