/-! The constructors, by reckoning: cells named by their places, wherever the heap begins. -/
abbrev CV : Type := Nat ⊕ Nat ⊕ Nat
abbrev CE : Type := (Nat × List CV) ⊕ (Nat × Nat) ⊕ (Nat × Nat × List (Nat × Nat))
abbrev CLV : Type := List (Nat × CV)
abbrev CS : Type := Nat × CLV × List CV × List CE
def ev (b sb : Nat) : CV → Value
  | .inl n => .int (Int32.ofNat n)
  | .inr (.inl k) => .ref (b + k)
  | .inr (.inr 0) => .null
  | .inr (.inr 1) => .long 0
  | .inr (.inr _) => .ref sb
def ee (b sb : Nat) : CE → PE
  | .inl (c, fs) => .inr (c, fs.map (ev b sb))
  | .inr (.inl (t, n)) => .inl (t, narr t n)
  | .inr (.inr (t, n, es)) => .inl (t, n, .inr (.inr (.inr (.inr (fun j => (es.lookup j).map (fun k => b + k))))))
def el (b sb : Nat) (lv : CLV) : LV := lv.map (fun q => (q.1, ev b sb q.2))
def emt (b sb : Nat) (t : CS) : PS := (t.1, el b sb t.2.1, t.2.2.1.map (ev b sb), t.2.2.2.map (ee b sb))
def cc : CV → Nat
  | .inr (.inr 1) => 2
  | _ => 1
theorem ev_cc (b sb : Nat) (v : CV) : (ev b sb v).category = cc v := by
  rcases v with n | k | t
  · rfl
  · rfl
  · match t with
    | 0 => rfl
    | 1 => rfl
    | t + 2 => rfl
def uv : Value → CV
  | .int _ => .inl 0
  | .long _ => .inr (.inr 1)
  | _ => .inr (.inr 0)
def cdf (c : Nat) : List CV := (k_df c).map uv
theorem cdf_ok (b sb c : Nat) : (cdf c).map (ev b sb) = k_df c := by
  match c with
  | 0 => rfl
  | 1 => rfl
  | 2 => rfl
  | 3 => rfl
  | 4 => rfl
  | 5 => rfl
  | 6 => rfl
  | 7 => rfl
  | c + 8 => rfl
def clput (lv : CLV) (i : Nat) (v : CV) : CLV := (i, v) :: lv.filter (fun q => !(q.1 == i) && !(q.1 + 1 == i && cc q.2 == 2))
theorem clput_ok (b sb : Nat) (lv : CLV) (i : Nat) (v : CV) : lput (el b sb lv) i (ev b sb v) = el b sb (clput lv i v) := by
  unfold lput clput el
  rw [List.map_cons, List.filter_map]
  congr 2
  apply List.filter_congr
  intro q _
  simp only [Function.comp, ev_cc]
theorem el_look (b sb : Nat) (i : Nat) : ∀ lv : CLV, (el b sb lv).lookup i = (lv.lookup i).map (ev b sb)
  | [] => rfl
  | q :: lv => by
    show List.lookup i ((q.1, ev b sb q.2) :: el b sb lv) = _
    rw [List.lookup_cons, List.lookup_cons, el_look b sb i lv]
    cases i == q.1 <;> rfl
theorem ee_rd (b sb : Nat) (h : List CE) (k : Nat) : rd b (h.map (ee b sb)) (b + k) = (h[k]?).map (ee b sb) := by
  unfold rd
  rw [if_pos (Nat.le_add_right _ _), Nat.add_sub_cancel_left, List.getElem?_map]
theorem ee_wr (b sb : Nat) (h : List CE) (k : Nat) (e : CE) : wr b (h.map (ee b sb)) (b + k) (ee b sb e) = (h.set k e).map (ee b sb) := by
  unfold wr
  rw [Nat.add_sub_cancel_left, List.map_set]
def c_k (n : Nat) (v : Int32) (w : Nat) (pc : Nat) (lv : CLV) (st : List CV) (h : List CE) : Option CS := if v = Int32.ofNat w then some (pc + n, lv, .inl w :: st, h) else none
def c_ldi (n i : Nat) (pc : Nat) (lv : CLV) (st : List CV) (h : List CE) : Option CS := match lv.lookup i with
  | some (.inl v) => some (pc + n, lv, .inl v :: st, h)
  | _ => none
def c_lda (n i : Nat) (pc : Nat) (lv : CLV) (st : List CV) (h : List CE) : Option CS := match lv.lookup i with
  | some (.inr (.inl v)) => some (pc + n, lv, .inr (.inl v) :: st, h)
  | _ => none
def c_sti (n i : Nat) (pc : Nat) (lv : CLV) (st : List CV) (h : List CE) : Option CS := match st with
  | .inl v :: r => some (pc + n, clput lv i (.inl v), r, h)
  | _ => none
def c_sta (n i : Nat) (pc : Nat) (lv : CLV) (st : List CV) (h : List CE) : Option CS := match st with
  | .inr (.inl v) :: r => some (pc + n, clput lv i (.inr (.inl v)), r, h)
  | _ => none
def c_inc (i : Nat) (k : Int) (pc : Nat) (lv : CLV) (st : List CV) (h : List CE) : Option CS := match lv.lookup i with
  | some (.inl v) => if Int32.ofNat v + Int32.ofInt k = Int32.ofNat (v + k.toNat) then some (pc + 3, clput lv i (.inl (v + k.toNat)), st, h) else none
  | _ => none
def c_mul (pc : Nat) (lv : CLV) (st : List CV) (h : List CE) : Option CS := match st with
  | .inl y :: .inl x :: r => some (pc + 1, lv, .inl (x * y) :: r, h)
  | _ => none
def c_ge (t : Nat) (pc : Nat) (lv : CLV) (st : List CV) (h : List CE) : Option CS := match st with
  | .inl y :: .inl x :: r => if x < 2147483648 ∧ y < 2147483648 then some (if y ≤ x then t else pc + 3, lv, r, h) else none
  | _ => none
def c_get (c k : Nat) (pc : Nat) (lv : CLV) (st : List CV) (h : List CE) : Option CS := match st with
  | .inr (.inl a) :: r => match h[a]? with
    | some (.inl (c', fs)) => if c' = c then match fs[k]? with
      | some v => some (pc + 3, lv, v :: r, h)
      | none => none
      else none
    | _ => none
  | _ => none
def cok (t : Nat) (v : CV) : Bool := match t, v with
  | 0, .inl _ => true
  | 2, .inl n => n == 0 || n == 1
  | 3, .inr (.inl _) => true
  | _, _ => false
theorem cok_ok {b sb t : Nat} {v : CV} (h : cok t v = true) : okv t (ev b sb v) = true := by
  unfold cok at h
  split at h
  · rfl
  · rename_i n
    rw [Bool.or_eq_true, beq_iff_eq, beq_iff_eq] at h
    rcases h with h | h
    · rw [h]; rfl
    · rw [h]; rfl
  · rfl
  · cases h
def c_put (c k : Nat) (pc : Nat) (lv : CLV) (st : List CV) (h : List CE) : Option CS := match st with
  | v :: .inr (.inl a) :: r => match h[a]? with
    | some (.inl (c', fs)) => if c' = c ∧ k < fs.length ∧ cok ((k_tg c).getD k 9) v = true then some (pc + 3, lv, r, h.set a (.inl (c, (fs.set k v)))) else none
    | _ => none
  | _ => none
def c_aald (pc : Nat) (lv : CLV) (st : List CV) (h : List CE) : Option CS := match st with
  | .inl j :: .inr (.inl a) :: r => match h[a]? with
    | some (.inr (.inr (t, n, es))) => if (3 ≤ t ∧ t < 6) ∧ j < n ∧ j < 2147483648 then match es.lookup j with
      | some k => some (pc + 1, lv, .inr (.inl k) :: r, h)
      | none => none
      else none
    | _ => none
  | _ => none
def c_aast (pc : Nat) (lv : CLV) (st : List CV) (h : List CE) : Option CS := match st with
  | .inr (.inl v) :: .inl j :: .inr (.inl a) :: r => match h[a]?, h[v]? with
    | some (.inr (.inr (t, n, es))), some (.inl (c, _)) => if ((3 ≤ t ∧ t < 6) ∧ k_te t = c) ∧ j < n ∧ j < 2147483648 then some (pc + 1, lv, r, h.set a (.inr (.inr (t, n, ((j, v) :: es))))) else none
    | _, _ => none
  | _ => none
def c_newa (t : Nat) (pc : Nat) (lv : CLV) (st : List CV) (h : List CE) : Option CS := match st with
  | .inl n :: r => if n ≤ 10000 then some (pc + 2, lv, .inr (.inl h.length) :: r, h ++ [.inr (.inl (t, n))]) else none
  | _ => none
def c_newq (t : Nat) (pc : Nat) (lv : CLV) (st : List CV) (h : List CE) : Option CS := match st with
  | .inl n :: r => if n ≤ 10000 then some (pc + 3, lv, .inr (.inl h.length) :: r, h ++ [.inr (.inr (t, n, []))]) else none
  | _ => none
def c_new (c : Nat) (pc : Nat) (lv : CLV) (st : List CV) (h : List CE) : Option CS := some (pc + 3, lv, .inr (.inl h.length) :: st, h ++ [.inl (c, (cdf c))])
def c_dup (pc : Nat) (lv : CLV) (st : List CV) (h : List CE) : Option CS := match st with
  | v :: r => if cc v = 1 then some (pc + 1, lv, v :: v :: r, h) else none
  | _ => none
def cst (x : PI) : Nat → CLV → List CV → List CE → Option CS := match x.1 with
  | .iconst n => c_k 1 (Int32.ofInt n) n.toNat
  | .bipush n => c_k 2 (Int8.ofInt n).toInt32 n.toNat
  | .sipush n => c_k 3 (Int16.ofInt n).toInt32 n.toNat
  | .iload i => c_ldi 2 i
  | .iload_n i => c_ldi 1 i.val
  | .aload i => c_lda 2 i
  | .aload_n i => c_lda 1 i.val
  | .istore i => c_sti 2 i
  | .istore_n i => c_sti 1 i.val
  | .astore i => c_sta 2 i
  | .astore_n i => c_sta 1 i.val
  | .iinc i k => c_inc i k
  | .imul => c_mul
  | .if_icmp .ge _ => c_ge x.2.2.1
  | .goto _ => fun _ lv st h => some (x.2.2.1, lv, st, h)
  | .getfield _ => c_get x.2.2.1 x.2.2.2.1
  | .putfield _ => c_put x.2.2.1 x.2.2.2.1
  | .aaload => c_aald
  | .aastore => c_aast
  | .newarray _ => c_newa x.2.2.1
  | .anewarray _ => c_newq x.2.2.1
  | .new _ => c_new x.2.2.1
  | .dup => c_dup
  | _ => fun _ _ _ _ => none
section CK
variable {b sb : Nat} {pc : Nat} {lv : CLV} {st : List CV} {h : List CE} {t : CS}
theorem ck_k {n w : Nat} {v : Int32} (e : c_k n v w pc lv st h = some t) : q_k n (.int v) pc (el b sb lv) (st.map (ev b sb)) (h.map (ee b sb)) = some (emt b sb t) := by
  unfold c_k at e
  split at e
  · rename_i hv
    cases e
    rw [hv]
    rfl
  · cases e
theorem ck_ldi {n i : Nat} (e : c_ldi n i pc lv st h = some t) : q_ldi n i pc (el b sb lv) (st.map (ev b sb)) (h.map (ee b sb)) = some (emt b sb t) := by
  unfold c_ldi at e
  unfold q_ldi
  split at e
  · rename_i v hv
    cases e
    rw [el_look, hv]
    rfl
  · cases e
theorem ck_lda {n i : Nat} (e : c_lda n i pc lv st h = some t) : q_lda n i pc (el b sb lv) (st.map (ev b sb)) (h.map (ee b sb)) = some (emt b sb t) := by
  unfold c_lda at e
  unfold q_lda
  split at e
  · rename_i v hv
    cases e
    rw [el_look, hv]
    rfl
  · cases e
theorem ck_sti {n i : Nat} (e : c_sti n i pc lv st h = some t) : q_sti n i pc (el b sb lv) (st.map (ev b sb)) (h.map (ee b sb)) = some (emt b sb t) := by
  unfold c_sti at e
  split at e
  · rename_i v r
    cases e
    show some (pc + n, lput (el b sb lv) i (ev b sb (.inl v)), _, _) = _
    rw [clput_ok]
    rfl
  · cases e
theorem ck_sta {n i : Nat} (e : c_sta n i pc lv st h = some t) : q_sta n i pc (el b sb lv) (st.map (ev b sb)) (h.map (ee b sb)) = some (emt b sb t) := by
  unfold c_sta at e
  split at e
  · rename_i v r
    cases e
    show some (pc + n, lput (el b sb lv) i (ev b sb (.inr (.inl v))), _, _) = _
    rw [clput_ok]
    rfl
  · cases e
theorem ck_inc {i : Nat} {k : Int} (e : c_inc i k pc lv st h = some t) : q_inc i k pc (el b sb lv) (st.map (ev b sb)) (h.map (ee b sb)) = some (emt b sb t) := by
  unfold c_inc at e
  unfold q_inc
  split at e
  · rename_i v hv
    split at e
    · rename_i hk
      cases e
      rw [el_look, hv]
      show some (pc + 3, lput (el b sb lv) i (.int (Int32.ofNat v + Int32.ofInt k)), _, _) = _
      rw [hk]
      show some (pc + 3, lput (el b sb lv) i (ev b sb (.inl (v + k.toNat))), _, _) = _
      rw [clput_ok]
      rfl
    · cases e
  · cases e
theorem ck_mul (e : c_mul pc lv st h = some t) : q_i2 (fun x y => x * y) pc (el b sb lv) (st.map (ev b sb)) (h.map (ee b sb)) = some (emt b sb t) := by
  unfold c_mul at e
  split at e
  · rename_i y x r
    cases e
    show some (pc + 1, _, Value.int (Int32.ofNat x * Int32.ofNat y) :: _, _) = _
    rw [n_mul]
    rfl
  · cases e
theorem ck_ge {t' : Nat} (e : c_ge t' pc lv st h = some t) : q_c2 (fun x y => decide (y ≤ x)) t' pc (el b sb lv) (st.map (ev b sb)) (h.map (ee b sb)) = some (emt b sb t) := by
  unfold c_ge at e
  split at e
  · rename_i y x r
    split at e
    · rename_i hb
      cases e
      show some (bif decide (Int32.ofNat y ≤ Int32.ofNat x) then t' else pc + 3, _, _, _) = _
      by_cases c : y ≤ x
      · rw [decide_eq_true ((n_le hb.2 hb.1).mpr c), if_pos c]
        rfl
      · rw [decide_eq_false (fun z => c ((n_le hb.2 hb.1).mp z)), if_neg c]
        rfl
    · cases e
  · cases e
theorem ck_get {c k : Nat} (e : c_get c k pc lv st h = some t) : q_get b c k pc (el b sb lv) (st.map (ev b sb)) (h.map (ee b sb)) = some (emt b sb t) := by
  unfold c_get at e
  split at e
  · rename_i a r
    split at e
    · rename_i c' fs hc
      split at e
      · rename_i ec
        split at e
        · rename_i v hv
          cases e
          show q_get b c k pc _ (.ref (b + a) :: r.map (ev b sb)) _ = _
          unfold q_get
          dsimp only
          rw [ee_rd, hc]
          show (if c' = c then (match (fs.map (ev b sb))[k]? with | some v => some (pc + 3, _, v :: _, _) | none => none) else none) = _
          rw [if_pos ec, List.getElem?_map, hv]
          rfl
        · cases e
      · cases e
    · cases e
  · cases e
theorem ck_put {c k : Nat} (e : c_put c k pc lv st h = some t) : q_put b c k pc (el b sb lv) (st.map (ev b sb)) (h.map (ee b sb)) = some (emt b sb t) := by
  unfold c_put at e
  split at e
  · rename_i v a r
    split at e
    · rename_i c' fs hc
      split at e
      · rename_i ec
        cases e
        show q_put b c k pc _ (ev b sb v :: .ref (b + a) :: r.map (ev b sb)) _ = _
        unfold q_put
        dsimp only
        rw [ee_rd, hc]
        show (if c' = c ∧ k < (fs.map (ev b sb)).length ∧ okv ((k_tg c).getD k 9) (ev b sb v) = true then some (pc + 3, _, _, wr b _ (b + a) (.inr (c, (fs.map (ev b sb)).set k (ev b sb v)))) else none) = _
        rw [if_pos ⟨ec.1, by rw [List.length_map]; exact ec.2.1, cok_ok ec.2.2⟩, ← List.map_set]
        show some (pc + 3, _, _, wr b _ (b + a) (ee b sb (.inl (c, (fs.set k v))))) = _
        rw [ee_wr]
        rfl
      · cases e
    · cases e
  · cases e
theorem ck_idx {j n : Nat} (h1 : j < n) (h2 : j < 2147483648) : ¬ (Int32.ofNat j < 0 ∨ n ≤ (Int32.ofNat j).toNatClampNeg) := by
  simp (disch := omega) only [lit32, n_nl0, n_cl, false_or, ite_true, ite_false, if_true, if_false, Bool.false_eq_true, and_self, and_true, true_and, and_false, false_and]
  omega
theorem ck_aald (e : c_aald pc lv st h = some t) : q_aald b pc (el b sb lv) (st.map (ev b sb)) (h.map (ee b sb)) = some (emt b sb t) := by
  unfold c_aald at e
  split at e
  · rename_i j a r
    split at e
    · rename_i t' n es hc
      split at e
      · rename_i ec
        split at e
        · rename_i k hk
          cases e
          show q_aald b pc _ (.int (Int32.ofNat j) :: .ref (b + a) :: r.map (ev b sb)) _ = _
          unfold q_aald
          dsimp only
          rw [ee_rd, hc]
          show (if (3 ≤ t' ∧ t' < 6) ∧ ¬ (Int32.ofNat j < 0 ∨ n ≤ (Int32.ofNat j).toNatClampNeg) then some (pc + 1, _, va_rf ((es.lookup (Int32.ofNat j).toNatClampNeg).map (fun k => b + k)) :: _, _) else none) = _
          rw [if_pos ⟨ec.1, ck_idx ec.2.1 ec.2.2⟩, n_cl ec.2.2, hk]
          rfl
        · cases e
      · cases e
    · cases e
  · cases e
theorem ck_aast (e : c_aast pc lv st h = some t) : q_aast b pc (el b sb lv) (st.map (ev b sb)) (h.map (ee b sb)) = some (emt b sb t) := by
  unfold c_aast at e
  split at e
  · rename_i v j a r
    split at e
    · rename_i t' n es c fs hc hv
      split at e
      · rename_i ec
        cases e
        show q_aast b pc _ (.ref (b + v) :: .int (Int32.ofNat j) :: .ref (b + a) :: r.map (ev b sb)) _ = _
        unfold q_aast
        dsimp only
        rw [ee_rd, ee_rd, hc, hv]
        show (if ((3 ≤ t' ∧ t' < 6) ∧ k_te t' = c) ∧ ¬ (Int32.ofNat j < 0 ∨ n ≤ (Int32.ofNat j).toNatClampNeg) then some (pc + 1, _, _, wr b _ (b + a) (.inl (t', n, .inr (.inr (.inr (.inr (va_up (fun j => (es.lookup j).map (fun k => b + k)) (Int32.ofNat j).toNatClampNeg (some (b + v))))))))) else none) = _
        have ef : va_up (fun j => (es.lookup j).map (fun k => b + k)) j (some (b + v)) = fun i => (((j, v) :: es).lookup i).map (fun k => b + k) := by
          funext i
          unfold va_up
          rw [List.lookup_cons]
          by_cases c : i = j
          · rw [if_pos c, beq_iff_eq.mpr c]
            rfl
          · rw [if_neg c, beq_eq_false_iff_ne.mpr c]
        rw [if_pos ⟨ec.1, ck_idx ec.2.1 ec.2.2⟩, n_cl ec.2.2, ef]
        show some (pc + 1, _, _, wr b _ (b + a) (ee b sb (.inr (.inr (t', n, ((j, v) :: es)))))) = _
        rw [ee_wr]
        rfl
      · cases e
    · cases e
  · cases e
theorem ck_nn {n : Nat} (h : n ≤ 10000) : ¬ Int32.ofNat n < 0 ∧ (Int32.ofNat n).toNatClampNeg ≤ 10000 := by
  simp (disch := omega) only [lit32, n_nl0, n_cl, not_false_eq_true, true_and, ite_true, ite_false, if_true, if_false, Bool.false_eq_true, and_self, and_true, true_and, and_false, false_and]
  exact h
theorem ck_newa {t' : Nat} (e : c_newa t' pc lv st h = some t) : q_newa b t' pc (el b sb lv) (st.map (ev b sb)) (h.map (ee b sb)) = some (emt b sb t) := by
  unfold c_newa at e
  split at e
  · rename_i n r
    split at e
    · rename_i hn
      cases e
      show (if ¬ Int32.ofNat n < 0 ∧ (Int32.ofNat n).toNatClampNeg ≤ 10000 then some (pc + 2, _, Value.ref (b + (h.map (ee b sb)).length) :: _, h.map (ee b sb) ++ [.inl (t', narr t' (Int32.ofNat n).toNatClampNeg)]) else none) = _
      rw [if_pos (ck_nn hn), n_cl (by omega), List.length_map]
      show _ = some (pc + 2, _, _, (h ++ ([.inr (.inl (t', n))] : List CE)).map (ee b sb))
      rw [List.map_append]
      rfl
    · cases e
  · cases e
theorem ck_newq {t' : Nat} (e : c_newq t' pc lv st h = some t) : q_newq b t' pc (el b sb lv) (st.map (ev b sb)) (h.map (ee b sb)) = some (emt b sb t) := by
  unfold c_newq at e
  split at e
  · rename_i n r
    split at e
    · rename_i hn
      cases e
      show (if ¬ Int32.ofNat n < 0 ∧ (Int32.ofNat n).toNatClampNeg ≤ 10000 then some (pc + 3, _, Value.ref (b + (h.map (ee b sb)).length) :: _, h.map (ee b sb) ++ [.inl (t', (Int32.ofNat n).toNatClampNeg, .inr (.inr (.inr (.inr (fun _ => none)))))]) else none) = _
      rw [if_pos (ck_nn hn), n_cl (by omega), List.length_map]
      show _ = some (pc + 3, _, _, (h ++ ([.inr (.inr (t', n, []))] : List CE)).map (ee b sb))
      rw [List.map_append]
      rfl
    · cases e
  · cases e
theorem ck_dup (e : c_dup pc lv st h = some t) : q_dup pc (el b sb lv) (st.map (ev b sb)) (h.map (ee b sb)) = some (emt b sb t) := by
  unfold c_dup at e
  split at e
  · rename_i v r
    split at e
    · rename_i hc
      cases e
      show (if (ev b sb v).category = 1 then some (pc + 1, _, ev b sb v :: ev b sb v :: _, _) else none) = _
      rw [ev_cc, if_pos hc]
      rfl
    · cases e
  · cases e
theorem cst_ok {sc : SC} {x : PI} (e : cst x pc lv st h = some t) : stp b sc x pc (el b sb lv) (st.map (ev b sb)) (h.map (ee b sb)) = some (emt b sb t) ∧ isRet x = false ∧ isCall x = false := by
  obtain ⟨op, z⟩ := x
  unfold cst at e
  dsimp only at e
  split at e
  · exact ⟨ck_k e, rfl, rfl⟩
  · exact ⟨ck_k e, rfl, rfl⟩
  · exact ⟨ck_k e, rfl, rfl⟩
  · exact ⟨ck_ldi e, rfl, rfl⟩
  · exact ⟨ck_ldi e, rfl, rfl⟩
  · exact ⟨ck_lda e, rfl, rfl⟩
  · exact ⟨ck_lda e, rfl, rfl⟩
  · exact ⟨ck_sti e, rfl, rfl⟩
  · exact ⟨ck_sti e, rfl, rfl⟩
  · exact ⟨ck_sta e, rfl, rfl⟩
  · exact ⟨ck_sta e, rfl, rfl⟩
  · exact ⟨ck_inc e, rfl, rfl⟩
  · exact ⟨ck_mul e, rfl, rfl⟩
  · exact ⟨ck_ge e, rfl, rfl⟩
  · cases e
    exact ⟨rfl, rfl, rfl⟩
  · exact ⟨ck_get e, rfl, rfl⟩
  · exact ⟨ck_put e, rfl, rfl⟩
  · exact ⟨ck_aald e, rfl, rfl⟩
  · exact ⟨ck_aast e, rfl, rfl⟩
  · exact ⟨ck_newa e, rfl, rfl⟩
  · exact ⟨ck_newq e, rfl, rfl⟩
  · unfold c_new at e
    cases e
    refine ⟨?_, rfl, rfl⟩
    show some (pc + 3, _, Value.ref (b + (h.map (ee b sb)).length) :: _, h.map (ee b sb) ++ [.inr (_, k_df _)]) = some (pc + 3, _, _, (h ++ ([.inl (_, cdf _)] : List CE)).map (ee b sb))
    rw [List.length_map, List.map_append, ← cdf_ok b sb]
    rfl
  · exact ⟨ck_dup e, rfl, rfl⟩
  · cases e
end CK
