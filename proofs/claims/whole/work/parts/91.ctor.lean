/-! Runs of constructors, by reckoning. -/
def cargs : Nat → List CV → CLV
  | _, [] => []
  | i, v :: vs => (i, v) :: cargs (if cc v = 2 then i + 2 else i + 1) vs
theorem cargs_ok (b sb : Nat) : ∀ (i : Nat) (as : List CV), lv_args i (as.map (ev b sb)) = el b sb (cargs i as)
  | _, [] => rfl
  | i, v :: vs => by
    show (i, ev b sb v) :: lv_args (if (ev b sb v).category = 2 then i + 2 else i + 1) (vs.map (ev b sb)) = (i, ev b sb v) :: el b sb (cargs (if cc v = 2 then i + 2 else i + 1) vs)
    rw [ev_cc, cargs_ok b sb _ vs]
theorem clen_ok (b sb : Nat) : ∀ as : List CV, (lg_sl (as.map (ev b sb))).length = (as.map cc).sum
  | [] => rfl
  | v :: vs => by
    have h := clen_ok b sb vs
    unfold lg_sl at h ⊢
    rw [List.map_cons, List.flatMap_cons, List.length_append, h, List.map_cons, List.sum_cons, ev_cc]
    have hc : cc v = 1 ∨ cc v = 2 := by
      rcases v with n | k | t
      · exact Or.inl rfl
      · exact Or.inl rfl
      · match t with
        | 0 => exact Or.inl rfl
        | 1 => exact Or.inr rfl
        | t + 2 => exact Or.inl rfl
    rcases hc with c | c
    · rw [c, if_neg (by decide)]; rfl
    · rw [c, if_pos rfl]; rfl
theorem csum_ok (b sb : Nat) (rr : List CV) : ((rr.map (ev b sb)).map Value.category).sum = (rr.map cc).sum := by
  rw [List.map_map]
  congr 1
  apply List.map_congr_left
  intro v _
  exact ev_cc b sb v
def ccall (x : PI) (st : List CV) : Option (List CV × List CV) := match x.1 with
  | .invokespecial _ => match st.drop x.2.2.2.1 with
    | .inr (.inl a) :: rr => if (rr.map cc).sum ≤ 8 then some (.inr (.inl a) :: (st.take x.2.2.2.1).reverse, rr) else none
    | _ => none
  | _ => none
theorem ccall_ok {b sb : Nat} {x : PI} {st as rr : List CV} {h : List PE} (e : ccall x st = some (as, rr)) : cll b x (st.map (ev b sb)) h = some (x.2.2.1, as.map (ev b sb), rr.map (ev b sb)) ∧ isRet x = false ∧ isCall x = true := by
  obtain ⟨op, z⟩ := x
  unfold ccall at e
  dsimp only at e
  split at e
  · split at e
    · rename_i a r hd
      split at e
      · rename_i hs
        cases e
        refine ⟨?_, rfl, rfl⟩
        unfold cll
        dsimp only
        rw [← List.map_drop, hd]
        show (if (((rr.map (ev b sb))).map Value.category).sum ≤ 8 then some (z.2.1, Value.ref (b + a) :: ((st.map (ev b sb)).take z.2.2.1).reverse, rr.map (ev b sb)) else none) = _
        rw [csum_ok, if_pos hs, ← List.map_take, ← List.map_reverse]
        rfl
      · cases e
    · cases e
  · cases e
def isR (x : PI) : Bool := match x.1 with
  | .return_ => true
  | _ => false
def crun : Nat → Nat → Nat → Nat → CLV → List CV → List CE → Option (List CE)
  | 0, _, _, _, _, _, _ => none
  | n + 1, d, M, pc, lv, st, h => match fetch M pc with
    | none => none
    | some x => bif isR x then (match st with
        | [] => some h
        | _ => none) else match ccall x st with
      | some c => if x.2.2.1 = 9999 then (if 1 ≤ d then crun n d M (pc + 3) lv c.2 h else none) else (match d with
        | 0 => none
        | d' + 1 => if x.2.2.1 < 9998 ∧ (c.1.map cc).sum ≤ mxl x.2.2.1 then (match crun n d' x.2.2.1 0 (cargs 0 c.1) [] h with
          | none => none
          | some h' => crun n (d' + 1) M (pc + 3) lv c.2 h') else none)
      | none => match cst x pc lv st h with
        | none => none
        | some t => crun n d M t.1 t.2.1 t.2.2.1 t.2.2.2
theorem crun_ok {b sb : Nat} {Q : Option Value → List PE → Prop} : ∀ (n : Nat) (sc : SC) (d M pc : Nat) (lv : CLV) (st : List CV) (h h' : List CE), crun n d M pc lv st h = some h' → Rn b sc d M pc (el b sb lv) (st.map (ev b sb)) (h.map (ee b sb)) (fun r k => r = none ∧ k = h'.map (ee b sb)) := by
  intro n
  induction n with
  | zero => intro sc d M pc lv st h h' e; cases e
  | succ n ih =>
    intro sc d M pc lv st h h' e
    unfold crun at e
    split at e
    · cases e
    · rename_i x hf
      cases hr : isR x with
      | true =>
        rw [hr] at e
        simp only [cond_true] at e
        split at e
        · cases e
          obtain ⟨op, z⟩ := x
          unfold isR at hr
          dsimp only at hr
          split at hr
          · exact Rn.ret hf rfl (v := none) rfl ⟨rfl, rfl⟩
          · cases hr
        · cases e
      | false =>
        rw [hr] at e
        simp only [cond_false] at e
        split at e
        · rename_i c hc
          obtain ⟨as, rr⟩ := c
          obtain ⟨g1, g2, g3⟩ := ccall_ok (b := b) (sb := sb) (h := h.map (ee b sb)) hc
          split at e
          · rename_i h9
            split at e
            · rename_i hd
              rw [h9] at g1
              exact Rn.obj hf g2 g3 g1 hd (ih sc d M (pc + 3) lv rr h h' e)
            · cases e
          · split at e
            · cases e
            · rename_i d'
              split at e
              · rename_i hm
                split at e
                · cases e
                · rename_i h1 hh
                  refine Rn.call hf g2 g3 g1 hm.1 (by rw [clen_ok]; exact hm.2) ?_
                  have k1 := ih (fun _ => none) d' x.2.2.1 0 (cargs 0 as) [] h h1 hh
                  unfold Cl
                  rw [cargs_ok]
                  refine Rn.mono k1 (fun r0 k0 hk => ?_)
                  rw [hk.1, hk.2]
                  exact ih sc (d' + 1) M (pc + 3) lv rr h1 h' e
              · cases e
        · split at e
          · cases e
          · rename_i t ht
            obtain ⟨g1, g2, g3⟩ := cst_ok (b := b) (sb := sb) (sc := sc) ht
            exact Rn.stp hf g2 g3 g1 (ih sc d M t.1 t.2.1 t.2.2.1 t.2.2.2 h' e)
/-- the law up to its loop -/
def cto : Nat → Nat → Nat → CLV → List CV → List CE → Option (CLV × List CV × List CE)
  | 0, _, _, _, _, _ => none
  | n + 1, d, pc, lv, st, h => if pc = 18 then some (lv, st, h) else match fetch 0 pc with
    | none => none
    | some x => match ccall x st with
      | some c => (match d with
        | 0 => none
        | d' + 1 => if x.2.2.1 < 9998 ∧ (c.1.map cc).sum ≤ mxl x.2.2.1 then (match crun 1000 d' x.2.2.1 0 (cargs 0 c.1) [] h with
          | none => none
          | some h' => cto n (d' + 1) (pc + 3) lv c.2 h') else none)
      | none => match cst x pc lv st h with
        | none => none
        | some t => cto n d t.1 t.2.1 t.2.2.1 t.2.2.2
theorem cto_ok {b sb : Nat} {sc : SC} {Q : Option Value → List PE → Prop} : ∀ (n : Nat) (d pc : Nat) (lv : CLV) (st : List CV) (h : List CE) (r : CLV × List CV × List CE), cto n d pc lv st h = some r → Rn b sc d 0 18 (el b sb r.1) (r.2.1.map (ev b sb)) (r.2.2.map (ee b sb)) Q → Rn b sc d 0 pc (el b sb lv) (st.map (ev b sb)) (h.map (ee b sb)) Q := by
  intro n
  induction n with
  | zero => intro d pc lv st h r e; cases e
  | succ n ih =>
    intro d pc lv st h r e k
    unfold cto at e
    split at e
    · rename_i hp
      cases e
      rw [hp]
      exact k
    · split at e
      · cases e
      · rename_i x hf
        split at e
        · rename_i c hc
          obtain ⟨as, rr⟩ := c
          obtain ⟨g1, g2, g3⟩ := ccall_ok (b := b) (sb := sb) (h := h.map (ee b sb)) hc
          split at e
          · cases e
          · rename_i d'
            split at e
            · rename_i hm
              split at e
              · cases e
              · rename_i h1 hh
                refine Rn.call hf g2 g3 g1 hm.1 (by rw [clen_ok]; exact hm.2) ?_
                have k1 := crun_ok (b := b) (sb := sb) (Q := Q) 1000 (fun _ => none) d' x.2.2.1 0 (cargs 0 as) [] h h1 hh
                unfold Cl
                rw [cargs_ok]
                refine Rn.mono k1 (fun r0 k0 hk => ?_)
                rw [hk.1, hk.2]
                exact ih (d' + 1) (pc + 3) lv rr h1 r e k
            · cases e
        · split at e
          · cases e
          · rename_i t ht
            obtain ⟨g1, g2, g3⟩ := cst_ok (b := b) (sb := sb) (sc := sc) ht
            exact Rn.stp hf g2 g3 g1 (ih d t.1 t.2.1 t.2.2.1 t.2.2.2 r e k)
