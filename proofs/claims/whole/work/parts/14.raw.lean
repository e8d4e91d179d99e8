/-! The constructors, on the raw heap: the object at place k of h, new cells behind it. -/
section CT
variable {b : Nat} {sc : SC} {d M pc : Nat} {lv : LV} {st : List Value} {h L : List PE} {X : PE} {k : Nat} {Q : Option Value → List PE → Prop} {i a0 r2 r3 : Nat}
theorem x_rdk (hk : k < h.length) : rd b (h.set k X ++ L) (b + k) = some X := by
  unfold rd
  rw [if_pos (Nat.le_add_right _ _), Nat.add_sub_cancel_left, List.getElem?_append_left (by rw [List.length_set]; exact hk), List.getElem?_set_self hk]
theorem x_rdL {j : Nat} {e : PE} (hj : L[j]? = some e) : rd b (h.set k X ++ L) (b + (h.length + j)) = some e := by
  unfold rd
  rw [if_pos (Nat.le_add_right _ _), Nat.add_sub_cancel_left, List.getElem?_append_right (by rw [List.length_set]; omega), List.length_set, show h.length + j - h.length = j by omega, hj]
theorem x_rdO {j : Nat} {e : PE} (hj : h[j]? = some e) (hne : k ≠ j) : rd b (h.set k X ++ L) (b + j) = some e := by
  have hl : j < h.length := (List.getElem?_eq_some_iff.mp hj).1
  unfold rd
  rw [if_pos (Nat.le_add_right _ _), Nat.add_sub_cancel_left, List.getElem?_append_left (by rw [List.length_set]; exact hl), List.getElem?_set_ne hne, hj]
theorem x_wrk {Y : PE} (hk : k < h.length) : wr b (h.set k X ++ L) (b + k) Y = h.set k Y ++ L := by
  unfold wr
  rw [Nat.add_sub_cancel_left, List.set_append_left _ _ (by rw [List.length_set]; exact hk), List.set_set]
theorem x_wrL {j : Nat} {Y : PE} : wr b (h.set k X ++ L) (b + (h.length + j)) Y = h.set k X ++ L.set j Y := by
  unfold wr
  rw [Nat.add_sub_cancel_left, List.set_append_right _ _ (by rw [List.length_set]; omega), List.length_set, show h.length + j - h.length = j by omega]
theorem x_len : (h.set k X ++ L).length = h.length + L.length := by rw [List.length_append, List.length_set]
theorem x_in {e : PE} (hk : h[k]? = some e) : h = h.set k e ++ [] := by
  rw [List.append_nil]
  refine (List.ext_getElem? fun j => ?_)
  by_cases hj : k = j
  · subst hj
    rw [List.getElem?_set_self (List.getElem?_eq_some_iff.mp hk).1, hk]
  · rw [List.getElem?_set_ne hj]
theorem x_put {c f : Nat} {fs : List Value} {v : Value} (hk : k < h.length) (hf : fetch M pc = some (.putfield i, a0, c, f, r3)) (hl : f < fs.length) (hok : okv ((k_tg c).getD f 9) v = true) (kk : Rn b sc d M (pc + 3) lv st (h.set k (.inr (c, fs.set f v)) ++ L) Q) : Rn b sc d M pc lv (v :: .ref (b + k) :: st) (h.set k (.inr (c, fs)) ++ L) Q := by
  refine Rn.stp hf rfl rfl (t := (pc + 3, lv, st, h.set k (.inr (c, fs.set f v)) ++ L)) ?_ kk
  simp only [stp, q_put, x_rdk hk]
  rw [if_pos ⟨trivial, hl, hok⟩, x_wrk hk]
theorem x_get {c f : Nat} {fs : List Value} {v : Value} (hk : k < h.length) (hf : fetch M pc = some (.getfield i, a0, c, f, r3)) (hv : fs[f]? = some v) (kk : Rn b sc d M (pc + 3) lv (v :: st) (h.set k (.inr (c, fs)) ++ L) Q) : Rn b sc d M pc lv (.ref (b + k) :: st) (h.set k (.inr (c, fs)) ++ L) Q := by
  refine Rn.stp hf rfl rfl (t := (pc + 3, lv, v :: st, h.set k (.inr (c, fs)) ++ L)) ?_ kk
  simp only [stp, q_get, x_rdk hk, if_true, hv]
theorem x_getO {c f j : Nat} {fs : List Value} {v : Value} (hj : h[j]? = some (.inr (c, fs))) (hne : k ≠ j) (hf : fetch M pc = some (.getfield i, a0, c, f, r3)) (hv : fs[f]? = some v) (kk : Rn b sc d M (pc + 3) lv (v :: st) (h.set k X ++ L) Q) : Rn b sc d M pc lv (.ref (b + j) :: st) (h.set k X ++ L) Q := by
  refine Rn.stp hf rfl rfl (t := (pc + 3, lv, v :: st, h.set k X ++ L)) ?_ kk
  simp only [stp, q_get, x_rdO hj hne, if_true, hv]
theorem x_aaldO {j t n : Nat} {x : Int32} {y : Nat} {g : Nat → Option Nat} {z : Nat × Nat × Nat × Nat} (hj : h[j]? = some (.inl (t, n, .inr (.inr (.inr (.inr g)))))) (ht : 3 ≤ t ∧ t < 6) (hne : k ≠ j) (hf : fetch M pc = some (.aaload, z)) (hx : ¬ (x < 0 ∨ n ≤ x.toNatClampNeg)) (hg : g x.toNatClampNeg = some y) (kk : Rn b sc d M (pc + 1) lv (.ref y :: st) (h.set k X ++ L) Q) : Rn b sc d M pc lv (.int x :: .ref (b + j) :: st) (h.set k X ++ L) Q := by
  refine Rn.stp hf rfl rfl (t := (pc + 1, lv, .ref y :: st, h.set k X ++ L)) ?_ kk
  simp only [stp, q_aald, x_rdO hj hne]
  rw [if_pos ⟨ht, hx⟩, hg]
  rfl
theorem x_newa {t : Nat} {at' : ArrayType} {x : Int32} {n a : Nat} (hf : fetch M pc = some (.newarray at', a0, t, r2, r3)) (hx : ¬ x < 0 ∧ x.toNatClampNeg ≤ 10000) (hn : x.toNatClampNeg = n) (ha : h.length + L.length = a) (kk : Rn b sc d M (pc + 2) lv (.ref (b + a) :: st) (h.set k X ++ (L ++ [.inl (t, narr t n)])) Q) : Rn b sc d M pc lv (.int x :: st) (h.set k X ++ L) Q := by
  subst hn
  refine Rn.stp hf rfl rfl (t := (pc + 2, lv, .ref (b + a) :: st, h.set k X ++ (L ++ [.inl (t, narr t x.toNatClampNeg)]))) ?_ kk
  simp only [stp, q_newa]
  rw [if_pos hx, x_len, ha, List.append_assoc]
theorem x_newq {t idx : Nat} {x : Int32} {n a : Nat} (hf : fetch M pc = some (.anewarray idx, a0, t, r2, r3)) (hx : ¬ x < 0 ∧ x.toNatClampNeg ≤ 10000) (hn : x.toNatClampNeg = n) (ha : h.length + L.length = a) (kk : Rn b sc d M (pc + 3) lv (.ref (b + a) :: st) (h.set k X ++ (L ++ [.inl (t, n, .inr (.inr (.inr (.inr (fun _ => none)))))])) Q) : Rn b sc d M pc lv (.int x :: st) (h.set k X ++ L) Q := by
  subst hn
  refine Rn.stp hf rfl rfl (t := (pc + 3, lv, .ref (b + a) :: st, h.set k X ++ (L ++ [.inl (t, x.toNatClampNeg, .inr (.inr (.inr (.inr (fun _ => none)))))]))) ?_ kk
  simp only [stp, q_newq]
  rw [if_pos hx, x_len, ha, List.append_assoc]
theorem x_new {c idx a : Nat} (hf : fetch M pc = some (.new idx, a0, c, r2, r3)) (ha : h.length + L.length = a) (kk : Rn b sc d M (pc + 3) lv (.ref (b + a) :: st) (h.set k X ++ (L ++ [.inr (c, k_df c)])) Q) : Rn b sc d M pc lv st (h.set k X ++ L) Q := by
  refine Rn.stp hf rfl rfl (t := (pc + 3, lv, .ref (b + a) :: st, h.set k X ++ (L ++ [.inr (c, k_df c)]))) ?_ kk
  simp only [stp]
  rw [x_len, ha, List.append_assoc]
theorem x_aast {j j2 t n a v : Nat} {x : Int32} {o : Nat × List Value} {g : Nat → Option Nat} {z : Nat × Nat × Nat × Nat} (hj : L[j]? = some (.inl (t, n, .inr (.inr (.inr (.inr g)))))) (hj2 : L[j2]? = some (.inr o)) (ht : (3 ≤ t ∧ t < 6) ∧ k_te t = o.1) (hf : fetch M pc = some (.aastore, z)) (hx : ¬ (x < 0 ∨ n ≤ x.toNatClampNeg)) (ha : h.length + j = a) (hv : h.length + j2 = v) (kk : Rn b sc d M (pc + 1) lv st (h.set k X ++ L.set j (.inl (t, n, .inr (.inr (.inr (.inr (va_up g x.toNatClampNeg (some (b + v)))))))) ) Q) : Rn b sc d M pc lv (.ref (b + v) :: .int x :: .ref (b + a) :: st) (h.set k X ++ L) Q := by
  subst ha
  subst hv
  refine Rn.stp hf rfl rfl (t := (pc + 1, lv, st, h.set k X ++ L.set j (.inl (t, n, .inr (.inr (.inr (.inr (va_up g x.toNatClampNeg (some (b + (h.length + j2))))))))))) ?_ kk
  simp only [stp, q_aast, x_rdL hj, x_rdL hj2]
  rw [if_pos ⟨ht, hx⟩, x_wrL]
theorem x_obj {y : Nat} (hf : fetch M pc = some (.invokespecial i, a0, 9999, 0, r3)) (hd : 1 ≤ d) (hr : (st.map Value.category).sum ≤ 8) (kk : Rn b sc d M (pc + 3) lv st h Q) : Rn b sc d M pc lv (.ref y :: st) h Q := by
  refine Rn.obj (rest := st) (as := [.ref y]) hf rfl rfl ?_ hd kk
  simp only [cll, List.drop_zero, List.take_zero, List.reverse_nil]
  rw [if_pos (by simpa using hr)]
/-- a constructor is called on a new cell -/
theorem x_call {n : Nat} {args : List Value} {M2 j : Nat} {Y : PE} {L2 : List PE} {as : List Value} (hst : as = args.reverse) (hn : as.length = n) (hf : fetch M pc = some (.invokespecial i, a0, M2, n, r3)) (h9 : M2 < 9998) (hl : (lg_sl (.ref (b + (h.length + j)) :: args)).length ≤ mxl M2) (hr : (st.map Value.category).sum ≤ 8)
    (hC : ∀ (Q' : Option Value → List PE → Prop), Q' none ((h.set k X ++ L).set (h.length + j) Y ++ L2) → Cl b d M2 (.ref (b + (h.length + j)) :: args) (h.set k X ++ L) Q') (kk : Rn b sc (d + 1) M (pc + 3) lv st (h.set k X ++ (L.set j Y ++ L2)) Q) : Rn b sc (d + 1) M pc lv (as ++ .ref (b + (h.length + j)) :: st) (h.set k X ++ L) Q := by
  refine Rn.call (rest := st) (as := .ref (b + (h.length + j)) :: args) hf rfl rfl ?_ h9 hl (hC _ ?_)
  · subst hn
    simp only [cll, List.drop_left']
    rw [if_pos (by simpa using hr), List.take_left, hst, List.reverse_reverse]
  · show Rn b sc (d + 1) M (pc + 3) lv ([] ++ st) _ Q
    rw [List.nil_append, List.set_append_right _ _ (by rw [List.length_set]; omega), List.length_set, show h.length + j - h.length = j by omega, List.append_assoc]
    exact kk
end CT
