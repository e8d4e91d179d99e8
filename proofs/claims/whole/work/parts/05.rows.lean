/-! One instruction of the pure machine, over the kit's rows. -/
def k_tys (ca : Nat → ClassId) : List (ClassId × FieldType) := [(ca 0, k_ta 0), (ca 1, k_ta 1), (ca 2, k_ta 2), (ca 3, k_ta 3), (ca 4, k_ta 4), (ca 5, k_ta 5)]
def KK (ca : Nat → ClassId) (D : va_G) (U : State) : Prop := va_K D k_cl (k_tys ca) U ∧ (va_AO "TypedEngine$Method" U ∧ va_AO "TypedEngine$Region" U ∧ va_AO "TypedEngine$Frame" U) ∧ va_Nw w_nest U
theorem KK.warm {ca : Nat → ClassId} {D : va_G} {s U : State} (hW : s.WarmedH U.vm) (h : KK ca D s) : KK ca D U := ⟨va_K.moved hW.alike h.1, ⟨va_AO.moved hW.alike h.2.1.1, va_AO.moved hW.alike h.2.1.2.1, va_AO.moved hW.alike h.2.1.2.2⟩, va_Nw.warmM hW h.2.2⟩
theorem KK.same {ca : Nat → ClassId} {D : va_G} {u U : State} (e : u.vm = U.vm) (h : KK ca D u) : KK ca D U := by
  have ha : u.vm.Alike U.vm := by rw [e]; exact Vm.Alike.refl _
  exact ⟨va_K.moved ha h.1, ⟨va_AO.moved ha h.2.1.1, va_AO.moved ha h.2.1.2.1, va_AO.moved ha h.2.1.2.2⟩, va_Nw.same rfl e h.2.2⟩
def cv (ca : Nat → ClassId) : PE → va_E
  | .inl x => .inl (ca x.1, x.2)
  | .inr o => .inr o
/-- the heap holds the list's entities from base on, and nothing is behind them -/
def HP (base : Nat) (ca : Nat → ClassId) (D : va_G) (h : List PE) (H : Heap) : Prop := H.size = base + h.length ∧ ∀ (k : Nat) (e : PE), h[k]? = some e → va_at D k_cl (base + k, cv ca e) H
theorem rd_some {base a : Nat} {h : List PE} {e : PE} (hr : rd base h a = some e) : ∃ k, a = base + k ∧ h[k]? = some e := by
  unfold rd at hr
  split at hr
  · exact ⟨a - base, by omega, hr⟩
  · cases hr
theorem HP.one {base : Nat} {ca : Nat → ClassId} {D : va_G} {h : List PE} {H : Heap} (hP : HP base ca D h H) {a : Nat} {e : PE} (hr : rd base h a = some e) : va_P D k_cl [(a, cv ca e)] H := by
  obtain ⟨k, rfl, hk⟩ := rd_some hr
  intro j q hq
  cases j with
  | zero =>
    simp at hq
    subst hq
    exact hP.2 k e hk
  | succ j => simp at hq
theorem HP.two {base : Nat} {ca : Nat → ClassId} {D : va_G} {h : List PE} {H : Heap} (hP : HP base ca D h H) {a b : Nat} {e f : PE} (hr : rd base h a = some e) (hf : rd base h b = some f) : va_P D k_cl [(a, cv ca e), (b, cv ca f)] H := va_P.app (hP.one hr) (hP.one hf)
theorem wr_at {base k : Nat} {h : List PE} {e : PE} : wr base h (base + k) e = h.set k e := by
  unfold wr
  rw [Nat.add_sub_cancel_left]
theorem HP.set {base : Nat} {ca : Nat → ClassId} {D : va_G} {h : List PE} {H H1 : Heap} (hP : HP base ca D h H) {a : Nat} {e0 e1 : PE} (hr : rd base h a = some e0) (ha : va_at D k_cl (a, cv ca e1) H1) (hz : H1.size = H.size) (oq : ∀ q, q ≠ a → H1[q]? = H[q]?) : HP base ca D (wr base h a e1) H1 := by
  obtain ⟨k, rfl, hk⟩ := rd_some hr
  rw [wr_at]
  refine ⟨by rw [hz, hP.1, List.length_set], fun j e hj => ?_⟩
  by_cases hjk : k = j
  · subst hjk
    rw [List.getElem?_set_self (List.getElem?_eq_some_iff.mp hk).1] at hj
    cases hj
    exact ha
  · rw [List.getElem?_set_ne hjk] at hj
    exact (hP.2 j e hj).kept (oq _ (by omega))
theorem HP.push {base : Nat} {ca : Nat → ClassId} {D : va_G} {h : List PE} {H H1 : Heap} (hP : HP base ca D h H) {e1 : PE} (ha : va_at D k_cl (base + h.length, cv ca e1) H1) (hz : H1.size = H.size + 1) (oq : ∀ q, q < H.size → H1[q]? = H[q]?) : HP base ca D (h ++ [e1]) H1 := by
  refine ⟨by rw [hz, hP.1]; simp; omega, fun j e hj => ?_⟩
  by_cases hl : j < h.length
  · rw [List.getElem?_append_left hl] at hj
    exact (hP.2 j e hj).kept (oq _ (by rw [hP.1]; omega))
  · rw [List.getElem?_append_right (by omega)] at hj
    have hz : j - h.length < 1 := (List.getElem?_eq_some_iff.mp hj).1
    rw [show j - h.length = 0 by omega] at hj
    cases hj
    rw [show j = h.length by omega]
    exact ha
theorem rd_ge {base a : Nat} {h : List PE} {e : PE} (hr : rd base h a = some e) : base ≤ a := by
  obtain ⟨k, rfl, -⟩ := rd_some hr
  omega
theorem lk_at {lv : LV} {i : Nat} {v : Value} (h : lv.lookup i = some v) : (i, v) ∈ lv := by
  induction lv with
  | nil => cases h
  | cons q t ih =>
    obtain ⟨j, w⟩ := q
    rw [List.lookup_cons] at h
    split at h
    · rename_i hb
      cases h
      rw [beq_iff_eq] at hb
      subst hb
      exact List.mem_cons_self
    · exact List.mem_cons_of_mem _ (ih h)
theorem lk_ls {ls : Array Slot} {nL : Nat} {lv : LV} {i : Nat} {v : Value} (hl : lv_has ls nL lv) (h : lv.lookup i = some v) : ls[i]? = some (.val v) := hl.2.2 _ (lk_at h)
/-- what stays the same while a method runs -/
def SX (p : Program) (s : State) (m : MethodId) (args : Array Value) (meth : Method) (c : Code) (base : Nat) (ca : Nat → ClassId) (D : va_G) (kc kd : Nat) (cc : ByteArray) (nL : Nat) (sc : SC) : Prop :=
  p.tables.exec = Jvm.exec ∧ c.code = cc ∧ c.maxLocals = nL ∧ s.vm.findClass (cnm kc) = some m.cls ∧ (∀ w ∈ gw, w.before args s = true) ∧ KK ca D s ∧ (kd = 2 → meth.name = "<init>") ∧ base ≤ s.heap.size ∧ ∀ a y, sc a = some y → va_X a y.1 y.2 s s.heap ∧ a < base
def AA (base : Nat) : Nat → Prop := fun q => base ≤ q
section ST
variable {p : Program} {l : Launch} {e : Env} {R : Room} {s : State} {m : MethodId} {args : Array Value} {below : List Frame} {meth : Method} {c : Code} {H : Heap} {locs : List Loc} {cells slots : Nat} {Q : State → Prop}
variable {base : Nat} {ca : Nat → ClassId} {D : va_G} {kc kd : Nat} {cc : ByteArray} {nL : Nat} {sc : SC} {pc : Nat} {ls : Array Slot} {st r : List Value} {rt : Option FieldType} {lv : LV} {h : List PE}
theorem k_of {k : Nat} {q : vw_C} (hq : k_cl[k]? = some q) : okK k q = true := by
  have hk : k < 9 := (List.getElem?_eq_some_iff.mp hq).1
  have h1 := k_ok k hk
  rw [hq] at h1
  exact h1
theorem k_in {k : Nat} {q : vw_C} (hq : k_cl[k]? = some q) : ∀ w ∈ u_ws q.1 q.2.1 q.2.2, w ∈ gw := (kw_ok hq).1
theorem k_f {k : Nat} {q : vw_C} (hq : k_cl[k]? = some q) {j : Nat} (hj : j < q.2.2) : parseFieldDescriptor (q.2.1 j).2.2.1 = some (k_ty k j) ∧ defaultValue (k_ty k j) = vp_V (k_df k) j ∧ (∀ i, i < q.2.2 → i ≠ j → (q.2.1 i).2.1 ≠ (q.2.1 j).2.1) := by
  have h1 := k_of hq
  simp only [okK, Bool.and_eq_true] at h1
  have h2 := List.all_eq_true.mp h1.2 j (List.mem_range.mpr hj)
  simp only [Bool.and_eq_true, decide_eq_true_eq] at h2
  refine ⟨h2.1.1.1.1, h2.1.1.1.2, fun i hi hne => ?_⟩
  have h3 := List.all_eq_true.mp h2.1.1.2 i (List.mem_range.mpr hi)
  simp only [Bool.or_eq_true, decide_eq_true_eq] at h3
  exact h3.resolve_left hne
theorem k_v {k : Nat} {q : vw_C} (hq : k_cl[k]? = some q) {j : Nat} (hj : j < q.2.2) {v : Value} (hv : okv ((k_tg k).getD j 9) v = true) : narrow (k_ty k j) v = v ∧ fits (k_ty k j) v = true := by
  have h1 := k_of hq
  simp only [okK, Bool.and_eq_true] at h1
  have h2 := List.all_eq_true.mp h1.2 j (List.mem_range.mpr hj)
  simp only [Bool.and_eq_true, decide_eq_true_eq] at h2
  have h3 := h2.1.2
  generalize (k_tg k).getD j 9 = t at h3 hv
  generalize k_ty k j = ty at h3 ⊢
  split at h3
  · cases v <;> simp [okv, narrow, fits] at hv ⊢
  · cases v <;> simp [okv, narrow, fits] at hv ⊢
  · cases v with
    | int x =>
      simp [okv] at hv
      rcases hv with rfl | rfl <;> exact ⟨rfl, rfl⟩
    | _ => simp [okv] at hv
  · cases v <;> simp [okv, narrow, fits] at hv ⊢
  · cases v <;> simp [okv, narrow, fits] at hv ⊢
  · cases h3
theorem k_fi {k : Nat} {q : vw_C} (hq : k_cl[k]? = some q) {j : Nat} (hj : j < q.2.2) : (k_fin k).getD j true = (q.2.1 j).2.2.2 := by
  have h1 := k_of hq
  simp only [okK, Bool.and_eq_true] at h1
  have h2 := List.all_eq_true.mp h1.2 j (List.mem_range.mpr hj)
  simp only [Bool.and_eq_true, decide_eq_true_eq, beq_iff_eq] at h2
  exact h2.2
theorem k_pl {k : Nat} {q : vw_C} (hq : k_cl[k]? = some q) : Cond.instantiable q.1 q.2.2 ∈ gw ∧ Cond.initialized q.1 ∈ gw ∧ (k_df k).length = q.2.2 := by
  have h1 := k_of hq
  simp only [okK, Bool.and_eq_true, decide_eq_true_eq] at h1
  exact ⟨(kw_ok hq).2.1, (kw_ok hq).2.2.1, h1.1⟩
theorem tys_at {t : Nat} (ht : t < 6) : (k_tys ca)[t]? = some (ca t, k_ta t) := by
  rcases (show t = 0 ∨ t = 1 ∨ t = 2 ∨ t = 3 ∨ t = 4 ∨ t = 5 by omega) with rfl | rfl | rfl | rfl | rfl | rfl <;> rfl
set_option maxHeartbeats 1000000 in
theorem g_get (X : SX p s m args meth c base ca D kc kd cc nL sc) (hP : HP base ca D h H) {a ci k idx r3 : Nat} {fs : List Value} {v : Value} (hr : rd base h a = some (.inr (ci, fs))) (hv : fs[k]? = some v)
    (hok : okX kc kd nL rt pc ci k r3 (.getfield idx) = true) (hdg : decode cc pc = .ok (.getfield idx, 3)) (kk : W p l e R s m args below meth c H locs cells slots Q (F0 m (pc + 3) ls (v :: r))) : W p l e R s m args below meth c H locs cells slots Q (F0 m pc ls (.ref a :: r)) := by
  obtain ⟨hx, hb, -, hown, hts, hK, -, -, -⟩ := X
  simp only [okX, decide_eq_true_eq] at hok
  obtain ⟨q, hq, hk, hT, hw⟩ := ft_at hok
  obtain ⟨C, T, N⟩ := q
  exact va_get (D := D) (cl := k_cl) (ci := ci) (C := C) (T := T) (N := N) hx hb hts (k_in hq) hown hK.1 (hP.one hr) 0 rfl hq k hk (hts _ hw) (fun x9 h9 => by rw [← hT]; exact h9) hv hdg kk
set_option maxHeartbeats 1000000 in
theorem g_put (X : SX p s m args meth c base ca D kc kd cc nL sc) (hP : HP base ca D h H) (hS : va_S (AA base) s.heap H locs) {a ci k idx r3 : Nat} {fs : List Value} {v : Value} (hr : rd base h a = some (.inr (ci, fs))) (hl : k < fs.length) (hv : okv ((k_tg ci).getD k 9) v = true)
    (hok : okX kc kd nL rt pc ci k r3 (.putfield idx) = true) (hdg : decode cc pc = .ok (.putfield idx, 3)) (kk : ∀ (H1 : Heap) (locs1 : List Loc), HP base ca D (wr base h a (.inr (ci, fs.set k v))) H1 → va_S (AA base) s.heap H1 locs1 → W p l e R s m args below meth c H1 locs1 cells slots Q (F0 m (pc + 3) ls r)) : W p l e R s m args below meth c H locs cells slots Q (F0 m pc ls (v :: .ref a :: r)) := by
  obtain ⟨hx, hb, -, hown, hts, hK, hin, -, -⟩ := X
  simp only [okX, Bool.and_eq_true, decide_eq_true_eq] at hok
  obtain ⟨hok, hfin⟩ := hok
  obtain ⟨q, hq, hk, hT, hw⟩ := ft_at hok
  rw [k_fi hq hk] at hfin
  have hCn := (kw_ok hq).2.2.2
  by_cases hTT : True
  · obtain ⟨C, T, N⟩ := q
    obtain ⟨hd, -, -⟩ := k_f hq hk
    obtain ⟨hn, hfit⟩ := k_v hq hk hv
    have hap := va_apart (own := cnm kc) hts (k_in hq) (k_ty ci) (fun j hj => (k_f hq hj).1) (fun x hx y hy hne => (k_f hq hy).2.2 x hx hne) hK.1 hq
    obtain ⟨r', h1, cell, q1, q2, q3, q4⟩ := (hP.one hr) 0 _ rfl
    have hr' : r' = (C, T, N) := Option.some.inj (h1.symm.trans hq)
    subst hr'
    obtain ⟨hSl, hfc, kC, hkC, hkind⟩ := hK.1.1 ci _ hq
    obtain ⟨cf, kf, fi, f, hi, hsl⟩ := hSl k hk
    have hlay := hts _ (k_in hq _ (u_in_lay hk))
    have hst := (u_facts hfc hkC (u_lays hts (k_in hq) hk) hi).1
    have fin : ∀ H' : Heap, H'[a]? = some (cell.setSlot f.slot v) → H'.size = H.size → (∀ q, q ≠ a → H'[q]? = H[q]?) → W p l e R s m args below meth c H' (locs ++ [⟨a, f.slot⟩]) cells slots Q (F0 m (pc + 3) ls r) := by
      intro H' e1 e2 e3
      rw [hsl] at e1 ⊢
      refine kk H' _ (hP.set hr ⟨_, hq, t_OB.to (V := updV (vp_V fs) k v) ⟨_, e1, q2, q3, t_set q4 hap hk v⟩ (fun j _ => vp_updV_set hl v j)⟩ e2 e3) (hS.put e2 e3 (rd_ge hr))
    unfold u_lay at hlay
    by_cases hF : (T k).2.2.2 = true
    · rw [if_pos hF] at hlay
      rw [hF] at hfin
      simp only [Bool.not_true, Bool.false_or, Bool.and_eq_true, decide_eq_true_eq] at hfin
      have hcf : m.cls = cf := by
        obtain ⟨_, _, c', _, _, _, -, -, hf', -, -, -, hown2, -⟩ := Cond.laysFinal_spec hlay
        have e1 : c' = cf := by have := hi.symm.trans hf'; simp at this; exact this.1.symm
        rw [hT] at hown2
        have hCn : C = cnm ci := hCn
        rw [hCn, hfin.2] at hown2
        rw [← e1]; exact Option.some.inj (hown.symm.trans hown2)
      have h6 := u_fits hfc hkC hkind (Or.inr hlay) hi hd hn hfit
      exact W.putFinK hx hb hown (hts _ hw) (by rw [← hT]; exact hi) hst hcf (hin hfin.1) (by rw [q2]; exact h6) q1 q3 (by rw [hsl]; exact k2_hasslot (q4 k hk)) rfl rfl hdg fin
    · rw [if_neg hF] at hlay
      have h6 := u_store hfc hkC hkind hlay hi hd hn hfit
      exact W.putK hx hb (f := f) ⟨hown, hts _ hw, ⟨_, _, _, by rw [← hT]; exact hi⟩, hst⟩ (by rw [q2]; exact h6) q1 q3 (by rw [hsl]; exact k2_hasslot (q4 k hk)) rfl rfl hdg fin
  · exact absurd trivial hTT

set_option maxHeartbeats 1000000 in
theorem g_new (X : SX p s m args meth c base ca D kc kd cc nL sc) (hP : HP base ca D h H) (hS : va_S (AA base) s.heap H locs) {ci idx r2 r3 : Nat} (hc : cells + 1 ≤ R.cells) (hs : slots + (k_df ci).length ≤ R.slots)
    (hok : okX kc kd nL rt pc ci r2 r3 (.new idx) = true) (hdg : decode cc pc = .ok (.new idx, 3)) (kk : ∀ (H1 : Heap), HP base ca D (h ++ [.inr (ci, k_df ci)]) H1 → va_S (AA base) s.heap H1 locs → W p l e R s m args below meth c H1 locs (cells + 1) (slots + (k_df ci).length) Q (F0 m (pc + 3) ls (.ref (base + h.length) :: st))) : W p l e R s m args below meth c H locs cells slots Q (F0 m pc ls st) := by
  obtain ⟨hx, hb, -, hown, hts, hK, hin, -, -⟩ := X
  simp only [okX, decide_eq_true_eq] at hok
  obtain ⟨q, hq, hw⟩ := ct_at hok
  by_cases hTT : True
  · obtain ⟨C, T, N⟩ := q
    obtain ⟨w1, w2, hlen⟩ := k_pl hq
    rw [hlen] at hs kk
    have hKn := hK.1.1 ci _ hq
    refine W.newcK hx hb hown (hts _ hw) (hts _ w1) (hts _ w2) rfl hdg hc hs hKn.2.1 rfl fun H1 kC hkC e1 z1 o1 => ?_
    rw [hP.1] at e1
    have := kk H1 (hP.push ⟨_, hq, (u_born (k_ty ci) hts (k_in hq) hKn hkC e1 (fun j hj => (k_f hq hj).1)).to (fun j hj => (k_f hq hj).2.1)⟩ z1 o1) ⟨Nat.le_trans hS.1 (by omega), fun x h1 h2 => (o1 x (Nat.lt_of_lt_of_le h1 hS.1)).trans (hS.2.1 x h1 h2), hS.2.2⟩
    rw [← hP.1] at this
    exact this
  · exact absurd trivial hTT
theorem narr_ok {t n : Nat} (ht : t < 3) (cA : ClassId) : vp_cell cA (narr t n) = arrV cA n (fun _ => defaultValue (k_ta t)) := by
  rcases (show t = 0 ∨ t = 1 ∨ t = 2 by omega) with rfl | rfl | rfl <;> rfl
theorem k_bytes {t n : Nat} (ht : t < 3) (hn : n ≤ 10000) : n * componentBytes (k_ta t) ≤ 536870912 := by
  rcases (show t = 0 ∨ t = 1 ∨ t = 2 by omega) with rfl | rfl | rfl <;> simp [k_ta, componentBytes] <;> omega
set_option maxHeartbeats 1000000 in
theorem g_newa (X : SX p s m args meth c base ca D kc kd cc nL sc) (hP : HP base ca D h H) (hS : va_S (AA base) s.heap H locs) {t r2 r3 : Nat} {at' : ArrayType} {n : Int32} (hn : ¬ n < 0) (hN : n.toNatClampNeg ≤ 10000) (hc : cells + 1 ≤ R.cells) (hs : slots + n.toNatClampNeg ≤ R.slots)
    (hok : okX kc kd nL rt pc t r2 r3 (.newarray at') = true) (hdg : decode cc pc = .ok (.newarray at', 2)) (kk : ∀ (H1 : Heap), HP base ca D (h ++ [.inl (t, narr t n.toNatClampNeg)]) H1 → va_S (AA base) s.heap H1 locs → W p l e R s m args below meth c H1 locs (cells + 1) (slots + n.toNatClampNeg) Q (F0 m (pc + 2) ls (.ref (base + h.length) :: st))) : W p l e R s m args below meth c H locs cells slots Q (F0 m pc ls (.int n :: st)) := by
  obtain ⟨hx, hb, -, hown, hts, hK, hin, -, -⟩ := X
  simp only [okX, Bool.and_eq_true, decide_eq_true_eq] at hok
  obtain ⟨ht, hty⟩ := hok
  refine va_newaK hx hb (by rw [hty]; exact hts _ (ac_ok t ht)) rfl hdg rfl hn rfl (by rw [hty]; exact k_bytes ht hN) hc hs hP.1 fun H1 cA e1 z1 o1 hAr hNm => ?_
  rw [hty] at e1 hNm
  have hca : cA = ca t := by
    have h1 := (hK.1.2 t _ (tys_at (by omega))).2
    have h2 : s.vm.findClass ("[" ++ (k_ta t).toString) = some (ca t) := by
      rcases (show t = 0 ∨ t = 1 ∨ t = 2 by omega) with rfl | rfl | rfl <;> exact h1
    exact Option.some.inj (hNm.symm.trans h2)
  subst hca
  rw [← hP.1] at o1 z1
  exact kk H1 (hP.push (by show H1[_]? = some (vp_cell _ _); rw [narr_ok ht]; exact e1) z1 o1) ⟨Nat.le_trans hS.1 (by omega), fun x h1 h2 => (o1 x (Nat.lt_of_lt_of_le h1 hS.1)).trans (hS.2.1 x h1 h2), hS.2.2⟩
set_option maxHeartbeats 1000000 in
theorem g_newq (X : SX p s m args meth c base ca D kc kd cc nL sc) (hP : HP base ca D h H) (hS : va_S (AA base) s.heap H locs) {t r2 r3 idx : Nat} {n : Int32} (hn : ¬ n < 0) (hN : n.toNatClampNeg ≤ 10000) (hc : cells + 1 ≤ R.cells) (hs : slots + n.toNatClampNeg ≤ R.slots)
    (hok : okX kc kd nL rt pc t r2 r3 (.anewarray idx) = true) (hdg : decode cc pc = .ok (.anewarray idx, 3)) (kk : ∀ (H1 : Heap), HP base ca D (h ++ [.inl (t, n.toNatClampNeg, .inr (.inr (.inr (.inr (fun _ => none)))))]) H1 → va_S (AA base) s.heap H1 locs → W p l e R s m args below meth c H1 locs (cells + 1) (slots + n.toNatClampNeg) Q (F0 m (pc + 3) ls (.ref (base + h.length) :: st))) : W p l e R s m args below meth c H locs cells slots Q (F0 m pc ls (.int n :: st)) := by
  obtain ⟨hx, hb, -, hown, hts, hK, hin, -, -⟩ := X
  simp only [okX, Bool.and_eq_true, decide_eq_true_eq] at hok
  obtain ⟨⟨ht3, ht⟩, hw⟩ := hok
  have hw := at_at hw
  obtain ⟨C, hC, hAO⟩ : ∃ C, k_ta t = .object C ∧ va_AO C s := by
    rcases (show t = 3 ∨ t = 4 ∨ t = 5 by omega) with rfl | rfl | rfl
    · exact ⟨_, rfl, hK.2.1.1⟩
    · exact ⟨_, rfl, hK.2.1.2.1⟩
    · exact ⟨_, rfl, hK.2.1.2.2⟩
  simp only [hC] at hw
  refine W.anew hx hb hown (hts _ hw) (va_AO.use hAO) rfl hdg rfl hn (by omega) hc hs fun cA kA comp f1 f2 f3 f4 => ?_
  have hca : cA = ca t := by
    have h1 := (hK.1.2 t _ (tys_at ht)).2
    rw [hC] at h1
    obtain ⟨kA', comp', g1, g2, g3, g4⟩ := h1
    exact Option.some.inj (f1.symm.trans g4)
  subst hca
  generalize hH1 : H.push ({ cls := ca t, slots := Array.replicate n.toNatClampNeg .null, vm := .none } : Cell) = H1
  have z1 : H1.size = H.size + 1 := by rw [← hH1, Array.size_push]
  have e1 : H1[H.size]? = some (arrV (ca t) n.toNatClampNeg (fun _ => .null)) := by rw [← hH1, Array.getElem?_push_size, ← arrV_new]
  have o1 : ∀ q, q < H.size → H1[q]? = H[q]? := fun q hq => by rw [← hH1, Array.getElem?_push, if_neg (Nat.ne_of_lt hq)]
  rw [hP.1] at e1
  have := kk H1 (hP.push (by show H1[_]? = some (vp_cell _ _); exact e1) z1 o1) ⟨Nat.le_trans hS.1 (by omega), fun x h1 h2 => (o1 x (Nat.lt_of_lt_of_le h1 hS.1)).trans (hS.2.1 x h1 h2), hS.2.2⟩
  rw [← hP.1] at this
  exact this

theorem g_iast (X : SX p s m args meth c base ca D kc kd cc nL sc) (hP : HP base ca D h H) (hS : va_S (AA base) s.heap H locs) {a n : Nat} {i : Int32} {x : Int32} {f : Nat → Int32} (hr : rd base h a = some (.inl (0, n, .inl f))) (hi : ¬ (i < 0 ∨ n ≤ i.toNatClampNeg)) (hdg : decode cc pc = .ok (.iastore, 1))
    (kk : ∀ (H1 : Heap) (locs1 : List Loc), HP base ca D (wr base h a (.inl (0, n, .inl (upd f i.toNatClampNeg x)))) H1 → va_S (AA base) s.heap H1 locs1 → W p l e R s m args below meth c H1 locs1 cells slots Q (F0 m (pc + 1) ls r)) : W p l e R s m args below meth c H locs cells slots Q (F0 m pc ls (.int x :: .int i :: .ref a :: r)) := by
  obtain ⟨hx, hb, -, hown, hts, hK, hin, -, -⟩ := X
  have hA := hK.1.2 0 _ (tys_at (by omega))
  have hc : H[a]? = some (vp_cell (ca 0) (n, .inl f)) := (hP.one hr) 0 _ rfl
  refine W.iast hx hb hc (hA.1 n _) (fun q => by cases q) (by show ¬ (i < 0 ∨ (arrV _ _ _).slots.size ≤ _); rw [arrV_size]; exact hi) rfl rfl hdg fun H1 e z oq => ?_
  refine kk H1 _ (hP.set hr ?_ z oq) (hS.put z oq (rd_ge hr))
  show H1[a]? = some (vp_cell _ _)
  rw [e, vp_cell_i, vp_cell_i, arrV_store]
  congr 2
  funext q
  by_cases hq : q = i.toNatClampNeg
  · subst hq
    simp [updV, upd]
  · simp [updV, upd, hq]

theorem g_bast (X : SX p s m args meth c base ca D kc kd cc nL sc) (hP : HP base ca D h H) (hS : va_S (AA base) s.heap H locs) {a n : Nat} {i : Int32} {x : Int32} {f : Nat → Int32} (hr : rd base h a = some (.inl (2, n, .inl f))) (hi : ¬ (i < 0 ∨ n ≤ i.toNatClampNeg)) (hdg : decode cc pc = .ok (.bastore, 1))
    (kk : ∀ (H1 : Heap) (locs1 : List Loc), HP base ca D (wr base h a (.inl (2, n, .inl (upd f i.toNatClampNeg (vp_nar .boolean x))))) H1 → va_S (AA base) s.heap H1 locs1 → W p l e R s m args below meth c H1 locs1 cells slots Q (F0 m (pc + 1) ls r)) : W p l e R s m args below meth c H locs cells slots Q (F0 m pc ls (.int x :: .int i :: .ref a :: r)) := by
  obtain ⟨hx, hb, -, hown, hts, hK, hin, -, -⟩ := X
  have hA := hK.1.2 2 _ (tys_at (by omega))
  have hc : H[a]? = some (vp_cell (ca 2) (n, .inl f)) := (hP.one hr) 0 _ rfl
  refine W.zast hx hb hc (hA.1 n _) (fun q => by cases q) (by show ¬ (i < 0 ∨ (arrV _ _ _).slots.size ≤ _); rw [arrV_size]; exact hi) rfl rfl hdg fun H1 e z oq => ?_
  refine kk H1 _ (hP.set hr ?_ z oq) (hS.put z oq (rd_ge hr))
  show H1[a]? = some (vp_cell _ _)
  rw [e, vp_cell_i, vp_cell_i, arrV_store]
  congr 2
  funext q
  by_cases hq : q = i.toNatClampNeg
  · subst hq
    simp [updV, upd, vp_nar, narrow]
  · simp [updV, upd, vp_nar, narrow, hq]

theorem g_last (X : SX p s m args meth c base ca D kc kd cc nL sc) (hP : HP base ca D h H) (hS : va_S (AA base) s.heap H locs) {a n : Nat} {i : Int32} {x : Int64} {f : Nat → Int64} (hr : rd base h a = some (.inl (1, n, .inr (.inl f)))) (hi : ¬ (i < 0 ∨ n ≤ i.toNatClampNeg)) (hdg : decode cc pc = .ok (.lastore, 1))
    (kk : ∀ (H1 : Heap) (locs1 : List Loc), HP base ca D (wr base h a (.inl (1, n, .inr (.inl (vp_updL f i.toNatClampNeg x))))) H1 → va_S (AA base) s.heap H1 locs1 → W p l e R s m args below meth c H1 locs1 cells slots Q (F0 m (pc + 1) ls r)) : W p l e R s m args below meth c H locs cells slots Q (F0 m pc ls (.long x :: .int i :: .ref a :: r)) := by
  obtain ⟨hx, hb, -, hown, hts, hK, hin, -, -⟩ := X
  have hA := hK.1.2 1 _ (tys_at (by omega))
  have hc : H[a]? = some (vp_cell (ca 1) (n, .inr (.inl f))) := (hP.one hr) 0 _ rfl
  refine W.last hx hb hc (hA.1 n _) (fun q => by cases q) (by show ¬ (i < 0 ∨ (arrV _ _ _).slots.size ≤ _); rw [arrV_size]; exact hi) rfl rfl hdg fun H1 e z oq => ?_
  refine kk H1 _ (hP.set hr ?_ z oq) (hS.put z oq (rd_ge hr))
  show H1[a]? = some (vp_cell _ _)
  rw [e, vp_cell_l, vp_cell_l, arrV_store]
  congr 2
  funext q
  by_cases hq : q = i.toNatClampNeg
  · subst hq
    simp [updV, vp_updL]
  · simp [updV, vp_updL, hq]

set_option maxHeartbeats 1000000 in
theorem g_aast (X : SX p s m args meth c base ca D kc kd cc nL sc) (hP : HP base ca D h H) (hS : va_S (AA base) s.heap H locs) {a n t v : Nat} {i : Int32} {o : Nat × List Value} {f : Nat → Option Nat} (hr : rd base h a = some (.inl (t, n, .inr (.inr (.inr (.inr f)))))) (hrv : rd base h v = some (.inr o)) (ht3 : 3 ≤ t ∧ t < 6) (hte : k_te t = o.1) (hi : ¬ (i < 0 ∨ n ≤ i.toNatClampNeg)) (hdg : decode cc pc = .ok (.aastore, 1))
    (kk : ∀ (H1 : Heap) (locs1 : List Loc), HP base ca D (wr base h a (.inl (t, n, .inr (.inr (.inr (.inr (va_up f i.toNatClampNeg (some v)))))))) H1 → va_S (AA base) s.heap H1 locs1 → W p l e R s m args below meth c H1 locs1 cells slots Q (F0 m (pc + 1) ls r)) : W p l e R s m args below meth c H locs cells slots Q (F0 m pc ls (.ref v :: .int i :: .ref a :: r)) := by
  obtain ⟨hx, hb, -, hown, hts, hK, hin, -, -⟩ := X
  obtain ⟨ci, vs⟩ := o
  have hte : k_te t = ci := hte
  have hA := hK.1.2 t _ (tys_at ht3.2)
  have hc : H[a]? = some (vp_cell (ca t) (n, .inr (.inr (.inr (.inr f))))) := (hP.one hr) 0 _ rfl
  obtain ⟨q', hq', cellV, g1, g2, g3, -⟩ := (hP.one hrv) 0 _ rfl
  obtain ⟨C, hC, hCq⟩ : ∃ C, k_ta t = .object C ∧ (k_cl[ci]?).map (·.1) = some C := by
    rw [← hte]
    rcases (show t = 3 ∨ t = 4 ∨ t = 5 by omega) with rfl | rfl | rfl <;> exact ⟨_, rfl, rfl⟩
  have hq2 : k_cl[ci]? = some q' := hq'
  rw [hq2] at hCq
  have hqC : q'.1 = C := Option.some.inj hCq
  have hcls := (hK.1.1 ci q' hq2).2
  have hRA := hA.2
  simp only [hC] at hRA
  obtain ⟨kA, comp, k1, k2, k3, -⟩ := hRA
  rw [← hqC] at k3
  have hcomp : comp = D.1 ci := Option.some.inj (k3.symm.trans hcls.1)
  subst hcomp
  have hcls' := hcls
  obtain ⟨kC, hkC, -⟩ := hcls'.2
  have hlt : i.toNatClampNeg < n := Nat.not_le.mp fun q => hi (Or.inr q)
  have h0 : ¬ i < 0 := fun q => hi (Or.inl q)
  refine W.aast hx hb hc (fun q h => by cases h) (fun h => by cases h) k1 k2 rfl hkC ⟨h0, by show _ < (arrV _ _ _).slots.size; rw [arrV_size]; exact hlt⟩ g1 (fun q h => by rw [g3] at h; cases h) (by rw [g2]; exact hkC) (by rw [g2]; exact va_assign hcls) rfl rfl hdg fun H1 e z oq => ?_
  refine kk H1 _ (hP.set hr ?_ z oq) (hS.put z oq (rd_ge hr))
  show H1[a]? = some (vp_cell _ _)
  rw [e, vp_cell_q, vp_cell_q, arrV_store]
  congr 2
  funext q
  by_cases hq : q = i.toNatClampNeg
  · subst hq
    simp [updV, va_up, va_rf]
  · simp [updV, va_up, hq]
end ST
