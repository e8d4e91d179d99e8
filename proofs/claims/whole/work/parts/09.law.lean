/-! THE CLAIM OUT OF ONE WALK OF THE LAW'S BODY. Your part is whole_start (and what it stands on); all else here is the same for every law, but numbers. -/
def R_law : String := "TypedEngineLaw"
def lw_P (b : Addr) (xs : List Int32) (args : Array Value) (s : State) : Prop := args = #[.ref b] ∧ s.IntsAt b xs ∧ xs.length ≤ 2048 ∧ (Jvm.Cond.and given_1 narrow_1).before args s = true
def lw_Q (_ : Array Value) (s : State) (o : Outcome) (t : State) : Prop := o = .returned (some (.int 1)) ∧ Framed s o t [] 600000 7302250
def lw_Z (below : List Frame) (a : Array Value) (s : State) : State → Prop := fun t => ∃ o, t.status = .running ∧ Ended t below o ∧ lw_Q a s o t
/-- the law's own end, with 1 on the stack, nothing written that was there before, its room as the claim has it -/
theorem lw_ret {p : Program} {l : Launch} {e : Env} {s : State} {m : MethodId} {below : List Frame} {meth : Method} {c : Code} {b : Nat} (hx : p.tables.exec = Jvm.exec) (hb : c.code = code) (hr : meth.sig.returnType = ret) (hlocks : meth.locks = false) {pc : Nat} {H : Heap} {ls : Array Slot} (hdg : decode code pc = .ok (.ireturn, 1)) : W p l e room_1 s m #[Value.ref b] below meth c H [] 600000 7302250 (lw_Z below #[Value.ref b] s) (F0 m pc ls [.int 1]) := by
  intro T hT X
  obtain ⟨fs, hret, hrun, hended, hW, hframe⟩ := X.leave (v := some (.int 1)) (hlocks := hlocks) (fun h => by rw [hr] at h; cases h)
  have hmeth' : T.vm.method? m = some meth := X.method'
  refine ⟨T.setFrames fs, ?_, .returned (some (.int 1)), hrun, hended, rfl, ⟨_, rfl⟩, hW, hframe⟩
  jvm_step X.here [X.here.top, hx, hb, hdg, hmeth', hr, ret, narrow_b1]
  (try refine ⟨rfl, ?_⟩); (try refine ⟨rfl, ?_⟩)
  first | (intro acts; rw [hret _ acts rfl rfl rfl]) | rw [hret _ _ rfl rfl rfl]
  exact Steps.refl _
/-- what holds at the law's entry: the machine, the code, the tables' words (any of lw_tbl by 'hts w (by decide +kernel)'), the script of L ints xs at the cell b, what the Statement gives of the start (any of its parts by flat_of_before) -/
def lw_At (p : Program) (s : State) (m : MethodId) (meth : Method) (c : Code) (b L : Nat) (xs : Nat → Int32) : Prop :=
  p.tables.exec = Jvm.exec ∧ c.code = code ∧ meth.sig.returnType = ret ∧ c.maxLocals = 4 ∧ s.vm.findClass R_law = some m.cls ∧ (∀ w ∈ lw_tbl, w.before #[Value.ref b] s = true) ∧ va_X b L xs s s.heap ∧ b < s.heap.size ∧ meth.locks = false ∧ (Jvm.Cond.and given_1 narrow_1).before #[Value.ref b] s = true
/-! From the pure machine to the claim. -/
def scr (b L : Nat) (xs : Nat → Int32) : SC := fun a => if a = b then some (L, xs) else none
/-- what is left to show: on every script the pure machine comes to its end with 1, within the room -/
def Pure : Prop := ∀ (base b L : Nat) (xs : Nat → Int32), b < base → L ≤ 2048 → ∃ (n : Nat) (h : List PE), prun base n (scr b L xs) 9 0 0 [(0, .ref b)] [] [] = some (some (.int 1), h) ∧ h.length ≤ 600000 ∧ sl h ≤ 7302250
theorem gw_of {args : Array Value} {s : State} (hts : ∀ w ∈ lw_tbl, w.before args s = true) : ∀ w ∈ gw, w.before args s = true := fun w hw => hts w (List.mem_filter.mp hw).1
theorem ao_in : (∀ C ∈ ["TypedEngine$Method", "TypedEngine$Region", "TypedEngine$Frame"], Cond.arrayOver (.object C) ∈ lw_tbl) ∧ w_nest ∈ lw_tbl := by
  refine ⟨?_, seg_in (k := 1) (List.mem_of_getElem? (i := 37) (by decide +kernel))⟩
  simp only [List.forall_mem_cons, List.not_mem_nil, false_implies, implies_true, and_true]
  exact ⟨seg_in (k := 1) (List.mem_of_getElem? (i := 28) (by decide +kernel)), seg_in (k := 1) (List.mem_of_getElem? (i := 35) (by decide +kernel)), seg_in (k := 1) (List.mem_of_getElem? (i := 198) (by decide +kernel))⟩
theorem arr_at {args : Array Value} {s : State} (hts : ∀ w ∈ lw_tbl, w.before args s = true) (t : Nat) : ∃ cA, t < 6 → ArrOfT s cA (k_ta t) ∧ va_RA s cA (k_ta t) := by
  by_cases ht : t < 6
  · by_cases h3 : t < 3
    · obtain ⟨c, k, comp, h1, h2, h4⟩ := Cond.arrayClass_spec (gw_of hts _ (ac_ok t h3))
      refine ⟨c, fun _ => ⟨fun n z => ⟨fun k h => (by cases h), k, h2, comp, h4⟩, ?_⟩⟩
      rcases (show t = 0 ∨ t = 1 ∨ t = 2 by omega) with rfl | rfl | rfl <;> exact h1
    · obtain ⟨C, hC, hm⟩ : ∃ C, k_ta t = .object C ∧ C ∈ ["TypedEngine$Method", "TypedEngine$Region", "TypedEngine$Frame"] := by
        rcases (show t = 3 ∨ t = 4 ∨ t = 5 by omega) with rfl | rfl | rfl
        · exact ⟨_, rfl, by decide⟩
        · exact ⟨_, rfl, by decide⟩
        · exact ⟨_, rfl, by decide⟩
      obtain ⟨comp, c, k, h1, h2, h3, h4, h5⟩ := Cond.arrayOver_spec (hts _ (ao_in.1 C hm))
      rw [hC]
      exact ⟨c, fun _ => ⟨fun n z => ⟨fun k h => (by cases h), k, h3, comp, h4⟩, k, comp, h3, h4, h1, h5⟩⟩
  · exact ⟨0, fun h => absurd h ht⟩
theorem cls_at {args : Array Value} {s : State} (hts : ∀ w ∈ lw_tbl, w.before args s = true) (k : Nat) : ∃ x : ClassId × (Nat → Nat), ∀ q, k_cl[k]? = some q → u_Kn s q.1 q.2.1 q.2.2 x.1 x.2 := by
  cases hq : k_cl[k]? with
  | none => exact ⟨(0, fun _ => 0), fun q h => by cases h⟩
  | some q =>
    obtain ⟨cC, iS, h⟩ := u_known (C := q.1) (T := q.2.1) (N := q.2.2) (n := q.2.2) (gw_of hts) (k_in hq) (gw_of hts _ (k_pl hq).1)
    exact ⟨(cC, iS), fun q2 h2 => by cases h2; exact h⟩
theorem start_KK {args : Array Value} {s : State} (hts : ∀ w ∈ lw_tbl, w.before args s = true) : ∃ (ca : Nat → ClassId) (D : va_G), KK ca D s := by
  refine ⟨fun t => Classical.choose (arr_at hts t), (fun k => (Classical.choose (cls_at hts k)).1, fun k => (Classical.choose (cls_at hts k)).2), ⟨fun c q hq => Classical.choose_spec (cls_at hts c) q hq, fun k q hk => ?_⟩, ⟨hts _ (ao_in.1 _ (by decide)), hts _ (ao_in.1 _ (by decide)), hts _ (ao_in.1 _ (by decide))⟩, va_Nw.of rfl (hts _ ao_in.2)⟩
  have h6 : k < 6 := (List.getElem?_eq_some_iff.mp hk).1
  rw [tys_at h6] at hk
  cases hk
  exact Classical.choose_spec (arr_at hts k) h6
set_option maxHeartbeats 2000000 in
theorem whole_of (hPure : Pure) {p : Program} {e : Env} {s : State} {m : MethodId} {below : List Frame} {meth : Method} {c : Code} (l : Launch) {b L : Nat} {xs : Nat → Int32} (hL : L ≤ 2048) (C0 : lw_At p s m meth c b L xs) : W p l e room_1 s m #[Value.ref b] below meth c s.heap [] 0 0 (lw_Z below #[Value.ref b] s) (entryFrame m ([Value.ref b] : List Value).toArray 4) := by
  obtain ⟨hx, hb, hr, hml, hown, hts, hX, hbl, hlocks, hgv⟩ := C0
  obtain ⟨ca, D, hKK⟩ := start_KK hts
  obtain ⟨n, h, hrun, h1, h2⟩ := hPure s.heap.size b L xs hbl hL
  rw [lg_entry_eq]
  have X : SX p s m #[Value.ref b] meth c s.heap.size ca D m_La_law.2.2.2.2.2.2.1 m_La_law.2.2.2.2.2.2.2 m_La_law.2.1 m_La_law.2.2.1 (scr b L xs) := ⟨hx, hb, hml, hown, gw_of hts, hKK, fun z => absurd z (by decide), Nat.le_refl _, fun a y z => by
    unfold scr at z
    split at z
    · rename_i ha
      cases z
      subst ha
      exact ⟨hX, hbl⟩
    · cases z⟩
  refine GT l s.heap.size ca D n (scr b L xs) 9 0 0 _ [] [] _ h hrun m_La_law rfl X ⟨rfl, fun k e hk => by simp at hk⟩ va_S.rf (lv_entry ([.ref b]) (n := 4) (Nat.le_of_ble_eq_true rfl)) (by decide) (by decide) ?_ ?_ ?_
  · show 0 + (h.length - 0) ≤ 600000
    omega
  · show 0 + (sl h - sl []) ≤ 7302250
    omega
  · intro x pc st H1 locs1 ls1 hok hv hP hS
    obtain ⟨op, len, r1, r2, r3⟩ := x
    simp only [okI, Bool.and_eq_true, decide_eq_true_eq, Bool.or_eq_true] at hok
    obtain ⟨⟨hdg, hln⟩, hok⟩ := hok
    cases op with
    | ireturn =>
      have hln : len = _ := hln.resolve_left (fun z => by cases z)
      simp only [ilen] at hln
      subst hln
      simp only [rtv] at hv
      split at hv
      · split at hv
        · cases hv
          refine va_forget (fun q hq => hS.2.2 q hq) ?_
          refine W.widen (k := 600000) (n := 7302250) ?_ ?_ ?_
          · show 0 + (h.length - 0) ≤ 600000
            omega
          · show 0 + (sl h - sl []) ≤ 7302250
            omega
          · exact lw_ret hx hb hr hlocks hdg
        · cases hv
      all_goals first | (cases hv; done) | simp_all
    | lreturn =>
      simp only [rtv] at hv
      split at hv <;> first | (cases hv; done) | simp_all
    | areturn =>
      simp only [rtv] at hv
      split at hv <;> first | (cases hv; done) | simp_all
    | return_ =>
      simp only [rtv] at hv
      split at hv <;> first | (cases hv; done) | simp_all
    | _ => simp [rtv] at hv
