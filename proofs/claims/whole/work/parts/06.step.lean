theorem sl_app (h : List PE) (e : PE) : sl (h ++ [e]) = sl h + esz e := by simp [sl]
theorem sl_set {h : List PE} {k : Nat} {e0 e1 : PE} (hk : h[k]? = some e0) (he : esz e1 = esz e0) : sl (h.set k e1) = sl h := by
  unfold sl
  congr 1
  refine List.ext_getElem? fun i => ?_
  rw [List.getElem?_map, List.getElem?_map]
  by_cases hi : k = i
  · subst hi
    rw [List.getElem?_set_self (List.getElem?_eq_some_iff.mp hk).1, hk]
    simp [he]
  · rw [List.getElem?_set_ne hi]
set_option maxHeartbeats 4000000 in
set_option maxRecDepth 10000 in
theorem stepW {p : Program} {l : Launch} {e : Env} {R : Room} {s : State} {m : MethodId} {args : Array Value} {below : List Frame} {meth : Method} {c : Code} {H : Heap} {locs : List Loc} {cells slots : Nat} {Q : State → Prop}
    {base : Nat} {ca : Nat → ClassId} {D : va_G} {kc kd : Nat} {cc : ByteArray} {nL : Nat} {sc : SC} {pc : Nat} {ls : Array Slot} {st : List Value} {lv : LV} {h : List PE} {rt : Option FieldType} {x : PI} {t : PS}
    (X : SX p s m args meth c base ca D kc kd cc nL sc) (hok : okI kc kd cc nL rt (pc, x) = true) (hst : stp base sc x pc lv st h = some t) (hP : HP base ca D h H) (hS : va_S (AA base) s.heap H locs) (hl : lv_has ls nL lv)
    (hc : cells + (t.2.2.2.length - h.length) ≤ R.cells) (hs : slots + (sl t.2.2.2 - sl h) ≤ R.slots)
    (kk : ∀ (H1 : Heap) (locs1 : List Loc) (ls1 : Array Slot), HP base ca D t.2.2.2 H1 → va_S (AA base) s.heap H1 locs1 → lv_has ls1 nL t.2.1 → W p l e R s m args below meth c H1 locs1 (cells + (t.2.2.2.length - h.length)) (slots + (sl t.2.2.2 - sl h)) Q (F0 m t.1 ls1 t.2.2.1)) :
    W p l e R s m args below meth c H locs cells slots Q (F0 m pc ls st) := by
  obtain ⟨op, len, r1, r2, r3⟩ := x
  have X0 := X
  obtain ⟨hx, hb, hml, hown, hts, hK, hin, hbs, hscr⟩ := X0
  simp only [okI, Bool.and_eq_true, decide_eq_true_eq, Bool.or_eq_true] at hok
  obtain ⟨⟨hdg, hln⟩, hok⟩ := hok
  have keep : t.2.2.2 = h → ∀ ls1, lv_has ls1 nL t.2.1 → W p l e R s m args below meth c H locs cells slots Q (F0 m t.1 ls1 t.2.2.1) := by
    intro he ls1 h1
    have := kk H locs ls1 (by rw [he]; exact hP) hS h1
    rw [he, Nat.sub_self, Nat.sub_self, Nat.add_zero, Nat.add_zero] at this
    exact this
  cases op with
  | aconst_null =>
    have hln : len = _ := hln.resolve_left (fun z => by cases z)
    simp only [ilen] at hln
    subst hln
    simp only [stp, q_k] at hst
    cases hst
    exact lv_null hx hb hdg (keep rfl ls hl)
  | iconst n =>
    have hln : len = _ := hln.resolve_left (fun z => by cases z)
    simp only [ilen] at hln
    subst hln
    simp only [stp, q_k] at hst
    cases hst
    exact lv_iconst hx hb hdg rfl (keep rfl ls hl)
  | bipush n =>
    have hln : len = _ := hln.resolve_left (fun z => by cases z)
    simp only [ilen] at hln
    subst hln
    simp only [stp, q_k] at hst
    cases hst
    exact lv_bipush hx hb hdg rfl (keep rfl ls hl)
  | sipush n =>
    have hln : len = _ := hln.resolve_left (fun z => by cases z)
    simp only [ilen] at hln
    subst hln
    simp only [stp, q_k] at hst
    cases hst
    exact lv_sipush hx hb hdg rfl (keep rfl ls hl)
  | lconst n =>
    have hln : len = _ := hln.resolve_left (fun z => by cases z)
    simp only [ilen] at hln
    subst hln
    simp only [stp, q_k] at hst
    cases hst
    exact lv_lconst hx hb hdg rfl (keep rfl ls hl)
  | ldc2_w i =>
    have hln : len = _ := hln.resolve_left (fun z => by cases z)
    simp only [ilen] at hln
    subst hln
    simp only [stp, q_k] at hst
    cases hst
    simp only [okX, decide_eq_true_eq] at hok
    exact lv_ldc2 hx hb hown (hts _ (lt_at hok)) hdg (keep rfl ls hl)
  | iload i =>
    have hln : len = _ := hln.resolve_left (fun z => by cases z)
    simp only [ilen] at hln
    subst hln
    simp only [stp, q_ldi] at hst
    split at hst
    · rename_i v hv
      cases hst
      exact lv_iload hx hb hdg (lk_ls hl hv) (keep rfl ls hl)
    · cases hst
  | iload_n i =>
    have hln : len = _ := hln.resolve_left (fun z => by cases z)
    simp only [ilen] at hln
    subst hln
    simp only [stp, q_ldi] at hst
    split at hst
    · rename_i v hv
      cases hst
      exact lv_iload_n hx hb hdg rfl (lk_ls hl hv) (keep rfl ls hl)
    · cases hst
  | lload i =>
    have hln : len = _ := hln.resolve_left (fun z => by cases z)
    simp only [ilen] at hln
    subst hln
    simp only [stp, q_ldl] at hst
    split at hst
    · rename_i v hv
      cases hst
      exact lv_lload hx hb hdg (lk_ls hl hv) (keep rfl ls hl)
    · cases hst
  | lload_n i =>
    have hln : len = _ := hln.resolve_left (fun z => by cases z)
    simp only [ilen] at hln
    subst hln
    simp only [stp, q_ldl] at hst
    split at hst
    · rename_i v hv
      cases hst
      exact lv_lload_n hx hb hdg rfl (lk_ls hl hv) (keep rfl ls hl)
    · cases hst
  | aload i =>
    have hln : len = _ := hln.resolve_left (fun z => by cases z)
    simp only [ilen] at hln
    subst hln
    simp only [stp, q_lda] at hst
    split at hst
    · rename_i v hv
      cases hst
      exact lv_aload hx hb hdg (lk_ls hl hv) (keep rfl ls hl)
    · rename_i hv
      cases hst
      exact lv_aloadN hx hb hdg (lk_ls hl hv) (keep rfl ls hl)
    · cases hst
  | aload_n i =>
    have hln : len = _ := hln.resolve_left (fun z => by cases z)
    simp only [ilen] at hln
    subst hln
    simp only [stp, q_lda] at hst
    split at hst
    · rename_i v hv
      cases hst
      exact lv_aload_n hx hb hdg rfl (lk_ls hl hv) (keep rfl ls hl)
    · rename_i hv
      cases hst
      exact lv_aload_nN hx hb hdg rfl (lk_ls hl hv) (keep rfl ls hl)
    · cases hst
  | istore i =>
    have hln : len = _ := hln.resolve_left (fun z => by cases z)
    simp only [ilen] at hln
    subst hln
    simp only [okX, decide_eq_true_eq] at hok
    simp only [stp, q_sti] at hst
    split at hst
    · cases hst
      exact lv_istore hx hb hdg hl hok rfl (fun ls1 h1 => keep rfl ls1 h1)
    · cases hst
  | istore_n i =>
    have hln : len = _ := hln.resolve_left (fun z => by cases z)
    simp only [ilen] at hln
    subst hln
    simp only [okX, decide_eq_true_eq] at hok
    simp only [stp, q_sti] at hst
    split at hst
    · cases hst
      exact lv_istore_n hx hb hdg rfl hl hok rfl (fun ls1 h1 => keep rfl ls1 h1)
    · cases hst
  | lstore i =>
    have hln : len = _ := hln.resolve_left (fun z => by cases z)
    simp only [ilen] at hln
    subst hln
    simp only [okX, decide_eq_true_eq] at hok
    simp only [stp, q_stl] at hst
    split at hst
    · cases hst
      exact lv_lstore hx hb hdg hl hok rfl (fun ls1 h1 => keep rfl ls1 h1)
    · cases hst
  | lstore_n i =>
    have hln : len = _ := hln.resolve_left (fun z => by cases z)
    simp only [ilen] at hln
    subst hln
    simp only [okX, decide_eq_true_eq] at hok
    simp only [stp, q_stl] at hst
    split at hst
    · cases hst
      exact lv_lstore_n hx hb hdg rfl hl hok rfl (fun ls1 h1 => keep rfl ls1 h1)
    · cases hst
  | astore i =>
    have hln : len = _ := hln.resolve_left (fun z => by cases z)
    simp only [ilen] at hln
    subst hln
    simp only [okX, decide_eq_true_eq] at hok
    simp only [stp, q_sta] at hst
    split at hst
    · cases hst
      exact lv_astore hx hb hdg hl hok rfl (fun ls1 h1 => keep rfl ls1 h1)
    · cases hst
      exact lv_astoreN hx hb hdg hl hok rfl (fun ls1 h1 => keep rfl ls1 h1)
    · cases hst
  | astore_n i =>
    have hln : len = _ := hln.resolve_left (fun z => by cases z)
    simp only [ilen] at hln
    subst hln
    simp only [okX, decide_eq_true_eq] at hok
    simp only [stp, q_sta] at hst
    split at hst
    · cases hst
      exact lv_astore_n hx hb hdg rfl hl hok rfl (fun ls1 h1 => keep rfl ls1 h1)
    · cases hst
      exact lv_astore_nN hx hb hdg rfl hl hok rfl (fun ls1 h1 => keep rfl ls1 h1)
    · cases hst
  | iinc i k =>
    have hln : len = _ := hln.resolve_left (fun z => by cases z)
    simp only [ilen] at hln
    subst hln
    simp only [okX, decide_eq_true_eq] at hok
    simp only [stp, q_inc] at hst
    split at hst
    · rename_i v hv
      cases hst
      obtain ⟨j, hj⟩ := List.getElem?_of_mem (lk_at hv)
      exact lv_iinc hx hb hdg hl hj rfl hok rfl (fun ls1 h1 => keep rfl ls1 h1)
    · cases hst
  | iadd =>
    have hln : len = _ := hln.resolve_left (fun z => by cases z)
    simp only [ilen] at hln
    subst hln
    simp only [stp, q_i2] at hst
    split at hst
    · cases hst
      exact lv_iadd hx hb hdg (keep rfl ls hl)
    · cases hst
  | isub =>
    have hln : len = _ := hln.resolve_left (fun z => by cases z)
    simp only [ilen] at hln
    subst hln
    simp only [stp, q_i2] at hst
    split at hst
    · cases hst
      exact lv_isub hx hb hdg (keep rfl ls hl)
    · cases hst
  | imul =>
    have hln : len = _ := hln.resolve_left (fun z => by cases z)
    simp only [ilen] at hln
    subst hln
    simp only [stp, q_i2] at hst
    split at hst
    · cases hst
      exact lv_imul hx hb hdg (keep rfl ls hl)
    · cases hst
  | iand =>
    have hln : len = _ := hln.resolve_left (fun z => by cases z)
    simp only [ilen] at hln
    subst hln
    simp only [stp, q_i2] at hst
    split at hst
    · cases hst
      exact lv_iand hx hb hdg (keep rfl ls hl)
    · cases hst
  | ior =>
    have hln : len = _ := hln.resolve_left (fun z => by cases z)
    simp only [ilen] at hln
    subst hln
    simp only [stp, q_i2] at hst
    split at hst
    · cases hst
      exact lv_ior hx hb hdg (keep rfl ls hl)
    · cases hst
  | ixor =>
    have hln : len = _ := hln.resolve_left (fun z => by cases z)
    simp only [ilen] at hln
    subst hln
    simp only [stp, q_i2] at hst
    split at hst
    · cases hst
      exact lv_ixor hx hb hdg (keep rfl ls hl)
    · cases hst
  | ishl =>
    have hln : len = _ := hln.resolve_left (fun z => by cases z)
    simp only [ilen] at hln
    subst hln
    simp only [stp, q_i2] at hst
    split at hst
    · cases hst
      exact lv_ishl hx hb hdg (keep rfl ls hl)
    · cases hst
  | ishr =>
    have hln : len = _ := hln.resolve_left (fun z => by cases z)
    simp only [ilen] at hln
    subst hln
    simp only [stp, q_i2] at hst
    split at hst
    · cases hst
      exact lv_ishr hx hb hdg (keep rfl ls hl)
    · cases hst
  | iushr =>
    have hln : len = _ := hln.resolve_left (fun z => by cases z)
    simp only [ilen] at hln
    subst hln
    simp only [stp, q_i2] at hst
    split at hst
    · cases hst
      exact lv_iushr hx hb hdg rfl (keep rfl ls hl)
    · cases hst
  | idiv =>
    have hln : len = _ := hln.resolve_left (fun z => by cases z)
    simp only [ilen] at hln
    subst hln
    simp only [stp, q_id] at hst
    split at hst
    · split at hst
      · cases hst
      · rename_i hy
        cases hst
        exact lv_idiv hx hb hdg hy (keep rfl ls hl)
    · cases hst
  | irem =>
    have hln : len = _ := hln.resolve_left (fun z => by cases z)
    simp only [ilen] at hln
    subst hln
    simp only [stp, q_id] at hst
    split at hst
    · split at hst
      · cases hst
      · rename_i hy
        cases hst
        exact lv_irem hx hb hdg hy (keep rfl ls hl)
    · cases hst
  | lsub =>
    have hln : len = _ := hln.resolve_left (fun z => by cases z)
    simp only [ilen] at hln
    subst hln
    simp only [stp, q_l2] at hst
    split at hst
    · cases hst
      exact lv_lsub hx hb hdg (keep rfl ls hl)
    · cases hst
  | land =>
    have hln : len = _ := hln.resolve_left (fun z => by cases z)
    simp only [ilen] at hln
    subst hln
    simp only [stp, q_l2] at hst
    split at hst
    · cases hst
      exact lv_land hx hb hdg (keep rfl ls hl)
    · cases hst
  | lor =>
    have hln : len = _ := hln.resolve_left (fun z => by cases z)
    simp only [ilen] at hln
    subst hln
    simp only [stp, q_l2] at hst
    split at hst
    · cases hst
      exact lv_lor hx hb hdg (keep rfl ls hl)
    · cases hst
  | lshl =>
    have hln : len = _ := hln.resolve_left (fun z => by cases z)
    simp only [ilen] at hln
    subst hln
    simp only [stp, q_ls] at hst
    split at hst
    · cases hst
      exact lv_lshl hx hb hdg rfl (keep rfl ls hl)
    · cases hst
  | lshr =>
    have hln : len = _ := hln.resolve_left (fun z => by cases z)
    simp only [ilen] at hln
    subst hln
    simp only [stp, q_ls] at hst
    split at hst
    · cases hst
      exact lv_lshr hx hb hdg rfl (keep rfl ls hl)
    · cases hst
  | lushr =>
    have hln : len = _ := hln.resolve_left (fun z => by cases z)
    simp only [ilen] at hln
    subst hln
    simp only [stp, q_ls] at hst
    split at hst
    · cases hst
      exact lv_lushr hx hb hdg rfl (keep rfl ls hl)
    · cases hst
  | ifCond cnd off =>
    have hln : len = _ := hln.resolve_left (fun z => by cases z)
    simp only [ilen] at hln
    subst hln
    simp only [okX, decide_eq_true_eq] at hok
    cases cnd with
    | eq =>
      simp only [stp, q_c1] at hst
      split at hst
      · cases hst
        refine lv_if_eq hx hb hdg hok (fun z => ?_) (fun z => ?_)
        · have := keep rfl ls hl
          simp only [z, decide_true, decide_false, not_true, not_false_iff, cond_true, cond_false] at this
          exact this
        · have := keep rfl ls hl
          simp only [z, decide_true, decide_false, not_true, not_false_iff, cond_true, cond_false] at this
          exact this
      · cases hst
    | ne =>
      simp only [stp, q_c1] at hst
      split at hst
      · cases hst
        refine lv_if_ne hx hb hdg hok (fun z => ?_) (fun z => ?_)
        · have := keep rfl ls hl
          simp only [z, decide_true, decide_false, not_true, not_false_iff, cond_true, cond_false] at this
          exact this
        · have := keep rfl ls hl
          simp only [z, decide_true, decide_false, not_true, not_false_iff, cond_true, cond_false] at this
          exact this
      · cases hst
    | lt =>
      simp only [stp, q_c1] at hst
      split at hst
      · cases hst
        refine lv_if_lt hx hb hdg hok (fun z => ?_) (fun z => ?_)
        · have := keep rfl ls hl
          simp only [z, decide_true, decide_false, not_true, not_false_iff, cond_true, cond_false] at this
          exact this
        · have := keep rfl ls hl
          simp only [z, decide_true, decide_false, not_true, not_false_iff, cond_true, cond_false] at this
          exact this
      · cases hst
    | ge =>
      simp only [stp, q_c1] at hst
      split at hst
      · cases hst
        refine lv_if_ge hx hb hdg hok (fun z => ?_) (fun z => ?_)
        · have := keep rfl ls hl
          simp only [z, decide_true, decide_false, not_true, not_false_iff, cond_true, cond_false] at this
          exact this
        · have := keep rfl ls hl
          simp only [z, decide_true, decide_false, not_true, not_false_iff, cond_true, cond_false] at this
          exact this
      · cases hst
    | gt =>
      simp only [stp, q_c1] at hst
      split at hst
      · cases hst
        refine lv_if_gt hx hb hdg hok (fun z => ?_) (fun z => ?_)
        · have := keep rfl ls hl
          simp only [z, decide_true, decide_false, not_true, not_false_iff, cond_true, cond_false] at this
          exact this
        · have := keep rfl ls hl
          simp only [z, decide_true, decide_false, not_true, not_false_iff, cond_true, cond_false] at this
          exact this
      · cases hst
    | le =>
      simp only [stp, q_c1] at hst
      split at hst
      · cases hst
        refine lv_if_le hx hb hdg hok (fun z => ?_) (fun z => ?_)
        · have := keep rfl ls hl
          simp only [z, decide_true, decide_false, not_true, not_false_iff, cond_true, cond_false] at this
          exact this
        · have := keep rfl ls hl
          simp only [z, decide_true, decide_false, not_true, not_false_iff, cond_true, cond_false] at this
          exact this
      · cases hst
  | if_icmp cnd off =>
    have hln : len = _ := hln.resolve_left (fun z => by cases z)
    simp only [ilen] at hln
    subst hln
    simp only [okX, decide_eq_true_eq] at hok
    cases cnd with
    | eq =>
      simp only [stp, q_c2] at hst
      split at hst
      · cases hst
        refine lv_icmp_eq hx hb hdg hok (fun z => ?_) (fun z => ?_)
        · have := keep rfl ls hl
          simp only [z, decide_true, decide_false, not_true, not_false_iff, cond_true, cond_false] at this
          exact this
        · have := keep rfl ls hl
          simp only [z, decide_true, decide_false, not_true, not_false_iff, cond_true, cond_false] at this
          exact this
      · cases hst
    | ne =>
      simp only [stp, q_c2] at hst
      split at hst
      · cases hst
        refine lv_icmp_ne hx hb hdg hok (fun z => ?_) (fun z => ?_)
        · have := keep rfl ls hl
          simp only [z, decide_true, decide_false, not_true, not_false_iff, cond_true, cond_false] at this
          exact this
        · have := keep rfl ls hl
          simp only [z, decide_true, decide_false, not_true, not_false_iff, cond_true, cond_false] at this
          exact this
      · cases hst
    | lt =>
      simp only [stp, q_c2] at hst
      split at hst
      · cases hst
        refine lv_icmp_lt hx hb hdg hok (fun z => ?_) (fun z => ?_)
        · have := keep rfl ls hl
          simp only [z, decide_true, decide_false, not_true, not_false_iff, cond_true, cond_false] at this
          exact this
        · have := keep rfl ls hl
          simp only [z, decide_true, decide_false, not_true, not_false_iff, cond_true, cond_false] at this
          exact this
      · cases hst
    | ge =>
      simp only [stp, q_c2] at hst
      split at hst
      · cases hst
        refine lv_icmp_ge hx hb hdg hok (fun z => ?_) (fun z => ?_)
        · have := keep rfl ls hl
          simp only [z, decide_true, decide_false, not_true, not_false_iff, cond_true, cond_false] at this
          exact this
        · have := keep rfl ls hl
          simp only [z, decide_true, decide_false, not_true, not_false_iff, cond_true, cond_false] at this
          exact this
      · cases hst
    | gt =>
      simp only [stp, q_c2] at hst
      split at hst
      · cases hst
        refine lv_icmp_gt hx hb hdg hok (fun z => ?_) (fun z => ?_)
        · have := keep rfl ls hl
          simp only [z, decide_true, decide_false, not_true, not_false_iff, cond_true, cond_false] at this
          exact this
        · have := keep rfl ls hl
          simp only [z, decide_true, decide_false, not_true, not_false_iff, cond_true, cond_false] at this
          exact this
      · cases hst
    | le =>
      simp only [stp, q_c2] at hst
      split at hst
      · cases hst
        refine lv_icmp_le hx hb hdg hok (fun z => ?_) (fun z => ?_)
        · have := keep rfl ls hl
          simp only [z, decide_true, decide_false, not_true, not_false_iff, cond_true, cond_false] at this
          exact this
        · have := keep rfl ls hl
          simp only [z, decide_true, decide_false, not_true, not_false_iff, cond_true, cond_false] at this
          exact this
      · cases hst
  | goto off =>
    have hln : len = _ := hln.resolve_left (fun z => by cases z)
    simp only [ilen] at hln
    subst hln
    simp only [okX, decide_eq_true_eq] at hok
    simp only [stp] at hst
    cases hst
    exact lv_goto hx hb hdg hok (keep rfl ls hl)
  | ifnull off =>
    have hln : len = _ := hln.resolve_left (fun z => by cases z)
    simp only [ilen] at hln
    subst hln
    simp only [okX, decide_eq_true_eq] at hok
    simp only [stp, q_nul, cond_false] at hst
    split at hst
    · cases hst
      exact lv_ifnullN hx hb hdg hok (keep rfl ls hl)
    · cases hst
      exact lv_ifnull hx hb hdg (keep rfl ls hl)
    · cases hst
  | ifnonnull off =>
    have hln : len = _ := hln.resolve_left (fun z => by cases z)
    simp only [ilen] at hln
    subst hln
    simp only [okX, decide_eq_true_eq] at hok
    simp only [stp, q_nul, cond_true] at hst
    split at hst
    · cases hst
      exact lv_ifnonnullN hx hb hdg (keep rfl ls hl)
    · cases hst
      exact lv_ifnonnull hx hb hdg hok (keep rfl ls hl)
    · cases hst
  | tableswitch d lo hi offs =>
    simp only [okX, decide_eq_true_eq] at hok
    simp only [stp, q_tsw] at hst
    split at hst
    · split at hst
      · rename_i z
        cases hst
        exact lv_tableOut hx hb hdg z hok (keep rfl ls hl)
      · rename_i z
        split at hst
        · rename_i off ho
          split at hst
          · rename_i h0
            cases hst
            exact lv_tableIn hx hb hdg (fun y => z (Or.inl y)) (fun y => z (Or.inr y)) ho (Int.toNat_of_nonneg h0).symm (keep rfl ls hl)
          · cases hst
        · cases hst
    · cases hst
  | getfield i =>
    have hln : len = _ := hln.resolve_left (fun z => by cases z)
    simp only [ilen] at hln
    subst hln
    simp only [stp, q_get] at hst
    split at hst
    · split at hst
      · rename_i o hr
        split at hst
        · rename_i ho
          split at hst
          · rename_i v hv
            cases hst
            obtain ⟨ci, fs⟩ := o
            have ho : ci = r1 := ho
            subst ho
            exact g_get X hP hr hv hok hdg (keep rfl ls hl)
          · cases hst
        · cases hst
      · cases hst
    · cases hst
  | putfield i =>
    have hln : len = _ := hln.resolve_left (fun z => by cases z)
    simp only [ilen] at hln
    subst hln
    simp only [stp, q_put] at hst
    split at hst
    · split at hst
      · rename_i o hr
        split at hst
        · rename_i ho
          cases hst
          obtain ⟨ci, fs⟩ := o
          obtain ⟨h1, h2, h3⟩ := ho
          have h1 : ci = r1 := h1
          subst h1
          refine g_put X hP hS hr h2 h3 hok hdg (fun H1 locs1 hP1 hS1 => ?_)
          have := kk H1 locs1 ls hP1 hS1 hl
          obtain ⟨k, rfl, hk⟩ := rd_some hr
          simp only [wr_at, List.length_set, Nat.sub_self, Nat.add_zero] at this
          rw [sl_set hk (by simp [esz]), Nat.sub_self, Nat.add_zero] at this
          exact this
        · cases hst
      · cases hst
    · cases hst
  | arraylength =>
    have hln : len = _ := hln.resolve_left (fun z => by cases z)
    simp only [ilen] at hln
    subst hln
    simp only [stp, q_len] at hst
    split at hst
    · split at hst
      · rename_i x hr
        split at hst
        · rename_i h6
          cases hst
          obtain ⟨t0, y⟩ := x
          exact va_alen hx hb hK.1 (hP.one hr) 0 t0 rfl (tys_at h6) rfl hdg (keep rfl ls hl)
        · cases hst
      · cases hst
      · split at hst
        · rename_i y hy
          cases hst
          obtain ⟨hX, hlt⟩ := hscr _ _ hy
          exact va_slen hx hb hX (Nat.lt_of_lt_of_le hlt hbs) (Nat.not_le.mpr hlt) hS hdg (keep rfl ls hl)
        · cases hst
    · cases hst
  | iaload =>
    have hln : len = _ := hln.resolve_left (fun z => by cases z)
    simp only [ilen] at hln
    subst hln
    simp only [stp, q_iald] at hst
    split at hst
    · split at hst
      · rename_i hr
        split at hst
        · rename_i h6
          cases hst
          obtain ⟨h1, h2⟩ := h6
          subst h1
          exact va_iald hx hb hK.1 (hP.one hr) 0 0 rfl (tys_at (by omega)) h2 hdg (keep rfl ls hl)
        · cases hst
      · cases hst
      · split at hst
        · rename_i y hy
          split at hst
          · rename_i h2
            cases hst
            obtain ⟨hX, hlt⟩ := hscr _ _ hy
            exact va_sld hx hb hX (Nat.lt_of_lt_of_le hlt hbs) (Nat.not_le.mpr hlt) hS h2 hdg (keep rfl ls hl)
          · cases hst
        · cases hst
    · cases hst
  | baload =>
    have hln : len = _ := hln.resolve_left (fun z => by cases z)
    simp only [ilen] at hln
    subst hln
    simp only [stp, q_bald] at hst
    split at hst
    · split at hst
      · rename_i hr
        split at hst
        · rename_i h6
          cases hst
          obtain ⟨h1, h2⟩ := h6
          subst h1
          exact va_zald hx hb hK.1 (hP.one hr) 0 2 rfl (tys_at (by omega)) h2 hdg (keep rfl ls hl)
        · cases hst
      · cases hst
    · cases hst
  | laload =>
    have hln : len = _ := hln.resolve_left (fun z => by cases z)
    simp only [ilen] at hln
    subst hln
    simp only [stp, q_lald] at hst
    split at hst
    · split at hst
      · rename_i hr
        split at hst
        · rename_i h6
          cases hst
          obtain ⟨h1, h2⟩ := h6
          subst h1
          exact va_lald hx hb hK.1 (hP.one hr) 0 1 rfl (tys_at (by omega)) h2 hdg (keep rfl ls hl)
        · cases hst
      · cases hst
    · cases hst
  | aaload =>
    have hln : len = _ := hln.resolve_left (fun z => by cases z)
    simp only [ilen] at hln
    subst hln
    simp only [stp, q_aald] at hst
    split at hst
    · split at hst
      · rename_i t0 _ _ hr
        split at hst
        · rename_i h6
          cases hst
          obtain ⟨h1, h2⟩ := h6
          obtain ⟨C, hC⟩ : ∃ C, k_ta t0 = .object C := by
            rcases (show t0 = 3 ∨ t0 = 4 ∨ t0 = 5 by omega) with rfl | rfl | rfl <;> exact ⟨_, rfl⟩
          exact va_aldq hx hb hK.1 (hP.one hr) 0 t0 rfl (by rw [tys_at h1.2, hC]) h2 hdg (keep rfl ls hl)
        · cases hst
      · cases hst
    · cases hst
  | iastore =>
    have hln : len = _ := hln.resolve_left (fun z => by cases z)
    simp only [ilen] at hln
    subst hln
    simp only [stp, q_iast] at hst
    split at hst
    · split at hst
      · rename_i hr
        split at hst
        · rename_i h6
          cases hst
          obtain ⟨h1, h2⟩ := h6
          subst h1
          refine g_iast X hP hS hr h2 hdg (fun H1 locs1 hP1 hS1 => ?_)
          have := kk H1 locs1 ls hP1 hS1 hl
          obtain ⟨k, rfl, hk⟩ := rd_some hr
          simp only [wr_at, List.length_set, Nat.sub_self, Nat.add_zero] at this
          rw [sl_set hk (by simp [esz]), Nat.sub_self, Nat.add_zero] at this
          exact this
        · cases hst
      · cases hst
    · cases hst
  | bastore =>
    have hln : len = _ := hln.resolve_left (fun z => by cases z)
    simp only [ilen] at hln
    subst hln
    simp only [stp, q_bast] at hst
    split at hst
    · split at hst
      · rename_i hr
        split at hst
        · rename_i h6
          cases hst
          obtain ⟨h1, h2⟩ := h6
          subst h1
          refine g_bast X hP hS hr h2 hdg (fun H1 locs1 hP1 hS1 => ?_)
          have := kk H1 locs1 ls hP1 hS1 hl
          obtain ⟨k, rfl, hk⟩ := rd_some hr
          simp only [wr_at, List.length_set, Nat.sub_self, Nat.add_zero] at this
          rw [sl_set hk (by simp [esz]), Nat.sub_self, Nat.add_zero] at this
          exact this
        · cases hst
      · cases hst
    · cases hst
  | lastore =>
    have hln : len = _ := hln.resolve_left (fun z => by cases z)
    simp only [ilen] at hln
    subst hln
    simp only [stp, q_last] at hst
    split at hst
    · split at hst
      · rename_i hr
        split at hst
        · rename_i h6
          cases hst
          obtain ⟨h1, h2⟩ := h6
          subst h1
          refine g_last X hP hS hr h2 hdg (fun H1 locs1 hP1 hS1 => ?_)
          have := kk H1 locs1 ls hP1 hS1 hl
          obtain ⟨k, rfl, hk⟩ := rd_some hr
          simp only [wr_at, List.length_set, Nat.sub_self, Nat.add_zero] at this
          rw [sl_set hk (by simp [esz]), Nat.sub_self, Nat.add_zero] at this
          exact this
        · cases hst
      · cases hst
    · cases hst
  | aastore =>
    have hln : len = _ := hln.resolve_left (fun z => by cases z)
    simp only [ilen] at hln
    subst hln
    simp only [stp, q_aast] at hst
    split at hst
    · split at hst
      · rename_i hr hrv
        split at hst
        · rename_i h6
          cases hst
          obtain ⟨⟨h1, h3⟩, h2⟩ := h6
          refine g_aast X hP hS hr hrv h1 h3 h2 hdg (fun H1 locs1 hP1 hS1 => ?_)
          have := kk H1 locs1 ls hP1 hS1 hl
          obtain ⟨k, rfl, hk⟩ := rd_some hr
          simp only [wr_at, List.length_set, Nat.sub_self, Nat.add_zero] at this
          rw [sl_set hk (by simp [esz]), Nat.sub_self, Nat.add_zero] at this
          exact this
        · cases hst
      · cases hst
    · cases hst
  | newarray a =>
    have hln : len = _ := hln.resolve_left (fun z => by cases z)
    simp only [ilen] at hln
    subst hln
    simp only [stp, q_newa] at hst
    split at hst
    · rename_i n r
      split at hst
      · rename_i h6
        cases hst
        simp only [sl_app, List.length_append, List.length_singleton, Nat.add_sub_cancel_left] at hc hs kk
        have e1 : esz (.inl (r1, narr r1 n.toNatClampNeg)) = n.toNatClampNeg := by show (narr r1 n.toNatClampNeg).1 = _; unfold narr; split <;> rfl
        rw [e1] at hs kk
        exact g_newa X hP hS h6.1 h6.2 hc hs hok hdg (fun H1 hP1 hS1 => kk H1 locs ls hP1 hS1 hl)
      · cases hst
    · cases hst
  | anewarray i =>
    have hln : len = _ := hln.resolve_left (fun z => by cases z)
    simp only [ilen] at hln
    subst hln
    simp only [stp, q_newq] at hst
    split at hst
    · rename_i n r
      split at hst
      · rename_i h6
        cases hst
        simp only [sl_app, List.length_append, List.length_singleton, Nat.add_sub_cancel_left] at hc hs kk
        have e1 : esz (.inl (r1, n.toNatClampNeg, .inr (.inr (.inr (.inr (fun _ => none)))))) = n.toNatClampNeg := by rfl
        rw [e1] at hs kk
        exact g_newq X hP hS h6.1 h6.2 hc hs hok hdg (fun H1 hP1 hS1 => kk H1 locs ls hP1 hS1 hl)
      · cases hst
    · cases hst
  | new i =>
    have hln : len = _ := hln.resolve_left (fun z => by cases z)
    simp only [ilen] at hln
    subst hln
    simp only [stp] at hst
    cases hst
    simp only [sl_app, List.length_append, List.length_singleton, Nat.add_sub_cancel_left] at hc hs kk
    exact g_new X hP hS hc hs hok hdg (fun H1 hP1 hS1 => kk H1 locs ls hP1 hS1 hl)
  | dup =>
    have hln : len = _ := hln.resolve_left (fun z => by cases z)
    simp only [ilen] at hln
    subst hln
    simp only [stp, q_dup] at hst
    split at hst
    · split at hst
      · rename_i h6
        cases hst
        exact lv_dup hx hb hdg h6 (keep rfl ls hl)
      · cases hst
    · cases hst
  | dup2 =>
    have hln : len = _ := hln.resolve_left (fun z => by cases z)
    simp only [ilen] at hln
    subst hln
    simp only [stp, q_dup2] at hst
    split at hst
    · split at hst
      · rename_i h6
        cases hst
        exact lv_dup2_11 hx hb hdg h6.1 h6.2 (keep rfl ls hl)
      · cases hst
    · cases hst
  | pop =>
    have hln : len = _ := hln.resolve_left (fun z => by cases z)
    simp only [ilen] at hln
    subst hln
    simp only [stp, q_pop] at hst
    split at hst
    · split at hst
      · rename_i h6
        cases hst
        exact lv_pop hx hb hdg h6 (keep rfl ls hl)
      · cases hst
    · cases hst
  | pop2 =>
    have hln : len = _ := hln.resolve_left (fun z => by cases z)
    simp only [ilen] at hln
    subst hln
    simp only [stp, q_pop2] at hst
    split at hst
    · split at hst
      · rename_i h6
        cases hst
        exact lv_pop2_2 hx hb hdg h6 (keep rfl ls hl)
      · cases hst
    · cases hst
  | i2l =>
    have hln : len = _ := hln.resolve_left (fun z => by cases z)
    simp only [ilen] at hln
    subst hln
    simp only [stp, q_i2l] at hst
    split at hst
    · cases hst
      exact lv_i2l hx hb hdg rfl (keep rfl ls hl)
    · cases hst
  | l2i =>
    have hln : len = _ := hln.resolve_left (fun z => by cases z)
    simp only [ilen] at hln
    subst hln
    simp only [stp, q_l2i] at hst
    split at hst
    · cases hst
      exact lv_l2i hx hb hdg rfl (keep rfl ls hl)
    · cases hst
  | lcmp =>
    have hln : len = _ := hln.resolve_left (fun z => by cases z)
    simp only [ilen] at hln
    subst hln
    simp only [stp, q_lcmp] at hst
    split at hst
    · cases hst
      exact W.lcmp hx hb hdg (keep rfl ls hl)
    · cases hst
  | _ => simp only [stp] at hst; cases hst
