theorem hq_k {n : Nat} {v : Value} {pc : Nat} {lv : LV} {st : List Value} {h : List PE} {t : PS} (hst : q_k n v pc lv st h = some t) : h.length ≤ t.2.2.2.length ∧ sl h ≤ sl t.2.2.2 := by
  unfold q_k at hst
  repeat' split at hst
  all_goals first | (cases hst; exact ⟨Nat.le_refl _, Nat.le_refl _⟩) | cases hst
theorem hq_ldi {n i : Nat} {pc : Nat} {lv : LV} {st : List Value} {h : List PE} {t : PS} (hst : q_ldi n i pc lv st h = some t) : h.length ≤ t.2.2.2.length ∧ sl h ≤ sl t.2.2.2 := by
  unfold q_ldi at hst
  repeat' split at hst
  all_goals first | (cases hst; exact ⟨Nat.le_refl _, Nat.le_refl _⟩) | cases hst
theorem hq_ldl {n i : Nat} {pc : Nat} {lv : LV} {st : List Value} {h : List PE} {t : PS} (hst : q_ldl n i pc lv st h = some t) : h.length ≤ t.2.2.2.length ∧ sl h ≤ sl t.2.2.2 := by
  unfold q_ldl at hst
  repeat' split at hst
  all_goals first | (cases hst; exact ⟨Nat.le_refl _, Nat.le_refl _⟩) | cases hst
theorem hq_lda {n i : Nat} {pc : Nat} {lv : LV} {st : List Value} {h : List PE} {t : PS} (hst : q_lda n i pc lv st h = some t) : h.length ≤ t.2.2.2.length ∧ sl h ≤ sl t.2.2.2 := by
  unfold q_lda at hst
  repeat' split at hst
  all_goals first | (cases hst; exact ⟨Nat.le_refl _, Nat.le_refl _⟩) | cases hst
theorem hq_sti {n i : Nat} {pc : Nat} {lv : LV} {st : List Value} {h : List PE} {t : PS} (hst : q_sti n i pc lv st h = some t) : h.length ≤ t.2.2.2.length ∧ sl h ≤ sl t.2.2.2 := by
  unfold q_sti at hst
  repeat' split at hst
  all_goals first | (cases hst; exact ⟨Nat.le_refl _, Nat.le_refl _⟩) | cases hst
theorem hq_stl {n i : Nat} {pc : Nat} {lv : LV} {st : List Value} {h : List PE} {t : PS} (hst : q_stl n i pc lv st h = some t) : h.length ≤ t.2.2.2.length ∧ sl h ≤ sl t.2.2.2 := by
  unfold q_stl at hst
  repeat' split at hst
  all_goals first | (cases hst; exact ⟨Nat.le_refl _, Nat.le_refl _⟩) | cases hst
theorem hq_sta {n i : Nat} {pc : Nat} {lv : LV} {st : List Value} {h : List PE} {t : PS} (hst : q_sta n i pc lv st h = some t) : h.length ≤ t.2.2.2.length ∧ sl h ≤ sl t.2.2.2 := by
  unfold q_sta at hst
  repeat' split at hst
  all_goals first | (cases hst; exact ⟨Nat.le_refl _, Nat.le_refl _⟩) | cases hst
theorem hq_inc {i : Nat} {k : Int} {pc : Nat} {lv : LV} {st : List Value} {h : List PE} {t : PS} (hst : q_inc i k pc lv st h = some t) : h.length ≤ t.2.2.2.length ∧ sl h ≤ sl t.2.2.2 := by
  unfold q_inc at hst
  repeat' split at hst
  all_goals first | (cases hst; exact ⟨Nat.le_refl _, Nat.le_refl _⟩) | cases hst
theorem hq_i2 {f : Int32 → Int32 → Int32} {pc : Nat} {lv : LV} {st : List Value} {h : List PE} {t : PS} (hst : q_i2 f pc lv st h = some t) : h.length ≤ t.2.2.2.length ∧ sl h ≤ sl t.2.2.2 := by
  unfold q_i2 at hst
  repeat' split at hst
  all_goals first | (cases hst; exact ⟨Nat.le_refl _, Nat.le_refl _⟩) | cases hst
theorem hq_id {f : Int32 → Int32 → Int32} {pc : Nat} {lv : LV} {st : List Value} {h : List PE} {t : PS} (hst : q_id f pc lv st h = some t) : h.length ≤ t.2.2.2.length ∧ sl h ≤ sl t.2.2.2 := by
  unfold q_id at hst
  repeat' split at hst
  all_goals first | (cases hst; exact ⟨Nat.le_refl _, Nat.le_refl _⟩) | cases hst
theorem hq_l2 {f : Int64 → Int64 → Int64} {pc : Nat} {lv : LV} {st : List Value} {h : List PE} {t : PS} (hst : q_l2 f pc lv st h = some t) : h.length ≤ t.2.2.2.length ∧ sl h ≤ sl t.2.2.2 := by
  unfold q_l2 at hst
  repeat' split at hst
  all_goals first | (cases hst; exact ⟨Nat.le_refl _, Nat.le_refl _⟩) | cases hst
theorem hq_ls {f : Int64 → Int32 → Int64} {pc : Nat} {lv : LV} {st : List Value} {h : List PE} {t : PS} (hst : q_ls f pc lv st h = some t) : h.length ≤ t.2.2.2.length ∧ sl h ≤ sl t.2.2.2 := by
  unfold q_ls at hst
  repeat' split at hst
  all_goals first | (cases hst; exact ⟨Nat.le_refl _, Nat.le_refl _⟩) | cases hst
theorem hq_c1 {f : Int32 → Bool} {n : Nat} {pc : Nat} {lv : LV} {st : List Value} {h : List PE} {t : PS} (hst : q_c1 f n pc lv st h = some t) : h.length ≤ t.2.2.2.length ∧ sl h ≤ sl t.2.2.2 := by
  unfold q_c1 at hst
  repeat' split at hst
  all_goals first | (cases hst; exact ⟨Nat.le_refl _, Nat.le_refl _⟩) | cases hst
theorem hq_c2 {f : Int32 → Int32 → Bool} {n : Nat} {pc : Nat} {lv : LV} {st : List Value} {h : List PE} {t : PS} (hst : q_c2 f n pc lv st h = some t) : h.length ≤ t.2.2.2.length ∧ sl h ≤ sl t.2.2.2 := by
  unfold q_c2 at hst
  repeat' split at hst
  all_goals first | (cases hst; exact ⟨Nat.le_refl _, Nat.le_refl _⟩) | cases hst
theorem hq_tsw {d lo hi : Int} {offs : Array Int} {n : Nat} {pc : Nat} {lv : LV} {st : List Value} {h : List PE} {t : PS} (hst : q_tsw d lo hi offs n pc lv st h = some t) : h.length ≤ t.2.2.2.length ∧ sl h ≤ sl t.2.2.2 := by
  unfold q_tsw at hst
  repeat' split at hst
  all_goals first | (cases hst; exact ⟨Nat.le_refl _, Nat.le_refl _⟩) | cases hst
theorem hq_get {b c k : Nat} {pc : Nat} {lv : LV} {st : List Value} {h : List PE} {t : PS} (hst : q_get b c k pc lv st h = some t) : h.length ≤ t.2.2.2.length ∧ sl h ≤ sl t.2.2.2 := by
  unfold q_get at hst
  repeat' split at hst
  all_goals first | (cases hst; exact ⟨Nat.le_refl _, Nat.le_refl _⟩) | cases hst
theorem hq_len {b : Nat} {sc : SC} {pc : Nat} {lv : LV} {st : List Value} {h : List PE} {t : PS} (hst : q_len b sc pc lv st h = some t) : h.length ≤ t.2.2.2.length ∧ sl h ≤ sl t.2.2.2 := by
  unfold q_len at hst
  repeat' split at hst
  all_goals first | (cases hst; exact ⟨Nat.le_refl _, Nat.le_refl _⟩) | cases hst
theorem hq_iald {b : Nat} {sc : SC} {pc : Nat} {lv : LV} {st : List Value} {h : List PE} {t : PS} (hst : q_iald b sc pc lv st h = some t) : h.length ≤ t.2.2.2.length ∧ sl h ≤ sl t.2.2.2 := by
  unfold q_iald at hst
  repeat' split at hst
  all_goals first | (cases hst; exact ⟨Nat.le_refl _, Nat.le_refl _⟩) | cases hst
theorem hq_bald {b : Nat} {pc : Nat} {lv : LV} {st : List Value} {h : List PE} {t : PS} (hst : q_bald b pc lv st h = some t) : h.length ≤ t.2.2.2.length ∧ sl h ≤ sl t.2.2.2 := by
  unfold q_bald at hst
  repeat' split at hst
  all_goals first | (cases hst; exact ⟨Nat.le_refl _, Nat.le_refl _⟩) | cases hst
theorem hq_lald {b : Nat} {pc : Nat} {lv : LV} {st : List Value} {h : List PE} {t : PS} (hst : q_lald b pc lv st h = some t) : h.length ≤ t.2.2.2.length ∧ sl h ≤ sl t.2.2.2 := by
  unfold q_lald at hst
  repeat' split at hst
  all_goals first | (cases hst; exact ⟨Nat.le_refl _, Nat.le_refl _⟩) | cases hst
theorem hq_aald {b : Nat} {pc : Nat} {lv : LV} {st : List Value} {h : List PE} {t : PS} (hst : q_aald b pc lv st h = some t) : h.length ≤ t.2.2.2.length ∧ sl h ≤ sl t.2.2.2 := by
  unfold q_aald at hst
  repeat' split at hst
  all_goals first | (cases hst; exact ⟨Nat.le_refl _, Nat.le_refl _⟩) | cases hst
theorem hq_dup  {pc : Nat} {lv : LV} {st : List Value} {h : List PE} {t : PS} (hst : q_dup  pc lv st h = some t) : h.length ≤ t.2.2.2.length ∧ sl h ≤ sl t.2.2.2 := by
  unfold q_dup at hst
  repeat' split at hst
  all_goals first | (cases hst; exact ⟨Nat.le_refl _, Nat.le_refl _⟩) | cases hst
theorem hq_dup2  {pc : Nat} {lv : LV} {st : List Value} {h : List PE} {t : PS} (hst : q_dup2  pc lv st h = some t) : h.length ≤ t.2.2.2.length ∧ sl h ≤ sl t.2.2.2 := by
  unfold q_dup2 at hst
  repeat' split at hst
  all_goals first | (cases hst; exact ⟨Nat.le_refl _, Nat.le_refl _⟩) | cases hst
theorem hq_pop  {pc : Nat} {lv : LV} {st : List Value} {h : List PE} {t : PS} (hst : q_pop  pc lv st h = some t) : h.length ≤ t.2.2.2.length ∧ sl h ≤ sl t.2.2.2 := by
  unfold q_pop at hst
  repeat' split at hst
  all_goals first | (cases hst; exact ⟨Nat.le_refl _, Nat.le_refl _⟩) | cases hst
theorem hq_pop2  {pc : Nat} {lv : LV} {st : List Value} {h : List PE} {t : PS} (hst : q_pop2  pc lv st h = some t) : h.length ≤ t.2.2.2.length ∧ sl h ≤ sl t.2.2.2 := by
  unfold q_pop2 at hst
  repeat' split at hst
  all_goals first | (cases hst; exact ⟨Nat.le_refl _, Nat.le_refl _⟩) | cases hst
theorem hq_i2l  {pc : Nat} {lv : LV} {st : List Value} {h : List PE} {t : PS} (hst : q_i2l  pc lv st h = some t) : h.length ≤ t.2.2.2.length ∧ sl h ≤ sl t.2.2.2 := by
  unfold q_i2l at hst
  repeat' split at hst
  all_goals first | (cases hst; exact ⟨Nat.le_refl _, Nat.le_refl _⟩) | cases hst
theorem hq_l2i  {pc : Nat} {lv : LV} {st : List Value} {h : List PE} {t : PS} (hst : q_l2i  pc lv st h = some t) : h.length ≤ t.2.2.2.length ∧ sl h ≤ sl t.2.2.2 := by
  unfold q_l2i at hst
  repeat' split at hst
  all_goals first | (cases hst; exact ⟨Nat.le_refl _, Nat.le_refl _⟩) | cases hst
theorem hq_lcmp  {pc : Nat} {lv : LV} {st : List Value} {h : List PE} {t : PS} (hst : q_lcmp  pc lv st h = some t) : h.length ≤ t.2.2.2.length ∧ sl h ≤ sl t.2.2.2 := by
  unfold q_lcmp at hst
  repeat' split at hst
  all_goals first | (cases hst; exact ⟨Nat.le_refl _, Nat.le_refl _⟩) | cases hst
theorem hq_nul {nn : Bool} {n : Nat} {pc : Nat} {lv : LV} {st : List Value} {h : List PE} {t : PS} (hst : q_nul nn n pc lv st h = some t) : h.length ≤ t.2.2.2.length ∧ sl h ≤ sl t.2.2.2 := by
  unfold q_nul at hst
  repeat' split at hst
  all_goals first | (cases hst; exact ⟨Nat.le_refl _, Nat.le_refl _⟩) | cases hst
theorem wr_mono {base a : Nat} {h : List PE} {e0 e1 : PE} (hr : rd base h a = some e0) (he : esz e1 = esz e0) : h.length ≤ (wr base h a e1).length ∧ sl h ≤ sl (wr base h a e1) := by
  obtain ⟨k, rfl, hk⟩ := rd_some hr
  rw [wr_at, List.length_set, sl_set hk he]
  exact ⟨Nat.le_refl _, Nat.le_refl _⟩
theorem app_mono {h : List PE} {e : PE} : h.length ≤ (h ++ [e]).length ∧ sl h ≤ sl (h ++ [e]) := by
  rw [sl_app, List.length_append]
  exact ⟨Nat.le_add_right _ _, Nat.le_add_right _ _⟩
theorem hq_put {b c k : Nat} {pc : Nat} {lv : LV} {st : List Value} {h : List PE} {t : PS} (hst : q_put b c k pc lv st h = some t) : h.length ≤ t.2.2.2.length ∧ sl h ≤ sl t.2.2.2 := by
  unfold q_put at hst
  split at hst
  · split at hst
    · rename_i hr
      split at hst
      · cases hst
        exact wr_mono hr (by simp [esz])
      · cases hst
    · cases hst
  · cases hst
theorem hq_iast {b : Nat} {pc : Nat} {lv : LV} {st : List Value} {h : List PE} {t : PS} (hst : q_iast b pc lv st h = some t) : h.length ≤ t.2.2.2.length ∧ sl h ≤ sl t.2.2.2 := by
  unfold q_iast at hst
  split at hst
  · split at hst
    · rename_i hr
      split at hst
      · cases hst
        exact wr_mono hr (by simp [esz])
      · cases hst
    · cases hst
  · cases hst
theorem hq_bast {b : Nat} {pc : Nat} {lv : LV} {st : List Value} {h : List PE} {t : PS} (hst : q_bast b pc lv st h = some t) : h.length ≤ t.2.2.2.length ∧ sl h ≤ sl t.2.2.2 := by
  unfold q_bast at hst
  split at hst
  · split at hst
    · rename_i hr
      split at hst
      · cases hst
        exact wr_mono hr (by simp [esz])
      · cases hst
    · cases hst
  · cases hst
theorem hq_last {b : Nat} {pc : Nat} {lv : LV} {st : List Value} {h : List PE} {t : PS} (hst : q_last b pc lv st h = some t) : h.length ≤ t.2.2.2.length ∧ sl h ≤ sl t.2.2.2 := by
  unfold q_last at hst
  split at hst
  · split at hst
    · rename_i hr
      split at hst
      · cases hst
        exact wr_mono hr (by simp [esz])
      · cases hst
    · cases hst
  · cases hst
theorem hq_aast {b : Nat} {pc : Nat} {lv : LV} {st : List Value} {h : List PE} {t : PS} (hst : q_aast b pc lv st h = some t) : h.length ≤ t.2.2.2.length ∧ sl h ≤ sl t.2.2.2 := by
  unfold q_aast at hst
  split at hst
  · split at hst
    · rename_i hr _
      split at hst
      · cases hst
        exact wr_mono hr (by simp [esz])
      · cases hst
    · cases hst
  · cases hst
theorem hq_newa {b n : Nat} {pc : Nat} {lv : LV} {st : List Value} {h : List PE} {t : PS} (hst : q_newa b n pc lv st h = some t) : h.length ≤ t.2.2.2.length ∧ sl h ≤ sl t.2.2.2 := by
  unfold q_newa at hst
  repeat' split at hst
  all_goals first | (cases hst; exact app_mono) | cases hst
theorem hq_newq {b n : Nat} {pc : Nat} {lv : LV} {st : List Value} {h : List PE} {t : PS} (hst : q_newq b n pc lv st h = some t) : h.length ≤ t.2.2.2.length ∧ sl h ≤ sl t.2.2.2 := by
  unfold q_newq at hst
  repeat' split at hst
  all_goals first | (cases hst; exact app_mono) | cases hst
set_option maxHeartbeats 2000000 in
theorem stp_mono {base : Nat} {sc : SC} {x : PI} {pc : Nat} {lv : LV} {st : List Value} {h : List PE} {t : PS} (hst : stp base sc x pc lv st h = some t) : h.length ≤ t.2.2.2.length ∧ sl h ≤ sl t.2.2.2 := by
  obtain ⟨op, len, r1, r2, r3⟩ := x
  cases op
  case ifCond cnd off => cases cnd <;> (simp only [stp] at hst; exact hq_c1 hst)
  case if_icmp cnd off => cases cnd <;> (simp only [stp] at hst; exact hq_c2 hst)
  all_goals simp only [stp] at hst
  all_goals first | (cases hst; done) | exact hq_k hst | exact hq_ldi hst | exact hq_ldl hst | exact hq_lda hst | exact hq_sti hst | exact hq_stl hst | exact hq_sta hst | exact hq_inc hst | exact hq_i2 hst | exact hq_id hst | exact hq_l2 hst | exact hq_ls hst | exact hq_tsw hst | exact hq_get hst | exact hq_len hst | exact hq_iald hst | exact hq_bald hst | exact hq_lald hst | exact hq_aald hst | exact hq_dup hst | exact hq_dup2 hst | exact hq_pop hst | exact hq_pop2 hst | exact hq_i2l hst | exact hq_l2i hst | exact hq_lcmp hst | exact hq_nul hst | exact hq_put hst | exact hq_iast hst | exact hq_bast hst | exact hq_last hst | exact hq_aast hst | exact hq_newa hst | exact hq_newq hst | (cases hst; exact ⟨Nat.le_refl _, Nat.le_refl _⟩) | (cases hst; exact app_mono)
theorem prun_mono {base : Nat} : ∀ (n : Nat) (sc : SC) (d M pc : Nat) (lv : LV) (st : List Value) (h : List PE) (r : Option Value × List PE), prun base n sc d M pc lv st h = some r → h.length ≤ r.2.length ∧ sl h ≤ sl r.2 := by
  intro n
  induction n with
  | zero => intro sc d M pc lv st h r hr; cases hr
  | succ n ih =>
    intro sc d M pc lv st h r hr
    unfold prun at hr
    split at hr
    · cases hr
    · rename_i x hf
      cases h1 : isRet x with
      | true =>
        rw [h1] at hr
        simp only [cond_true, Option.map_eq_some_iff] at hr
        obtain ⟨v, -, rfl⟩ := hr
        exact ⟨Nat.le_refl _, Nat.le_refl _⟩
      | false =>
        rw [h1] at hr
        simp only [cond_false] at hr
        cases h2 : isCall x with
        | true =>
          rw [h2] at hr
          simp only [cond_true] at hr
          split at hr
          · cases hr
          · rename_i c hc
            cases h3 : c.1 == 9999 with
            | true =>
              rw [h3] at hr
              simp only [cond_true] at hr
              split at hr
              · exact ih _ _ _ _ _ _ _ _ hr
              · cases hr
            | false =>
              rw [h3] at hr
              simp only [cond_false] at hr
              cases h4 : c.1 == 9998 with
              | true =>
                rw [h4] at hr
                simp only [cond_true] at hr
                split at hr
                · split at hr
                  · exact ih _ _ _ _ _ _ _ _ hr
                  · cases hr
                · cases hr
              | false =>
                rw [h4] at hr
                simp only [cond_false] at hr
                split at hr
                · cases hr
                · split at hr
                  · split at hr
                    · cases hr
                    · rename_i r1 hr1
                      have a1 := ih _ _ _ _ _ _ _ _ hr1
                      have a2 := ih _ _ _ _ _ _ _ _ hr
                      exact ⟨Nat.le_trans a1.1 a2.1, Nat.le_trans a1.2 a2.2⟩
                  · cases hr
        | false =>
          rw [h2] at hr
          simp only [cond_false] at hr
          split at hr
          · cases hr
          · rename_i t ht
            have a1 := stp_mono ht
            have a2 := ih _ _ _ _ _ _ _ _ hr
            exact ⟨Nat.le_trans a1.1 a2.1, Nat.le_trans a1.2 a2.2⟩
theorem fetch_ok {M pc : Nat} {x : PI} (hf : fetch M pc = some x) {mi : MI} (hM : mts[M]? = some mi) : okI mi.2.2.2.2.2.2.1 mi.2.2.2.2.2.2.2 mi.2.1 mi.2.2.1 mi.2.2.2.1 (pc, x) = true := by
  unfold fetch at hf
  rw [hM] at hf
  have hmem : (pc, x) ∈ mi.2.2.2.2.2.1 := by
    have hf : mi.2.2.2.2.2.1.lookup pc = some x := hf
    generalize mi.2.2.2.2.2.1 = L at hf
    induction L with
    | nil => cases hf
    | cons q t ih =>
      obtain ⟨j, w⟩ := q
      rw [List.lookup_cons] at hf
      split at hf
      · rename_i hb
        cases hf
        rw [beq_iff_eq] at hb
        subst hb
        exact List.mem_cons_self
      · exact List.mem_cons_of_mem _ (ih hf)
  exact List.all_eq_true.mp (ok_all hM) _ hmem
def rmd (d mc ms : Nat) : Room := { frames := d, cells := mc, slots := ms, locals := 43 * d }
def wsm (m : MI) : List Cond := Cond.code m.1 m.2.1 m.2.2.1 m.2.2.2.1 :: gw
def PcM (base : Nat) (ca : Nat → ClassId) (D : va_G) (h : List PE) (U : State) : Prop := HP base ca D h U.heap ∧ KK ca D U
def QcM (base : Nat) (ca : Nat → ClassId) (D : va_G) (r : Option Value) (h : List PE) : Array Value → State → Outcome → State → Prop := fun _ st o t => (o = .returned r ∧ HP base ca D h t.heap) ∧ va_F (AA base) st t
/-- a run of the pure machine, n deep, is one of the real machine -/
def GTn (l : Launch) (base : Nat) (ca : Nat → ClassId) (D : va_G) (n : Nat) : Prop := ∀ (sc : SC) (d M pc : Nat) (lv : LV) (st : List Value) (h : List PE) (r : Option Value) (h' : List PE), prun base n sc d M pc lv st h = some (r, h') → ∀ (mi : MI), mts[M]? = some mi →
  ∀ {p : Program} {e : Env} {R : Room} {s : State} {m : MethodId} {args : Array Value} {below : List Frame} {meth : Method} {c : Code} {H : Heap} {locs : List Loc} {cells slots : Nat} {Q : State → Prop} {ls : Array Slot},
   SX p s m args meth c base ca D mi.2.2.2.2.2.2.1 mi.2.2.2.2.2.2.2 mi.2.1 mi.2.2.1 sc → HP base ca D h H → va_S (AA base) s.heap H locs → lv_has ls mi.2.2.1 lv → d ≤ R.frames → 43 * d ≤ R.locals → cells + (h'.length - h.length) ≤ R.cells → slots + (sl h' - sl h) ≤ R.slots →
   (∀ (x : PI) (pc : Nat) (st : List Value) (H1 : Heap) (locs1 : List Loc) (ls1 : Array Slot), okI mi.2.2.2.2.2.2.1 mi.2.2.2.2.2.2.2 mi.2.1 mi.2.2.1 mi.2.2.2.1 (pc, x) = true → rtv x st = some r → HP base ca D h' H1 → va_S (AA base) s.heap H1 locs1 → W p l e R s m args below meth c H1 locs1 (cells + (h'.length - h.length)) (slots + (sl h' - sl h)) Q (F0 m pc ls1 st)) →
   W p l e R s m args below meth c H locs cells slots Q (F0 m pc ls st)
set_option maxHeartbeats 2000000 in
/-- a return of a method: its contract's end -/
theorem retW {p : Program} {l : Launch} {e : Env} {R : Room} {s : State} {m : MethodId} {args : Array Value} {below : List Frame} {meth : Method} {c : Code} {H : Heap} {locs : List Loc} {cells slots : Nat} {ls : Array Slot} {base : Nat} {ca : Nat → ClassId} {D : va_G} {kc kd : Nat} {cc : ByteArray} {nL : Nat} {sc : SC} {rt : Option FieldType} {pc : Nat} {x : PI} {st : List Value} {r : Option Value} {h : List PE}
    (X : SX p s m args meth c base ca D kc kd cc nL sc) (hr : meth.sig.returnType = rt) (hlocks : meth.locks = false) (hok : okI kc kd cc nL rt (pc, x) = true) (hv : rtv x st = some r) (hP : HP base ca D h H) (hS : va_S (AA base) s.heap H locs) :
    W p l e R s m args below meth c H locs cells slots (MQ below (QcM base ca D r h) args s cells slots (AA base)) (F0 m pc ls st) := by
  obtain ⟨hx, hb, hml, hown, hts, hK, hin, hbs, hscr⟩ := X
  obtain ⟨op, len, r1, r2, r3⟩ := x
  simp only [okI, Bool.and_eq_true, decide_eq_true_eq, Bool.or_eq_true] at hok
  obtain ⟨⟨hdg, hln⟩, hok⟩ := hok
  cases op with
  | ireturn =>
    have hln : len = _ := hln.resolve_left (fun z => by cases z)
    simp only [ilen] at hln
    subst hln
    simp only [okX, decide_eq_true_eq] at hok
    simp only [rtv] at hv
    split at hv
    · split at hv
      · rename_i v ho
        cases hv
        rcases hok with ⟨h1, h2⟩ | ⟨h1, h2⟩
        · exact W.zret hx hb (hr.trans h2) rfl (fun t ht hW => ⟨⟨rfl, by rw [ht]; exact hP⟩, hS.F ht⟩) hS.2.2 hdg
        · subst h1
          refine W.zret hx hb (hr.trans h2) ?_ (fun t ht hW => ⟨⟨rfl, by rw [ht]; exact hP⟩, hS.F ht⟩) hS.2.2 hdg
          simp [okv] at ho
          rcases ho with rfl | rfl <;> rfl
      · cases hv
    all_goals first | (cases hv; done) | simp_all
  | lreturn =>
    have hln : len = _ := hln.resolve_left (fun z => by cases z)
    simp only [ilen] at hln
    subst hln
    simp only [okX, decide_eq_true_eq] at hok
    simp only [rtv] at hv
    split at hv
    all_goals first | (cases hv; done) | skip
    all_goals first | (cases hv; exact W.lret hx hb (hr.trans hok) (fun t ht hW => ⟨⟨rfl, by rw [ht]; exact hP⟩, hS.F ht⟩) hS.2.2 hdg) | simp_all
  | areturn =>
    have hln : len = _ := hln.resolve_left (fun z => by cases z)
    simp only [ilen] at hln
    subst hln
    simp only [okX] at hok
    simp only [rtv] at hv
    split at hok
    · split at hv
      all_goals first | (cases hv; done) | skip
      all_goals first | (cases hv; exact W.aret hx hb hr (Or.inl ⟨_, rfl⟩) (Or.inr ⟨_, rfl⟩) (fun t ht hW => ⟨⟨rfl, by rw [ht]; exact hP⟩, hS.F ht⟩) hS.2.2 hdg) | (cases hv; exact W.aret hx hb hr (Or.inl ⟨_, rfl⟩) (Or.inl rfl) (fun t ht hW => ⟨⟨rfl, by rw [ht]; exact hP⟩, hS.F ht⟩) hS.2.2 hdg) | simp_all
    · cases hok
  | return_ =>
    have hln : len = _ := hln.resolve_left (fun z => by cases z)
    simp only [ilen] at hln
    subst hln
    simp only [okX, decide_eq_true_eq] at hok
    simp only [rtv] at hv
    split at hv
    all_goals first | (cases hv; done) | skip
    all_goals first | (cases hv; exact W.vret hx hb (hr.trans hok) (fun t ht hW => ⟨⟨rfl, by rw [ht]; exact hP⟩, hS.F ht⟩) hS.2.2 hdg) | simp_all
  | _ => simp [rtv] at hv
set_option maxHeartbeats 2000000 in
/-- the contract of a method out of a run of it -/
theorem metOf {l : Launch} {base : Nat} {ca : Nat → ClassId} {D : va_G} {n : Nat} (G : GTn l base ca D n) {d M : Nat} {as : List Value} {h : List PE} {r : Option Value} {h' : List PE} (hr : prun base n (fun _ => none) d M 0 (lv_args 0 as) [] h = some (r, h')) {mi : MI} (hM : mts[M]? = some mi) (hM0 : M ≠ 0) (hl : (lg_sl as).length ≤ mxl M) :
    Met l mi.1 (wsm mi) (rmd d (h'.length - h.length) (sl h' - sl h)) (va_Pc as (PcM base ca D h)) (QcM base ca D r h') (h'.length - h.length) (sl h' - sl h) (AA base) := by
  obtain ⟨o1, o2, o3, o4, o5, o6, o7, o8, o9⟩ := oh_all hM hM0
  have hl : (lg_sl as).length ≤ mi.2.2.1 := by
    unfold mxl at hl
    rw [hM] at hl
    exact hl
  refine Met.ofW (cc := mi.2.1) (maxL := mi.2.2.1) (ret := mi.2.2.2.1) o1 rfl ?_
  intro p e s m args below meth c s₁ B hml hv
  obtain ⟨rfl, hP, hK⟩ := hv
  have hts := atoms_spec (ws := wsm mi) B.pre
  have hown : s.vm.findClass (cnm mi.2.2.2.2.2.2.1) = some m.cls := by
    rw [← o6]
    exact findClass_of_methodNamed B.named
  have hin : mi.2.2.2.2.2.2.2 = 2 → meth.name = "<init>" := fun z => by
    rw [(name_of_methodNamed B.named B.method).1]
    exact (o9 z).2.1
  rw [lg_entry_eq]
  have X : SX p s m as.toArray meth c base ca D mi.2.2.2.2.2.2.1 mi.2.2.2.2.2.2.2 mi.2.1 mi.2.2.1 (fun _ => none) := ⟨B.exec, B.bytes, hml, hown, fun w hw => hts w (List.mem_cons_of_mem _ hw), hK, hin, by rw [hP.1]; exact Nat.le_add_right _ _, fun a y z => by cases z⟩
  refine G (fun _ => none) d M 0 (lv_args 0 as) [] h r h' hr mi hM X hP va_S.rf (lv_entry as hl) (Nat.le_refl d) (Nat.le_refl _) (by rw [Nat.zero_add]; exact Nat.le_refl _) (by rw [Nat.zero_add]; exact Nat.le_refl _) ?_
  intro x pc st H1 locs1 ls1 hok hv hP1 hS1
  rw [Nat.zero_add, Nat.zero_add]
  exact retW X B.returns B.notSynchronized hok hv hP1 hS1
theorem blindM {base : Nat} {ca : Nat → ClassId} {D : va_G} {h : List PE} {as : List Value} : FrameBlind (va_Pc as (PcM base ca D h)) := fun a U g mk q => ⟨q.1, q.2.1, KK.same (u := U) (U := U.calling g mk a) rfl q.2.2⟩
set_option maxHeartbeats 2000000 in
/-- behind a call -/
theorem callW {p : Program} {l : Launch} {e : Env} {R : Room} {s : State} {m : MethodId} {args : Array Value} {below : List Frame} {meth : Method} {c : Code} {H : Heap} {locs : List Loc} {cells slots mc ms : Nat} {Q : State → Prop} {ls : Array Slot} {pc : Nat} {st rest : List Value} {a : Array Value} {base : Nat} {ca : Nat → ClassId} {D : va_G} {r : Option Value} {h' : List PE}
    (hr : va_Run p l e R s m args below meth c H locs cells slots mc ms (F0 m pc ls st) rest (QcM base ca D r h' a) (AA base)) (hS : va_S (AA base) s.heap H locs)
    (kk : ∀ (H1 : Heap) (locs1 : List Loc), HP base ca D h' H1 → va_S (AA base) s.heap H1 locs1 → W p l e R s m args below meth c H1 locs1 (cells + mc) (slots + ms) Q (F0 m (pc + 3) ls (r.toList ++ rest))) : W p l e R s m args below meth c H locs cells slots Q (F0 m pc ls st) := by
  intro T hT X
  obtain ⟨v, st₀, t, T', L, h0, X', hL, e1, e2, ⟨⟨hv, hp⟩, hz, hk⟩, st⟩ := hr T hT X
  cases hv
  rw [h0] at hz hk
  obtain ⟨t2, a1, b1⟩ := kk T'.heap (locs ++ L) (by rw [e1]; exact hp) ⟨Nat.le_trans hS.1 (by rw [e1]; exact hz), fun q h1 h2 => by rw [e1, hk q (Nat.lt_of_lt_of_le h1 hS.1) h2]; exact hS.2.1 q h1 h2, fun q hq => by
      rcases List.mem_append.mp hq with h | h
      · exact hS.2.2 q h
      · exact hL q h⟩ T' rfl X'
  exact ⟨t2, st t2 a1, b1⟩
theorem mts_99 : mts[9999]? = none := by decide +kernel
theorem mts_98 : mts[9998]? = none := by decide +kernel
theorem nest_ns : Cond.static y_nest ∉ lw_tbl := by decide +kernel
theorem nest_nv : Cond.selects y_nest.cls y_nest y_nest ∉ lw_tbl := by decide +kernel
theorem goodGw {ws : List Cond} (h : ∀ w ∈ ws, w ∈ gw) : GoodIn gw ws := fun w hw => ⟨h w hw, gw_good (h w hw)⟩
theorem wsm_gw {mi : MI} (hc : Cond.code mi.1 mi.2.1 mi.2.2.1 mi.2.2.2.1 ∈ gw) : ∀ w ∈ wsm mi, w ∈ gw := fun w hw => by
  rcases List.mem_cons.mp hw with rfl | h
  · exact hc
  · exact h
set_option maxHeartbeats 4000000 in
theorem GT (l : Launch) (base : Nat) (ca : Nat → ClassId) (D : va_G) : ∀ n, GTn l base ca D n := by
  intro n
  induction n with
  | zero => intro sc d M pc lv st h r h' hr; cases hr
  | succ n ih =>
    intro sc d M pc lv st h r h' hr mi hM p e R s m args below meth c H locs cells slots Q ls X hP hS hl hfr hlo hc hs HR
    have hmono := prun_mono (n + 1) sc d M pc lv st h (r, h') hr
    have X0 := X
    obtain ⟨hx, hb, hml, hown, hts, hK, hin, hbs, hscr⟩ := X0
    unfold prun at hr
    split at hr
    · cases hr
    · rename_i x hf
      have hok := fetch_ok hf hM
      cases h1 : isRet x with
      | true =>
        rw [h1] at hr
        simp only [cond_true, Option.map_eq_some_iff] at hr
        obtain ⟨v, hv, he⟩ := hr
        cases he
        have := HR x pc st H locs ls hok hv hP hS
        rw [Nat.sub_self, Nat.sub_self, Nat.add_zero, Nat.add_zero] at this
        exact this
      | false =>
        rw [h1] at hr
        simp only [cond_false] at hr
        cases h2 : isCall x with
        | false =>
          rw [h2] at hr
          simp only [cond_false] at hr
          split at hr
          · cases hr
          · rename_i t ht
            have a1 := stp_mono ht
            have a2 := prun_mono n _ _ _ _ _ _ _ _ hr
            have a1l := a1.1
            have a1s := a1.2
            have a2l : t.2.2.2.length ≤ h'.length := a2.1
            have a2s : sl t.2.2.2 ≤ sl h' := a2.2
            refine stepW X hok ht hP hS hl (by omega) (by omega) (fun H1 locs1 ls1 hP1 hS1 hl1 => ?_)
            refine ih _ _ _ _ _ _ _ _ _ hr mi hM X hP1 hS1 hl1 hfr hlo (by omega) (by omega) (fun x2 pc2 st2 H2 locs2 ls2 hok2 hv2 hP2 hS2 => ?_)
            have := HR x2 pc2 st2 H2 locs2 ls2 hok2 hv2 hP2 hS2
            rw [show cells + (t.2.2.2.length - h.length) + (h'.length - t.2.2.2.length) = cells + (h'.length - h.length) by omega, show slots + (sl t.2.2.2 - sl h) + (sl h' - sl t.2.2.2) = slots + (sl h' - sl h) by omega]
            exact this
        | true =>
          rw [h2] at hr
          simp only [cond_true] at hr
          split at hr
          · cases hr
          · rename_i cl hcl
            obtain ⟨op, len, r1, r2, r3⟩ := x
            simp only [okI, Bool.and_eq_true, decide_eq_true_eq, Bool.or_eq_true] at hok
            obtain ⟨⟨hdg, hln⟩, hok⟩ := hok
            -- what the callee does, and what comes behind it
            have key : ∀ (d' : Nat) (M2 : Nat) (as rest : List Value) (r1 : Option Value) (h1 : List PE) (mi2 : MI), d = d' + 1 → prun base n (fun _ => none) d' M2 0 (lv_args 0 as) [] h = some (r1, h1) → prun base n sc d M (pc + 3) lv (r1.toList ++ rest) h1 = some (r, h') → mts[M2]? = some mi2 → M2 ≠ 0 → (lg_sl as).length ≤ mxl M2 →
                (Met l mi2.1 (wsm mi2) (rmd d' (h1.length - h.length) (sl h1 - sl h)) (va_Pc as (PcM base ca D h)) (QcM base ca D r1 h1) (h1.length - h.length) (sl h1 - sl h) (AA base) → (d' + 1 ≤ R.frames ∧ 8 + (mi2.2.2.1 + 11) + 43 * d' ≤ R.locals) → (cells + (h1.length - h.length) ≤ R.cells ∧ slots + (sl h1 - sl h) ≤ R.slots) → va_Run p l e R s m args below meth c H locs cells slots (h1.length - h.length) (sl h1 - sl h) (F0 m pc ls st) rest (QcM base ca D r1 h1 as.toArray) (AA base)) →
                W p l e R s m args below meth c H locs cells slots Q (F0 m pc ls st) := by
              intro d' M2 as rest r1 h1 mi2 hd hr1 hr2 hM2 hM0 hsl hrun
              have b1 := prun_mono n _ _ _ _ _ _ _ _ hr1
              have b2 := prun_mono n _ _ _ _ _ _ _ _ hr2
              have b1l : h.length ≤ h1.length := b1.1
              have b1s : sl h ≤ sl h1 := b1.2
              have b2l : h1.length ≤ h'.length := b2.1
              have b2s : sl h1 ≤ sl h' := b2.2
              have h24 := (oh_all hM2 hM0).2.2.2.2.1
              refine callW (hrun (metOf ih hr1 hM2 hM0 hsl) ⟨by omega, by omega⟩ ⟨by omega, by omega⟩) hS (fun H1 locs1 hP1 hS1 => ?_)
              refine ih _ _ _ _ _ _ _ _ _ hr2 mi hM X hP1 hS1 hl hfr hlo (by omega) (by omega) (fun x2 pc2 st2 H2 locs2 ls2 hok2 hv2 hP2 hS2 => ?_)
              have := HR x2 pc2 st2 H2 locs2 ls2 hok2 hv2 hP2 hS2
              rw [show cells + (h1.length - h.length) + (h'.length - h1.length) = cells + (h'.length - h.length) by omega, show slots + (sl h1 - sl h) + (sl h' - sl h1) = slots + (sl h' - sl h) by omega]
              exact this
            cases op with
            | invokestatic i =>
              have hln : len = _ := hln.resolve_left (fun z => by cases z)
              simp only [ilen] at hln
              subst hln
              simp only [okX, Bool.and_eq_true, decide_eq_true_eq] at hok
              obtain ⟨hmt, hok⟩ := hok
              have hmt := mt_at hmt
              simp only [cll] at hcl
              split at hcl
              · rename_i hcl1
                cases hcl
                have hne : (r1 == 9999) = false := by
                  rw [beq_eq_false_iff_ne]
                  intro z
                  subst z
                  rw [if_neg (by decide)] at hok
                  simp [mts_99] at hok
                simp only [hne, cond_false] at hr
                by_cases h98 : r1 = 9998
                · subst h98
                  rw [if_pos rfl, decide_eq_true_eq] at hok
                  subst hok
                  simp only [beq_self_eq_true, cond_true] at hr
                  split at hr
                  · rename_i hd1
                    split at hr
                    · rename_i x y hxy
                      have hst0 : st = .int y :: .int x :: st.drop 2 := by
                        have h9 : st.take 2 = [.int y, .int x] := by
                          have := congrArg List.reverse hxy
                          simpa using this
                        calc st = st.take 2 ++ st.drop 2 := (List.take_append_drop 2 st).symm
                          _ = _ := by rw [h9]; rfl
                      rcases hmt with ⟨z, -⟩ | ⟨-, w1⟩ | ⟨-, z, -⟩
                      · exact absurd z (by show ¬ (9998 : Nat) = 9999; decide)
                      · rw [hst0]
                        refine va_mmin hx hb (by rw [hml]; exact hl.1.symm) hown (hts _ w1) (hts _ min_ok.1) (hts _ min_ok.2.1) (hts _ min_ok.2.2) (by omega) ?_ (by omega) (by omega) hdg ?_
                        · have h8 : ((st.drop 2).map fun v => v.category).sum ≤ 8 := hcl1.2
                          omega
                        · exact ih _ _ _ _ _ _ _ _ _ hr mi hM X hP hS hl hfr hlo hc hs HR
                      · exact absurd rfl z
                    · cases hr
                  · cases hr
                · rw [if_neg h98] at hok
                  have hn8 : (r1 == 9998) = false := by rw [beq_eq_false_iff_ne]; exact h98
                  simp only [hn8, cond_false] at hr
                  split at hok
                  · rename_i mi2 hM2
                    simp only [Bool.and_eq_true, decide_eq_true_eq] at hok
                    obtain ⟨⟨hk, hkd⟩, hM0⟩ := hok
                    obtain ⟨o1, o2, o3, o4, o5, o6, o7, o8, o9⟩ := oh_all hM2 hM0
                    have w1 : Cond.methodLink (cnm mi.2.2.2.2.2.2.1) i mi2.1 ∈ gw := by
                      rcases hmt with ⟨z, -⟩ | ⟨z, -⟩ | ⟨-, -, m3, hm3, w1 | ⟨n1, n2, n3⟩⟩
                      · exact absurd z (by rw [beq_eq_false_iff_ne] at hne; exact hne)
                      · exact absurd z h98
                      · have : m3 = mi2 := Option.some.inj (hm3.symm.trans hM2)
                        subst this
                        exact w1
                      · exfalso
                        have : m3 = mi2 := Option.some.inj (hm3.symm.trans hM2)
                        subst this
                        have hs0 := o7 hkd
                        rw [n3] at hs0
                        have := (List.mem_filter.mp hs0).1
                        exact absurd this nest_ns
                    split at hr
                    · cases hr
                    · rename_i d'
                      split at hr
                      · rename_i hsl
                        split at hr
                        · cases hr
                        · rename_i rr hr1
                          refine key d' r1 _ _ rr.1 rr.2 mi2 rfl hr1 hr hM2 hM0 hsl (fun hMet hR hC => ?_)
                          refine va_runS (As := (st.take r2).reverse) (rest := st.drop r2) (n := r2) ⟨hx, hb, hml, hown, hts⟩ hMet (va_cwS r2 hts (goodGw ?_) rfl rfl rfl (by rw [← hk]; exact o4) hR) ⟨blindM, fun U hU hW => ⟨rfl, by rw [hU]; exact hP, KK.warm hW hK⟩⟩ rfl (by simp; omega) hl.1 ?_ (lv_room hcl1.2) hdg hC
                          · intro w hw
                            unfold va_wsS at hw
                            rcases List.mem_append.mp hw with h9 | h9
                            · simp only [List.mem_cons, List.not_mem_nil, or_false] at h9
                              rcases h9 with rfl | rfl | rfl
                              · exact w1
                              · exact o7 hkd
                              · exact o3
                            · exact wsm_gw o2 w h9
                          · show st = _
                            rw [List.reverse_reverse, List.take_append_drop]
                      · cases hr
                  · cases hok
              · cases hcl
            | invokevirtual i =>
              have hln : len = _ := hln.resolve_left (fun z => by cases z)
              simp only [ilen] at hln
              subst hln
              simp only [okX, Bool.and_eq_true, decide_eq_true_eq] at hok
              obtain ⟨hmt, hok⟩ := hok
              have hmt := mt_at hmt
              split at hok
              · rename_i mi2 hM2
                simp only [Bool.and_eq_true, decide_eq_true_eq] at hok
                obtain ⟨hk, hkd⟩ := hok
                simp only [cll] at hcl
                split at hcl
                · rename_i b rr hrest
                  split at hcl
                  · rename_i o mi3 hrb hM3
                    have hmm : mi3 = mi2 := Option.some.inj (hM3.symm.trans hM2)
                    subst hmm
                    split at hcl
                    · rename_i hcl1
                      cases hcl
                      have hM0 : r1 ≠ 0 := fun z => by
                        subst z
                        cases hM2
                        exact absurd hkd (by decide +kernel)
                      have hne : (r1 == 9999) = false := by
                        rw [beq_eq_false_iff_ne]
                        intro z
                        subst z
                        rw [mts_99] at hM2
                        cases hM2
                      have hn8 : (r1 == 9998) = false := by
                        rw [beq_eq_false_iff_ne]
                        intro z
                        subst z
                        rw [mts_98] at hM2
                        cases hM2
                      simp only [hne, hn8, cond_false] at hr
                      obtain ⟨o1, o2, o3, o4, o5, o6, o7, o8, o9⟩ := oh_all hM2 hM0
                      have w1 : Cond.methodLink (cnm mi.2.2.2.2.2.2.1) i mi3.1 ∈ gw := by
                        rcases hmt with ⟨z, -⟩ | ⟨z, -⟩ | ⟨-, -, m3, hm3, w1 | ⟨n1, n2, n3⟩⟩
                        · exact absurd z (by rw [beq_eq_false_iff_ne] at hne; exact hne)
                        · exact absurd z (by rw [beq_eq_false_iff_ne] at hn8; exact hn8)
                        · have : m3 = mi3 := Option.some.inj (hm3.symm.trans hM2)
                          subst this
                          exact w1
                        · exfalso
                          have : m3 = mi3 := Option.some.inj (hm3.symm.trans hM2)
                          subst this
                          have hs0 := (o8 hkd).2
                          rw [n3] at hs0
                          exact absurd (List.mem_filter.mp hs0).1 nest_nv
                      split at hr
                      · cases hr
                      · rename_i d'
                        split at hr
                        · rename_i hsl
                          split at hr
                          · cases hr
                          · rename_i rv hr1
                            have hkl : r2 < st.length := by
                              have := congrArg List.length hrest
                              simp at this
                              omega
                            obtain ⟨ci, fs⟩ := o
                            obtain ⟨q, hq, hqc⟩ : ∃ q, k_cl[ci]? = some q ∧ q.1 = mi3.1.cls := by
                              have h9 := hcl1.1
                              cases hq : k_cl[ci]? with
                              | none => simp [hq] at h9
                              | some q => exact ⟨q, rfl, by simpa [hq] using h9⟩
                            refine key d' r1 _ _ rv.1 rv.2 mi3 rfl hr1 hr hM2 hM0 hsl (fun hMet hR hC => ?_)
                            refine va_runV (As := (st.take r2).reverse) (rest := rr) (n := r2) (b := b) (C := mi3.1.cls) ⟨hx, hb, hml, hown, hts⟩ hMet (cwV r2 hts (goodGw ?_) rfl rfl rfl ⟨rfl, by rw [← hk]; exact o4⟩ hR) ⟨blindM, ?_, fun U hU hW => ⟨rfl, by rw [hU]; exact hP, KK.warm hW hK⟩⟩ rfl (by simp; omega) hl.1 ?_ (lv_room hcl1.2) hdg hC
                            · intro w hw
                              unfold wsV at hw
                              rcases List.mem_append.mp hw with h9 | h9
                              · simp only [List.mem_cons, List.not_mem_nil, or_false] at h9
                                rcases h9 with rfl | rfl | rfl | rfl
                                · exact w1
                                · exact (o8 hkd).1
                                · exact (o8 hkd).2
                                · exact o3
                              · exact wsm_gw o2 w h9
                            · rw [← hqc]
                              exact va_recv hK.1 (hP.one hrb) hq (q0 := 0) rfl
                            · show st = _
                              rw [List.reverse_reverse, ← hrest, List.take_append_drop]
                        · cases hr
                    · cases hcl
                  · cases hcl
                · cases hcl
              · cases hok
            | invokespecial i =>
              have hln : len = _ := hln.resolve_left (fun z => by cases z)
              simp only [ilen] at hln
              subst hln
              simp only [okX, Bool.and_eq_true, decide_eq_true_eq] at hok
              obtain ⟨hmt, hok⟩ := hok
              have hmt := mt_at hmt
              simp only [cll] at hcl
              split at hcl
              · rename_i b rr hrest
                split at hcl
                · rename_i hcl1
                  cases hcl
                  have hkl : r2 < st.length := by
                    have := congrArg List.length hrest
                    simp at this
                    omega
                  split at hok
                  · rename_i h9
                    subst h9
                    have hk0 : r2 = 0 := by simpa using hok
                    subst hk0
                    have w1 : Cond.methodLink (cnm mi.2.2.2.2.2.2.1) i objectInit ∈ gw := by
                      rcases hmt with ⟨-, w1⟩ | ⟨z, -⟩ | ⟨z, -⟩
                      · exact w1
                      · exact absurd z (by show ¬ (9999 : Nat) = 9998; decide)
                      · exact absurd rfl z
                    simp only [beq_self_eq_true, cond_true] at hr
                    split at hr
                    · rename_i hd1
                      have hst0 : st = .ref b :: rr := by simpa using hrest
                      subst hst0
                      refine W.objInit hx hb hown (hts _ w1) (hts _ obj_ok.1) (hts _ obj_ok.2) rfl (by rw [hml]; exact hl.1) rfl hdg (by omega) ?_ ?_
                      · have h8 : (rr.map fun v => v.category).sum ≤ 8 := hcl1
                        show 2 * 0 + (rr.map fun v => v.category).sum + 12 ≤ R.locals
                        omega
                      · exact ih _ _ _ _ _ _ _ _ _ hr mi hM X hP hS hl hfr hlo hc hs HR
                    · cases hr
                  · rename_i h9
                    have hne : (r1 == 9999) = false := by rw [beq_eq_false_iff_ne]; exact h9
                    simp only [hne, cond_false] at hr
                    by_cases h98 : r1 = 9998
                    · subst h98
                      simp [mts_98] at hok
                    have hn8 : (r1 == 9998) = false := by rw [beq_eq_false_iff_ne]; exact h98
                    simp only [hn8, cond_false] at hr
                    split at hok
                    · rename_i mi2 hM2
                      simp only [Bool.and_eq_true, decide_eq_true_eq, Bool.or_eq_true] at hok
                      obtain ⟨hk, hkd⟩ := hok
                      have hM0 : r1 ≠ 0 := fun z => by
                        subst z
                        cases hM2
                        exact absurd hkd (by decide +kernel)
                      obtain ⟨o1, o2, o3, o4, o5, o6, o7, o8, o9⟩ := oh_all hM2 hM0
                      obtain ⟨w2, hnm, hret⟩ := o9 hkd
                      have w1 : Cond.methodLink (cnm mi.2.2.2.2.2.2.1) i mi2.1 ∈ gw ∨ (cnm mi.2.2.2.2.2.2.1 = "TypedEngine$Method" ∧ i = 22 ∧ mi2.1 = y_nest) := by
                        rcases hmt with ⟨z, -⟩ | ⟨z, -⟩ | ⟨-, -, m3, hm3, w1⟩
                        · exact absurd z h9
                        · exact absurd z h98
                        · have : m3 = mi2 := Option.some.inj (hm3.symm.trans hM2)
                          subst this
                          exact w1
                      split at hr
                      · cases hr
                      · rename_i d'
                        split at hr
                        · rename_i hsl
                          split at hr
                          · cases hr
                          · rename_i rv hr1
                            have hcode : wsm mi2 = Cond.code mi2.1 mi2.2.1 mi2.2.2.1 none :: gw := by unfold wsm; rw [hret]
                            refine key d' r1 _ _ rv.1 rv.2 mi2 rfl hr1 hr hM2 hM0 hsl (fun hMet hR hC => ?_)
                            have hst0 : st = (st.take r2).reverse.reverse ++ .ref b :: rr := by rw [List.reverse_reverse, ← hrest, List.take_append_drop]
                            rcases w1 with w1 | ⟨n1, n2, n3⟩
                            · exact va_runI (As := (st.take r2).reverse) (rest := rr) (n := r2) (b := b) ⟨hx, hb, hml, hown, hts⟩ hMet (cwI r2 hts (goodGw (wsm_gw o2)) hcode rfl rfl (hts _ o3) (hts _ w1) (hts _ w2) hnm (by rw [← hk]; exact o4) hR) ⟨blindM, fun U hU hW => ⟨rfl, by rw [hU]; exact hP, KK.warm hW hK⟩⟩ rfl (by simp; omega) hl.1 hst0 (lv_room hcl1) hdg hC
                            · have hN : va_Nw (.methodLinkNest (cnm mi.2.2.2.2.2.2.1) i mi2.1 "TypedEngine") s := by
                                rw [n1, n2, n3]
                                exact hK.2.2
                              exact va_runIN (As := (st.take r2).reverse) (rest := rr) (n := r2) (b := b) ⟨hx, hb, hml, hown, hts⟩ hMet ⟨va_cnB r2 hts (goodGw (wsm_gw o2)) hcode rfl rfl hN (hts _ o3) (by rw [← hk]; exact o4) hR, hnm, hts _ w2⟩ ⟨blindM, fun U hU hW => ⟨rfl, by rw [hU]; exact hP, KK.warm hW hK⟩⟩ rfl (by simp; omega) hl.1 hst0 (lv_room hcl1) hdg hC
                        · cases hr
                    · cases hok
                · cases hcl
              · cases hcl
            | _ => cases h2
