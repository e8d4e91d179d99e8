/-! The reference's stack of types. -/
def SM (σ : SG) (o : Option (List Nat)) : Prop := match o with
  | none => zb (σ.1 0 27) = false
  | some l => zb (σ.1 0 27) = true ∧ σ.1 0 25 = Int32.ofNat l.length ∧ σ.2.1 0 26 = Int64.ofNat (enc l) ∧ l.length ≤ 9 ∧ ∀ t, t ∈ l → 1 ≤ t ∧ t < 15
def QM (σ σ1 : SG) : Prop := σ1.2.2 = σ.2.2 ∧ (∀ a f, ¬ (a = 0 ∧ f = 26) → σ1.2.1 a f = σ.2.1 a f) ∧ ∀ a f, ¬ (a = 0 ∧ (f = 25 ∨ f = 27)) → σ1.1 a f = σ.1 a f
theorem QM_refl (σ : SG) : QM σ σ := ⟨rfl, fun _ _ _ => rfl, fun _ _ _ => rfl⟩
theorem QM_trans {a b c : SG} (h : QM a b) (g : QM b c) : QM a c := ⟨g.1.trans h.1, fun x f p => (g.2.1 x f p).trans (h.2.1 x f p), fun x f p => (g.2.2 x f p).trans (h.2.2 x f p)⟩
theorem QM_I {σ : SG} {f : Nat} {v : Int32} (h : f = 25 ∨ f = 27) : QM σ (setI σ 0 f v) := by
  refine ⟨rfl, fun _ _ _ => rfl, fun a g hg => ?_⟩
  rw [rI, if_neg (by omega)]
theorem QM_J {σ : SG} {v : Int64} : QM σ (setJ σ 0 26 v) := by
  refine ⟨rfl, fun a g hg => ?_, fun _ _ _ => rfl⟩
  rw [rJ, if_neg hg]
def ps9 (t : Nat) (l : List Nat) : Option (List Nat) := if l.length < 9 ∧ t ≠ 0 then some (t :: l) else none
theorem SM_n {σ : SG} : SM (setI σ 0 27 (bz false)) none := by
  show zb ((setI σ 0 27 (bz false)).1 0 27) = false
  rw [rI, if_pos ⟨rfl, rfl⟩, zbz]
theorem SM_t {σ : SG} {l : List Nat} (h : SM σ (some l)) : SM (setI σ 0 27 (bz true)) (some l) := by
  obtain ⟨h1, h2, h3, h4, h5⟩ := h
  refine ⟨?_, ?_, h3, h4, h5⟩
  · rw [rI, if_pos ⟨rfl, rfl⟩, zbz]
  · rw [rI, if_neg (by omega)]; exact h2
theorem e9_lt {l : List Nat} (h4 : l.length ≤ 9) (h5 : ∀ t, t ∈ l → 1 ≤ t ∧ t < 15) : enc l < 2 ^ (4 * l.length) ∧ 2 ^ (4 * l.length) ≤ 68719476736 := by
  refine ⟨enc_lt l (fun t ht => by have := h5 t ht; omega), ?_⟩
  have h := p_mono h4
  have e : (2 : Nat) ^ (4 * 9) = 68719476736 := by decide
  omega
theorem m_push {σ : SG} {o : Option (List Nat)} {t : Nat} (h : SM σ o) (ht1 : o ≠ none → 1 ≤ t) (ht : t < 15) : ∃ σ1, F_Mo_push 0 (Int32.ofNat t) σ = some σ1 ∧ SM σ1 (o.bind (ps9 t)) ∧ QM σ σ1 := by
  cases o with
  | none =>
    have h' : zb (σ.1 0 27) = false := h
    refine ⟨setI σ 0 27 (bz false), ?_, SM_n, QM_I (by omega)⟩
    simp (disch := omega) only [F_Mo_push, F_Mo_push_21, F_Mo_push_22, h', if_neg, stl_e, rI, if_pos, zbz, ite_true, ite_false, if_true, if_false, Bool.false_eq_true, and_self, and_true, true_and, and_false, false_and]
  | some l =>
    have ht1' := ht1 (by simp)
    obtain ⟨h1, h2, h3, h4, h5⟩ := id h
    by_cases c : l.length < 9
    · have hb := e9_lt h4 h5
      have e : (Int64.ofNat (enc l) ||| ((Int32.ofNat t).toInt64 <<< ((Int32.ofNat (4 * l.length)).toInt64 &&& Int64.ofNat 63))) = Int64.ofNat (enc (t :: l)) := by
        rw [j_n _ (by omega), i_j _ (by omega), j_shl _ _ (by omega), j_or, b_or _ _ _ hb.1]
        rfl
      refine ⟨setI (setJ (setI σ 0 27 (bz true)) 0 26 (Int64.ofNat (enc (t :: l)))) 0 25 (Int32.ofNat (l.length + 1)), ?_, ?_, QM_trans (QM_I (by omega)) (QM_trans QM_J (QM_I (by omega)))⟩
      · simp (disch := omega) only [F_Mo_push, F_Mo_push_21, F_Mo_push_22, h1, h2, h3, if_neg, if_pos, stl_e, rI, rI2, rJ1, zbz, lit32, lit64n, n_le, n_mul, n_add, e, ite_true, ite_false, if_true, if_false, Bool.false_eq_true, and_self, and_true, true_and, and_false, false_and]
      · have e2 : (some l : Option (List Nat)).bind (ps9 t) = some (t :: l) := by
          show ps9 t l = _
          unfold ps9
          rw [if_pos ⟨c, by omega⟩]
        rw [e2]
        refine ⟨?_, ?_, ?_, by rw [List.length_cons]; omega, fun x hx => ?_⟩
        · rw [rI, if_neg (by omega), rJ1, rI, if_pos ⟨rfl, rfl⟩, zbz]
        · rw [rI, if_pos ⟨rfl, rfl⟩, List.length_cons]
        · rw [rI2, rJ, if_pos ⟨rfl, rfl⟩]
        · rcases List.mem_cons.mp hx with rfl | hx
          · omega
          · exact h5 x hx
    · refine ⟨setI σ 0 27 (bz false), ?_, ?_, QM_I (by omega)⟩
      · simp (disch := omega) only [F_Mo_push, F_Mo_push_21, F_Mo_push_22, h1, h2, if_neg, if_pos, stl_e, rI, zbz, lit32, n_le, ite_true, ite_false, if_true, if_false, Bool.false_eq_true, and_self, and_true, true_and, and_false, false_and]
      · have e2 : (some l : Option (List Nat)).bind (ps9 t) = none := by
          show ps9 t l = _
          unfold ps9
          rw [if_neg (fun z => c z.1)]
        rw [e2]
        exact SM_n
theorem m_pop {σ : SG} {o : Option (List Nat)} (h : SM σ o) : ∃ v σ1, F_Mo_pop 0 σ = some (Int32.ofNat v, σ1) ∧ v < 15 ∧ SM σ1 (o.bind (fun l => match l with | [] => none | _ :: l => some l)) ∧ (∀ x l, o = some (x :: l) → v = x) ∧ ((o = none ∨ o = some []) → v = 0) ∧ QM σ σ1 := by
  cases o with
  | none =>
    have h' : zb (σ.1 0 27) = false := h
    refine ⟨0, setI σ 0 27 (bz false), ?_, by omega, SM_n, (fun x l e => nomatch e), fun _ => rfl, QM_I (by omega)⟩
    simp (disch := omega) only [F_Mo_pop, F_Mo_pop_19, F_Mo_pop_20, h', if_neg, stl_e, rI, if_pos, zbz, lit32, ite_true, ite_false, if_true, if_false, Bool.false_eq_true, and_self, and_true, true_and, and_false, false_and]
  | some l =>
    obtain ⟨h1, h2, h3, h4, h5⟩ := id h
    cases l with
    | nil =>
      have h2' : σ.1 0 25 = Int32.ofNat 0 := h2
      refine ⟨0, setI σ 0 27 (bz false), ?_, by omega, SM_n, (fun x l e => by cases e), fun _ => rfl, QM_I (by omega)⟩
      simp (disch := omega) only [F_Mo_pop, F_Mo_pop_19, F_Mo_pop_20, h1, h2', if_neg, if_pos, stl_e, rI, zbz, lit32, n_le, ite_true, ite_false, if_true, if_false, Bool.false_eq_true, and_self, and_true, true_and, and_false, false_and]
    | cons x l =>
      have hx := h5 x List.mem_cons_self
      have h5' : ∀ t, t ∈ l → 1 ≤ t ∧ t < 15 := fun t ht => h5 t (List.mem_cons_of_mem _ ht)
      rw [List.length_cons] at h2 h4
      have hb := e9_lt (l := l) (by omega) h5'
      have hen : enc (x :: l) = enc l + x * 2 ^ (4 * l.length) := rfl
      have hb2 := e9_lt (l := x :: l) (by rw [List.length_cons]; omega) h5
      have e1 : ((Int64.ofNat (enc (x :: l)) >>> ((Int32.ofNat (4 * l.length)).toInt64 &&& Int64.ofNat 63)) &&& Int64.ofNat 15).toInt32 = Int32.ofNat x := by
        rw [j_n _ (by omega), j_shr _ _ (by omega) (by omega), j_and, b_15, j_i, hen, Nat.add_mul_div_right _ _ (p_pos _), Nat.div_eq_of_lt hb.1]
        congr 1
        omega
      have e2 : (Int64.ofNat (enc (x :: l)) &&& ((Int64.ofNat 1 <<< ((Int32.ofNat (4 * l.length)).toInt64 &&& Int64.ofNat 63)) - Int64.ofNat 1)) = Int64.ofNat (enc l) := by
        rw [j_n _ (by omega), j_shl _ _ (by omega), Nat.one_mul, j_m1 _ (by omega), j_and, Nat.and_two_pow_sub_one_eq_mod, hen, Nat.add_mul_mod_self_right, Nat.mod_eq_of_lt hb.1]
      refine ⟨x, setJ (setI (setI σ 0 27 (bz true)) 0 25 (Int32.ofNat l.length)) 0 26 (Int64.ofNat (enc l)), ?_, by omega, ?_, (fun y r e => by cases e; rfl), (fun e => by rcases e with e | e <;> cases e), QM_trans (QM_I (by omega)) (QM_trans (QM_I (by omega)) QM_J)⟩
      · simp (disch := omega) only [F_Mo_pop, F_Mo_pop_19, F_Mo_pop_20, h1, h2, h3, if_neg, if_pos, stl_e, rI, rI2, zbz, lit32, lit64n, n_le, n_sub, Nat.add_sub_cancel, n_mul, e1, e2, ite_true, ite_false, if_true, if_false, Bool.false_eq_true, and_self, and_true, true_and, and_false, false_and]
      · refine ⟨?_, ?_, ?_, by omega, h5'⟩
        · rw [rJ1, rI, if_neg (by omega), rI, if_pos ⟨rfl, rfl⟩, zbz]
        · rw [rJ1, rI, if_pos ⟨rfl, rfl⟩]
        · rw [rJ, if_pos ⟨rfl, rfl⟩]
theorem m_take {σ : SG} {o : Option (List Nat)} {t : Nat} (h : SM σ o) (ht1 : o ≠ none → 1 ≤ t) (ht : t < 15) : ∃ σ1, F_Mo_take 0 (Int32.ofNat t) σ = some σ1 ∧ SM σ1 (o.bind (wot t)) ∧ QM σ σ1 := by
  obtain ⟨v, σ1, hF, hv, hS, h1, h2, hQ⟩ := m_pop h
  have hQ3 : ∀ x, QM σ (setI σ1 0 27 x) := fun x => QM_trans hQ (QM_I (by omega))
  cases o with
  | none =>
    have hb : zb (σ1.1 0 27) = false := hS
    refine ⟨setI σ1 0 27 (bz false), ?_, SM_n, hQ3 _⟩
    simp (disch := omega) only [F_Mo_take, F_Mo_take_22, F_Mo_take_23, hF, hb, if_neg, stl_e, ite_true, ite_false, if_true, if_false, Bool.false_eq_true, and_self, and_true, true_and, and_false, false_and]
  | some l =>
    have ht1' := ht1 (by simp)
    cases l with
    | nil =>
      have hb : zb (σ1.1 0 27) = false := hS
      refine ⟨setI σ1 0 27 (bz false), ?_, SM_n, hQ3 _⟩
      simp (disch := omega) only [F_Mo_take, F_Mo_take_22, F_Mo_take_23, hF, hb, if_neg, stl_e, ite_true, ite_false, if_true, if_false, Bool.false_eq_true, and_self, and_true, true_and, and_false, false_and]
    | cons x l =>
      have hv' := h1 x l rfl
      have hS' : SM σ1 (some l) := hS
      have hb : zb (σ1.1 0 27) = true := hS'.1
      by_cases c : x = t
      · refine ⟨setI σ1 0 27 (bz true), ?_, ?_, hQ3 _⟩
        · simp (disch := omega) only [F_Mo_take, F_Mo_take_22, F_Mo_take_23, hF, hb, if_pos, n_eq, stl_e, ite_true, ite_false, if_true, if_false, Bool.false_eq_true, and_self, and_true, true_and, and_false, false_and]
        · have e2 : (some (x :: l) : Option (List Nat)).bind (wot t) = some l := by
            show wot t (x :: l) = _
            rw [wot_c, if_pos ⟨c, by omega⟩]
          rw [e2]
          exact SM_t hS'
      · refine ⟨setI σ1 0 27 (bz false), ?_, ?_, hQ3 _⟩
        · simp (disch := omega) only [F_Mo_take, F_Mo_take_22, F_Mo_take_23, hF, hb, if_pos, if_neg, n_eq, stl_e, ite_true, ite_false, if_true, if_false, Bool.false_eq_true, and_self, and_true, true_and, and_false, false_and]
        · have e2 : (some (x :: l) : Option (List Nat)).bind (wot t) = none := by
            show wot t (x :: l) = _
            rw [wot_c, if_neg (fun z => c z.1)]
          rw [e2]
          exact SM_n
theorem m_need {σ : SG} {o : Option (List Nat)} {b : Bool} (h : SM σ o) : ∃ σ1, F_Mo_need 0 b σ = some σ1 ∧ SM σ1 (o.bind (fun l => if b = true then some l else none)) ∧ QM σ σ1 := by
  cases o with
  | none =>
    have h' : zb (σ.1 0 27) = false := h
    refine ⟨setI σ 0 27 (bz false), ?_, SM_n, QM_I (by omega)⟩
    simp (disch := omega) only [F_Mo_need, F_Mo_need_16, F_Mo_need_17, h', if_neg, stl_e, ite_true, ite_false, if_true, if_false, Bool.false_eq_true, and_self, and_true, true_and, and_false, false_and]
  | some l =>
    obtain ⟨h1, h2, h3, h4, h5⟩ := id h
    cases b with
    | true =>
      refine ⟨setI σ 0 27 (bz true), ?_, SM_t h, QM_I (by omega)⟩
      simp (disch := omega) only [F_Mo_need, F_Mo_need_16, F_Mo_need_17, h1, if_pos, stl_e, ite_true, ite_false, if_true, if_false, Bool.false_eq_true, and_self, and_true, true_and, and_false, false_and]
    | false =>
      refine ⟨setI σ 0 27 (bz false), ?_, SM_n, QM_I (by omega)⟩
      simp (disch := omega) only [F_Mo_need, F_Mo_need_16, F_Mo_need_17, h1, if_pos, if_neg, stl_e, ite_true, ite_false, if_true, if_false, Bool.false_eq_true, and_self, and_true, true_and, and_false, false_and]
theorem bn {α : Type} {o : Option (List Nat)} {f : List Nat → Option α} (h : o.bind f ≠ none) : o ≠ none := by
  intro e
  rw [e] at h
  exact h rfl
theorem m_taken {σ : SG} {o : Option (List Nat)} {a b g : Nat} (h : SM σ o) (ha : a < 15) (hb1 : o ≠ none → 1 ≤ b) (hb : b < 15) (hg : g < 15) : ∃ σ1, F_Mo_taken 0 (Int32.ofNat a) (Int32.ofNat b) (Int32.ofNat g) σ = some σ1 ∧ SM σ1 ((if a = 0 then o.bind (wot b) else (o.bind (wot b)).bind (wot a)).bind (fun l => if g = 0 then some l else ps9 g l)) ∧ QM σ σ1 := by
  obtain ⟨σ1, hF1, hS1, hQ1⟩ := m_take (t := b) h hb1 hb
  have fin : ∀ s (o' : Option (List Nat)), SM s o' → ∃ σ1, F_Mo_taken_14 0 (Int32.ofNat g) s = some σ1 ∧ SM σ1 (o'.bind (fun l => if g = 0 then some l else ps9 g l)) ∧ QM s σ1 := by
    intro s o' hs
    by_cases c : g = 0
    · refine ⟨s, ?_, ?_, QM_refl _⟩
      · simp (disch := omega) only [F_Mo_taken_14, F_Mo_taken_23, lit32, n_le, if_pos, ite_true, ite_false, if_true, if_false, Bool.false_eq_true, and_self, and_true, true_and, and_false, false_and]
      · have e : (o'.bind fun l => if g = 0 then some l else ps9 g l) = o' := by
          cases o' with
          | none => rfl
          | some l =>
            show (if g = 0 then some l else ps9 g l) = some l
            rw [if_pos c]
        rw [e]
        exact hs
    · obtain ⟨σ2, hF, hS, hQ⟩ := m_push (t := g) hs (fun _ => by omega) hg
      refine ⟨σ2, ?_, ?_, hQ⟩
      · simp (disch := omega) only [F_Mo_taken_14, F_Mo_taken_23, lit32, n_le, if_neg, hF, ite_true, ite_false, if_true, if_false, Bool.false_eq_true, and_self, and_true, true_and, and_false, false_and]
      · have e : (o'.bind fun l => if g = 0 then some l else ps9 g l) = o'.bind (ps9 g) := by
          cases o' with
          | none => rfl
          | some l =>
            show (if g = 0 then some l else ps9 g l) = ps9 g l
            rw [if_neg c]
        rw [e]
        exact hS
  by_cases c : a = 0
  · obtain ⟨σ2, hF2, hS2, hQ2⟩ := fin σ1 _ hS1
    refine ⟨σ2, ?_, ?_, QM_trans hQ1 hQ2⟩
    · simp (disch := omega) only [F_Mo_taken, hF1, lit32, n_le, if_pos, hF2, ite_true, ite_false, if_true, if_false, Bool.false_eq_true, and_self, and_true, true_and, and_false, false_and]
    · rw [if_pos c]
      exact hS2
  · obtain ⟨σ2, hF2, hS2, hQ2⟩ := m_take (t := a) hS1 (fun _ => by omega) ha
    obtain ⟨σ3, hF3, hS3, hQ3⟩ := fin σ2 _ hS2
    refine ⟨σ3, ?_, ?_, QM_trans hQ1 (QM_trans hQ2 hQ3)⟩
    · simp (disch := omega) only [F_Mo_taken, hF1, lit32, n_le, if_neg, hF2, hF3, ite_true, ite_false, if_true, if_false, Bool.false_eq_true, and_self, and_true, true_and, and_false, false_and]
    · rw [if_neg c]
      exact hS3
