/-! The reference's flow. -/
theorem popA_none (im : Im) (k : Nat) : ∀ i, popA im k i none = none
  | 0 => rfl
  | i + 1 => popA_none im k i
theorem Tr9_none (im : Im) (m op k : Nat) : Tr9 im m op k none = none := by
  have hc : call9 im k none = none := by
    unfold call9
    rw [popA_none]
    simp only [Option.bind_none, ite_self]
  unfold Tr9
  simp only [Option.bind_none, hc, ite_self]
theorem m_inner_l {im : Im} {m p : Nat} {σ : SG} (hw : WfI im) (hm : m < im 0 1) (hW : WM im m) (h : BM im m σ) (hp : p < 1000) : ∀ c i fuel, i + c = im 9 m → c < fuel → (∀ q, q < i → ¬ iP im m q p ∧ ¬ iH im m q p) → ∃ y, F_Mo_innermost_7 fuel 0 (Int32.ofNat p) (Int32.ofNat (3 * m + i)) σ = some (y, σ) ∧ ((y = -Int32.ofNat 1 ∧ ∀ r, r < im 9 m → ¬ iP im m r p ∧ ¬ iH im m r p) ∨ ∃ r, r < im 9 m ∧ y = Int32.ofNat (3 * m + r) ∧ (iP im m r p ∨ iH im m r p) ∧ ∀ q, q < r → ¬ iP im m q p ∧ ¬ iH im m q p) := by
  obtain ⟨n1, n2, n3, n4⟩ := m_now hw hm h
  intro c
  induction c with
  | zero =>
    intro i fuel hi hf ha
    obtain ⟨fuel, rfl⟩ : ∃ x, fuel = x + 1 := ⟨fuel - 1, by omega⟩
    refine ⟨-Int32.ofNat 1, ?_, Or.inl ⟨rfl, fun r hr => ha r (by omega)⟩⟩
    simp (disch := omega) only [F_Mo_innermost_7, n1, lit32, n_nl0, n_cl, false_or, if_neg, cm_13, n3, n_mul, n_add, n_le, if_pos, ite_true, ite_false, if_true, if_false, Bool.false_eq_true, and_self, and_true, true_and, and_false, false_and]
  | succ c ih =>
    intro i fuel hi hf ha
    obtain ⟨fuel, rfl⟩ : ∃ x, fuel = x + 1 := ⟨fuel - 1, by omega⟩
    obtain ⟨w1, w2, w3, w4, w5, w6, w7, w8, w9, w10, w11⟩ := wf_m hw hm
    obtain ⟨b1, b2, b3, b4⟩ := w8 i (by omega)
    have e1 := RepM_A h.1 10 (3 * m + i) (by omega) (by omega)
    have e3 := RepM_A h.1 12 (3 * m + i) (by omega) (by omega)
    have hwm := hW i (by omega)
    by_cases c1 : p < im 10 (3 * m + i)
    · obtain ⟨y, hF, hY⟩ := ih (i + 1) fuel (by omega) (by omega) (fun q hq => by
        by_cases e : q = i
        · rw [e]; unfold iP iH; omega
        · exact ha q (by omega))
      refine ⟨y, ?_, hY⟩
      rw [← hF]
      simp (disch := omega) only [F_Mo_innermost_7, F_Mo_innermost_49, n1, lit32, n_nl0, n_cl, false_or, if_neg, cm_13, n3, n_mul, n_add, n_le, if_pos, cm_14, e1, n_lt, Nat.add_assoc, ite_true, ite_false, if_true, if_false, Bool.false_eq_true, and_self, and_true, true_and, and_false, false_and]
    · by_cases c2 : im 12 (3 * m + i) ≤ p
      · obtain ⟨y, hF, hY⟩ := ih (i + 1) fuel (by omega) (by omega) (fun q hq => by
          by_cases e : q = i
          · rw [e]; unfold iP iH; omega
          · exact ha q (by omega))
        refine ⟨y, ?_, hY⟩
        rw [← hF]
        simp (disch := omega) only [F_Mo_innermost_7, F_Mo_innermost_49, n1, lit32, n_nl0, n_cl, false_or, if_neg, cm_13, n3, n_mul, n_add, n_le, if_pos, cm_14, cm_16, e1, e3, n_lt, Nat.add_assoc, ite_true, ite_false, if_true, if_false, Bool.false_eq_true, and_self, and_true, true_and, and_false, false_and]
      · refine ⟨Int32.ofNat (3 * m + i), ?_, Or.inr ⟨i, by omega, rfl, ?_, ha⟩⟩
        · simp (disch := omega) only [F_Mo_innermost_7, n1, lit32, n_nl0, n_cl, false_or, if_neg, cm_13, n3, n_mul, n_add, n_le, cm_14, cm_16, e1, e3, n_lt, ite_true, ite_false, if_true, if_false, Bool.false_eq_true, and_self, and_true, true_and, and_false, false_and]
        · unfold iP iH
          omega
theorem m_inner {im : Im} {m p : Nat} {σ : SG} (hw : WfI im) (hm : m < im 0 1) (hW : WM im m) (h : BM im m σ) (hp : p < 1000) : ∃ y, F_Mo_innermost 0 (Int32.ofNat p) σ = some (y, σ) ∧ ((y = -Int32.ofNat 1 ∧ ∀ r, r < im 9 m → ¬ iP im m r p ∧ ¬ iH im m r p) ∨ ∃ r, r < im 9 m ∧ y = Int32.ofNat (3 * m + r) ∧ (iP im m r p ∨ iH im m r p) ∧ ∀ q, q < r → ¬ iP im m q p ∧ ¬ iH im m q p) := by
  obtain ⟨n1, n2, n3, n4⟩ := m_now hw hm h
  obtain ⟨y, hF, hY⟩ := m_inner_l hw hm hW h hp (im 9 m) 0 5000 (by omega) (by omega) (fun q hq => by omega)
  refine ⟨y, ?_, hY⟩
  rw [← hF]
  simp (disch := omega) only [F_Mo_innermost, n1, lit32, n_mul, Nat.add_zero, ite_true, ite_false, if_true, if_false, Bool.false_eq_true, and_self, and_true, true_and, and_false, false_and]
/-- a return lies in no region -/
theorem ret_l {im : Im} {m p : Nat} (hw : WfI im) (hm : m < im 0 1) (hW : WM im m) (hp : p < 1000) : ∀ c i fuel σ (o : Option (List Nat)), BM im m σ → SM σ o → i + c = im 9 m → c < fuel → ∃ s, F_Mo_calls_154 fuel 0 (Int32.ofNat p) (Int32.ofNat (3 * m + i)) σ = some s ∧ QM σ s ∧ ((SM s o ∧ (o = none ∨ ∀ r, i ≤ r → r < im 9 m → ¬ iP im m r p ∧ ¬ iH im m r p)) ∨ (SM s none ∧ ¬ ∀ r, i ≤ r → r < im 9 m → ¬ iP im m r p ∧ ¬ iH im m r p)) := by
  intro c
  induction c with
  | zero =>
    intro i fuel σ o h hS hi hf
    obtain ⟨fuel, rfl⟩ : ∃ x, fuel = x + 1 := ⟨fuel - 1, by omega⟩
    obtain ⟨n1, n2, n3, n4⟩ := m_now hw hm h
    refine ⟨σ, ?_, QM_refl _, Or.inl ⟨hS, Or.inr (fun r a b => by omega)⟩⟩
    simp (disch := omega) only [F_Mo_calls_154, F_Mo_calls_301, n1, lit32, n_nl0, n_cl, false_or, if_neg, cm_13, n3, n_mul, n_add, n_le, if_pos, ite_true, ite_false, if_true, if_false, Bool.false_eq_true, and_self, and_true, true_and, and_false, false_and]
  | succ c ih =>
    intro i fuel σ o h hS hi hf
    obtain ⟨fuel, rfl⟩ : ∃ x, fuel = x + 1 := ⟨fuel - 1, by omega⟩
    obtain ⟨n1, n2, n3, n4⟩ := m_now hw hm h
    obtain ⟨w1, w2, w3, w4, w5, w6, w7, w8, w9, w10, w11⟩ := wf_m hw hm
    obtain ⟨b1, b2, b3, b4⟩ := w8 i (by omega)
    have e1 := RepM_A h.1 10 (3 * m + i) (by omega) (by omega)
    have e3 := RepM_A h.1 12 (3 * m + i) (by omega) (by omega)
    have hwm := hW i (by omega)
    by_cases cc : im 10 (3 * m + i) ≤ p ∧ p < im 12 (3 * m + i)
    · obtain ⟨s1, f1, g1, q1⟩ := m_need (b := false) hS
      have g1' : SM s1 none := by
        cases o with
        | none => exact g1
        | some l => exact g1
      obtain ⟨s, k1, k2, k3⟩ := ih (i + 1) fuel s1 none (BM_QM h q1) g1' (by omega) (by omega)
      have hs : SM s none := by
        rcases k3 with ⟨a, -⟩ | ⟨a, -⟩
        · exact a
        · exact a
      refine ⟨s, ?_, QM_trans q1 k2, ?_⟩
      · rw [← k1]
        simp (disch := omega) only [F_Mo_calls_154, F_Mo_calls_203, n1, lit32, n_nl0, n_cl, false_or, if_neg, cm_13, n3, n_mul, n_add, n_le, if_pos, cm_14, cm_16, e1, e3, n_lt, f1, Nat.add_assoc, ite_true, ite_false, if_true, if_false, Bool.false_eq_true, and_self, and_true, true_and, and_false, false_and]
      · refine Or.inr ⟨hs, fun z => ?_⟩
        have := z i (by omega) (by omega)
        unfold iP iH at this
        omega
    · obtain ⟨s1, f1, g1, q1⟩ := m_need (b := true) hS
      have g1' : SM s1 o := by
        cases o with
        | none => exact g1
        | some l => exact g1
      obtain ⟨s, k1, k2, k3⟩ := ih (i + 1) fuel s1 o (BM_QM h q1) g1' (by omega) (by omega)
      refine ⟨s, ?_, QM_trans q1 k2, ?_⟩
      · rw [← k1]
        by_cases c1 : p < im 10 (3 * m + i)
        · simp (disch := omega) only [F_Mo_calls_154, F_Mo_calls_198, F_Mo_calls_203, n1, lit32, n_nl0, n_cl, false_or, if_neg, cm_13, n3, n_mul, n_add, n_le, if_pos, cm_14, cm_16, e1, e3, n_lt, f1, Nat.add_assoc, ite_true, ite_false, if_true, if_false, Bool.false_eq_true, and_self, and_true, true_and, and_false, false_and]
        · simp (disch := omega) only [F_Mo_calls_154, F_Mo_calls_198, F_Mo_calls_203, n1, lit32, n_nl0, n_cl, false_or, if_neg, cm_13, n3, n_mul, n_add, n_le, if_pos, cm_14, cm_16, e1, e3, n_lt, f1, Nat.add_assoc, ite_true, ite_false, if_true, if_false, Bool.false_eq_true, and_self, and_true, true_and, and_false, false_and]
      · have hno : ¬ iP im m i p ∧ ¬ iH im m i p := by
          unfold iP iH
          omega
        rcases k3 with ⟨a, b⟩ | ⟨a, b⟩
        · refine Or.inl ⟨a, ?_⟩
          rcases b with b | b
          · exact Or.inl b
          · refine Or.inr (fun r x y => ?_)
            by_cases er : r = i
            · rw [er]; exact hno
            · exact b r (by omega) y
        · exact Or.inr ⟨a, fun z => b (fun r x y => z r (by omega) y)⟩
theorem call_60 {im : Im} {m k : Nat} (hw : WfI im) (hk : k < im 0 1) : ∀ i fuel σ (o : Option (List Nat)), BM im m σ → SM σ o → i ≤ im 5 k → i < fuel → ∃ s, F_Mo_calls_60 fuel 0 (Int32.ofNat k) (Int32.ofNat i - Int32.ofNat 1) σ = some s ∧ QM σ s ∧ SM s (if im 4 k = 0 then popA im k i o else (popA im k i o).bind (ps9 (im 4 k))) := by
  obtain ⟨w1, w2, w3, w4, w5, w6, w7, w8, w9, w10, w11⟩ := wf_m hw hk
  have wc := (wf_c hw).1
  have w2' := tyP_lt w2 wc
  intro i
  induction i with
  | zero =>
    intro fuel σ o h hS hi hf
    obtain ⟨fuel, rfl⟩ : ∃ x, fuel = x + 1 := ⟨fuel - 1, by omega⟩
    have hneg : Int32.ofNat 0 - Int32.ofNat 1 < Int32.ofNat 0 := by decide
    have e4 := RepM_A h.1 4 k (by omega) (by omega)
    cases o with
    | none =>
      have hb : zb (σ.1 0 27) = false := hS
      refine ⟨σ, ?_, QM_refl _, ?_⟩
      · simp (disch := omega) only [F_Mo_calls_60, F_Mo_calls_301, lit32, hneg, if_pos, hb, if_neg, ite_true, ite_false, if_true, if_false, Bool.false_eq_true, and_self, and_true, true_and, and_false, false_and]
      · rw [popA_none]
        simp only [Option.bind_none, ite_self]
        exact hS
    | some l =>
      have hb : zb (σ.1 0 27) = true := hS.1
      by_cases c : im 4 k = 0
      · refine ⟨σ, ?_, QM_refl _, ?_⟩
        · simp (disch := omega) only [F_Mo_calls_60, F_Mo_calls_301, lit32, hneg, if_pos, hb, if_neg, n_nl0, n_cl, false_or, cm_8, e4, n_le, ite_true, ite_false, if_true, if_false, Bool.false_eq_true, and_self, and_true, true_and, and_false, false_and]
        · rw [if_pos c]
          exact hS
      · obtain ⟨s1, f1, g1, q1⟩ := m_push (t := im 4 k) hS (fun _ => by omega) (by omega)
        refine ⟨s1, ?_, q1, ?_⟩
        · simp (disch := omega) only [F_Mo_calls_60, F_Mo_calls_301, lit32, hneg, if_pos, hb, if_neg, n_nl0, n_cl, false_or, cm_8, e4, n_le, f1, ite_true, ite_false, if_true, if_false, Bool.false_eq_true, and_self, and_true, true_and, and_false, false_and]
        · rw [if_neg c]
          exact g1
  | succ i ih =>
    intro fuel σ o h hS hi hf
    obtain ⟨fuel, rfl⟩ : ∃ x, fuel = x + 1 := ⟨fuel - 1, by omega⟩
    have hty := w4 i (by omega)
    have ht := tyP_lt hty wc
    have e6 := RepM_A h.1 6 (3 * k + i) (by omega) (by omega)
    obtain ⟨s1, f1, g1, q1⟩ := m_take (t := im 6 (3 * k + i)) hS (fun _ => tyP_pos hty) (by omega)
    obtain ⟨s, k1, k2, k3⟩ := ih fuel s1 _ (BM_QM h q1) g1 (by omega) (by omega)
    have e : Int32.ofNat i + -Int32.ofNat 1 = Int32.ofNat i - Int32.ofNat 1 := Int32.add_neg_eq_sub
    refine ⟨s, ?_, QM_trans q1 k2, k3⟩
    simp (disch := omega) only [F_Mo_calls_60, lit32, n_sub (show 1 ≤ i + 1 by omega), Nat.add_sub_cancel, n_nl0, n_cl, false_or, if_neg, n_mul, n_add, cm_10, e6, f1, e, k1, ite_true, ite_false, if_true, if_false, Bool.false_eq_true, and_self, and_true, true_and, and_false, false_and]
/-- what an instruction leaves, and whether it may lie there -/
def InsR (im : Im) (m op k p : Nat) (l : List Nat) (σ : SG) : Prop := (∃ l', Tr9 im m op k (some l) = some l' ∧ lies im m op p l ∧ SM σ (some l')) ∨ (SM σ none ∧ ¬ (Tr9 im m op k (some l) ≠ none ∧ lies im m op p l))
theorem InsR_of {im : Im} {m op k p : Nat} {l : List Nat} {σ : SG} (h : SM σ (Tr9 im m op k (some l))) (hl : lies im m op p l) : InsR im m op k p l σ := by
  cases hT : Tr9 im m op k (some l) with
  | none =>
    rw [hT] at h
    exact Or.inr ⟨h, fun z => z.1 hT⟩
  | some l' =>
    rw [hT] at h
    exact Or.inl ⟨l', hT, hl, h⟩
set_option maxHeartbeats 8000000 in
theorem m_calls33 {im : Im} {m p : Nat} {σ : SG} {o : Option (List Nat)} (hw : WfI im) (hm : m < im 0 1) (hW : WM im m) (h : BM im m σ) (hS : SM σ o) (hp : p < 100) (hp2 : wdt 33 = 2 → p + 1 < 100) :
    ∃ σ1, F_Mo_calls 0 (Int32.ofNat p) (Int32.ofNat 33) σ = some σ1 ∧ QM σ σ1 ∧ (o = none → SM σ1 none) ∧ ∀ l, o = some l → InsR im m 33 (im 15 (100 * m + p + 1)) p l σ1 := by
  obtain ⟨n1, n2, n3, n4⟩ := m_now hw hm h
  obtain ⟨w1, w2, w3, w4, w5, w6, w7, w8, w9, w10, w11⟩ := wf_m hw hm
  have wc := wf_c hw
  have w2' := tyP_lt w2 wc.1
  have hk := RepM_b h.1 15 (100 * m + p + 1)
  generalize hkk : im 15 (100 * m + p + 1) = k at hk
  have f0 : F_Mo_operand 0 (Int32.ofNat p) σ = some (Int32.ofNat k, σ) := by rw [← hkk]; exact m_opnd h n2 (hp2 (by decide))
  have hnm := h.1.2.2.1
  have hT : ∀ l, Tr9 im m 33 k (some l) = call9 im k (some l) := fun l => by simp (disch := omega) only [Tr9, if_pos, if_neg, or_self, or_false, Nat.reduceEqDiff, ite_true, ite_false, if_true, if_false, Bool.false_eq_true, and_self, and_true, true_and, and_false, false_and]
  have hlie : ∀ l, lies im m 33 p l := fun l => ⟨(fun z => by omega), (fun z => by omega)⟩
  by_cases c : k < im 0 1
  · obtain ⟨s1, f1, g1, q1⟩ := m_need (b := true) hS
    have g1' : SM s1 o := by
      cases o with
      | none => exact g1
      | some l => exact g1
    have e5 := RepM_A (BM_QM h q1).1 5 k (by omega) (by omega)
    have hk5 := (wf_m hw c).2.2.1
    cases o with
    | none =>
      have hb : zb (s1.1 0 27) = false := g1'
      obtain ⟨s, k1, k2, k3⟩ := call_60 (m := m) hw c 0 5000 s1 none (BM_QM h q1) g1' (by omega) (by omega)
      have k1' : F_Mo_calls_60 5000 0 (Int32.ofNat k) (-Int32.ofNat 1) s1 = some s := by
        have e : Int32.ofNat 0 - Int32.ofNat 1 = -Int32.ofNat 1 := by decide
        rw [← e]; exact k1
      refine ⟨s, ?_, QM_trans q1 k2, fun _ => ?_, (fun l e => nomatch e)⟩
      · simp (disch := omega) only [F_Mo_calls, F_Mo_calls_15, F_Mo_calls_36, F_Mo_calls_58, lit32, if_pos, if_neg, f0, hnm, n_le, f1, hb, k1', ite_true, ite_false, if_true, if_false, Bool.false_eq_true, and_self, and_true, true_and, and_false, false_and]
      · rw [popA_none] at k3
        simp only [Option.bind_none, ite_self] at k3
        exact k3
    | some l =>
      have hb : zb (s1.1 0 27) = true := g1'.1
      obtain ⟨s, k1, k2, k3⟩ := call_60 (m := m) hw c (im 5 k) 5000 s1 (some l) (BM_QM h q1) g1' (by omega) (by omega)
      refine ⟨s, ?_, QM_trans q1 k2, (fun e => nomatch e), fun l' e => ?_⟩
      · simp (disch := omega) only [F_Mo_calls, F_Mo_calls_15, F_Mo_calls_36, F_Mo_calls_58, lit32, if_pos, if_neg, f0, hnm, n_le, f1, hb, n_nl0, n_cl, false_or, cm_9, e5, k1, ite_true, ite_false, if_true, if_false, Bool.false_eq_true, and_self, and_true, true_and, and_false, false_and]
      · cases e
        refine InsR_of ?_ (hlie l)
        rw [hT l]
        unfold call9
        rw [if_pos c]
        exact k3
  · obtain ⟨s1, f1, g1, q1⟩ := m_need (b := false) hS
    have g1' : SM s1 none := by
      cases o with
      | none => exact g1
      | some l => exact g1
    have hb : zb (s1.1 0 27) = false := g1'
    have hneg : -Int32.ofNat 1 < Int32.ofNat 0 := by decide
    have k1' : F_Mo_calls_60 5000 0 (Int32.ofNat k) (-Int32.ofNat 1) s1 = some s1 := by
      have hg : ∀ fuel, F_Mo_calls_60 (fuel + 1) 0 (Int32.ofNat k) (-Int32.ofNat 1) s1 = some s1 := by
        intro fuel
        simp (disch := omega) only [F_Mo_calls_60, F_Mo_calls_301, lit32, hneg, if_pos, hb, if_neg, ite_true, ite_false, if_true, if_false, Bool.false_eq_true, and_self, and_true, true_and, and_false, false_and]
      exact hg 4999
    refine ⟨s1, ?_, q1, fun _ => g1', fun l' e => ?_⟩
    · simp (disch := omega) only [F_Mo_calls, F_Mo_calls_15, F_Mo_calls_36, F_Mo_calls_58, lit32, if_pos, if_neg, f0, hnm, n_le, f1, hb, k1', ite_true, ite_false, if_true, if_false, Bool.false_eq_true, and_self, and_true, true_and, and_false, false_and]
    · refine InsR_of ?_ (hlie l')
      rw [hT l']
      unfold call9
      rw [if_neg c]
      exact g1'
set_option maxHeartbeats 8000000 in
theorem m_calls34 {im : Im} {m p : Nat} {σ : SG} {o : Option (List Nat)} (hw : WfI im) (hm : m < im 0 1) (hW : WM im m) (h : BM im m σ) (hS : SM σ o) (hp : p < 100) (hp2 : wdt 34 = 2 → p + 1 < 100) :
    ∃ σ1, F_Mo_calls 0 (Int32.ofNat p) (Int32.ofNat 34) σ = some σ1 ∧ QM σ σ1 ∧ (o = none → SM σ1 none) ∧ ∀ l, o = some l → InsR im m 34 (im 15 (100 * m + p + 1)) p l σ1 := by
  obtain ⟨n1, n2, n3, n4⟩ := m_now hw hm h
  obtain ⟨w1, w2, w3, w4, w5, w6, w7, w8, w9, w10, w11⟩ := wf_m hw hm
  have wc := wf_c hw
  have w2' := tyP_lt w2 wc.1
  have hk := RepM_b h.1 15 (100 * m + p + 1)
  generalize hkk : im 15 (100 * m + p + 1) = k at hk
  have e4 := RepM_A h.1 4 m (by omega) (by omega)
  have hlie : ∀ l, lies im m 34 p l ↔ ∀ r, 0 ≤ r → r < im 9 m → ¬ iP im m r p ∧ ¬ iH im m r p := by
    intro l
    constructor
    · intro z r _ hr
      exact z.1 rfl r hr
    · intro z
      exact ⟨fun _ r hr => z r (by omega) hr, (fun z => by omega)⟩
  have hT : ∀ l, Tr9 im m 34 k (some l) = if im 4 m = 0 then some l else (some l).bind (wot (im 4 m)) := fun l => by simp (disch := omega) only [Tr9, if_pos, if_neg, or_self, or_false, Nat.reduceEqDiff, ite_true, ite_false, if_true, if_false, Bool.false_eq_true, and_self, and_true, true_and, and_false, false_and]
  have h146 : ∀ s (o' : Option (List Nat)), BM im m s → SM s o' → ∃ s', F_Mo_calls_146 0 (Int32.ofNat p) s = some s' ∧ QM s s' ∧ ((SM s' o' ∧ (o' = none ∨ ∀ r, 0 ≤ r → r < im 9 m → ¬ iP im m r p ∧ ¬ iH im m r p)) ∨ (SM s' none ∧ ¬ ∀ r, 0 ≤ r → r < im 9 m → ¬ iP im m r p ∧ ¬ iH im m r p)) := by
    intro s o' hb hs
    obtain ⟨s', k1, k2, k3⟩ := ret_l hw hm hW (show p < 1000 by omega) (im 9 m) 0 5000 s o' hb hs (by omega) (by omega)
    refine ⟨s', ?_, k2, k3⟩
    rw [← k1]
    simp (disch := omega) only [F_Mo_calls_146, hb.2.1, lit32, n_mul, Nat.add_zero, ite_true, ite_false, if_true, if_false, Bool.false_eq_true, and_self, and_true, true_and, and_false, false_and]
  have hfin : ∀ (l : List Nat) (o' : Option (List Nat)) s', Tr9 im m 34 k (some l) = o' → ((SM s' o' ∧ (o' = none ∨ ∀ r, 0 ≤ r → r < im 9 m → ¬ iP im m r p ∧ ¬ iH im m r p)) ∨ (SM s' none ∧ ¬ ∀ r, 0 ≤ r → r < im 9 m → ¬ iP im m r p ∧ ¬ iH im m r p)) → InsR im m 34 k p l s' := by
    intro l o' s' hT' hh
    rcases hh with ⟨a, b⟩ | ⟨a, b⟩
    · rcases b with b | b
      · rw [b] at a hT'
        exact Or.inr ⟨a, fun z => z.1 hT'⟩
      · exact InsR_of (by rw [hT']; exact a) ((hlie l).mpr b)
    · exact Or.inr ⟨a, fun z => b ((hlie l).mp z.2)⟩
  by_cases c : im 4 m = 0
  · obtain ⟨s, k1, k2, k3⟩ := h146 σ o h hS
    refine ⟨s, ?_, k2, fun e => ?_, fun l e => ?_⟩
    · simp (disch := omega) only [F_Mo_calls, F_Mo_calls_15, lit32, n_eq, if_pos, if_neg, n1, n_nl0, n_cl, false_or, cm_8, e4, n_le, k1, ite_true, ite_false, if_true, if_false, Bool.false_eq_true, and_self, and_true, true_and, and_false, false_and]
    · rw [e] at k3
      rcases k3 with ⟨a, -⟩ | ⟨a, -⟩
      · exact a
      · exact a
    · rw [e] at k3
      exact hfin l _ s (by rw [hT l, if_pos c]) k3
  · obtain ⟨s1, f1, g1, q1⟩ := m_take (t := im 4 m) hS (fun _ => by omega) (by omega)
    obtain ⟨s, k1, k2, k3⟩ := h146 s1 _ (BM_QM h q1) g1
    refine ⟨s, ?_, QM_trans q1 k2, fun e => ?_, fun l e => ?_⟩
    · simp (disch := omega) only [F_Mo_calls, F_Mo_calls_15, lit32, n_eq, if_pos, if_neg, n1, n_nl0, n_cl, false_or, cm_8, e4, n_le, f1, k1, ite_true, ite_false, if_true, if_false, Bool.false_eq_true, and_self, and_true, true_and, and_false, false_and]
    · rw [e] at k3
      rcases k3 with ⟨a, -⟩ | ⟨a, -⟩
      · exact a
      · exact a
    · rw [e] at k3
      exact hfin l _ s (by rw [hT l, if_neg c]) k3
set_option maxHeartbeats 8000000 in
theorem m_calls35 {im : Im} {m p : Nat} {σ : SG} {o : Option (List Nat)} (hw : WfI im) (hm : m < im 0 1) (hW : WM im m) (h : BM im m σ) (hS : SM σ o) (hp : p < 100) (hp2 : wdt 35 = 2 → p + 1 < 100) :
    ∃ σ1, F_Mo_calls 0 (Int32.ofNat p) (Int32.ofNat 35) σ = some σ1 ∧ QM σ σ1 ∧ (o = none → SM σ1 none) ∧ ∀ l, o = some l → InsR im m 35 (im 15 (100 * m + p + 1)) p l σ1 := by
  obtain ⟨n1, n2, n3, n4⟩ := m_now hw hm h
  obtain ⟨w1, w2, w3, w4, w5, w6, w7, w8, w9, w10, w11⟩ := wf_m hw hm
  have wc := wf_c hw
  have w2' := tyP_lt w2 wc.1
  have hk := RepM_b h.1 15 (100 * m + p + 1)
  generalize hkk : im 15 (100 * m + p + 1) = k at hk
  obtain ⟨s1, f1, g1, q1⟩ := m_take (t := 1) hS (fun _ => by omega) (by omega)
  refine ⟨s1, ?_, q1, fun e => ?_, fun l e => ?_⟩
  · simp (disch := omega) only [F_Mo_calls, F_Mo_calls_15, F_Mo_calls_301, lit32, n_eq, if_pos, if_neg, f1, ite_true, ite_false, if_true, if_false, Bool.false_eq_true, and_self, and_true, true_and, and_false, false_and]
  · rw [e] at g1
    exact g1
  · rw [e] at g1
    refine InsR_of ?_ ⟨(fun z => by omega), (fun z => by omega)⟩
    have hT : Tr9 im m 35 k (some l) = (some l).bind (wot 1) := by simp (disch := omega) only [Tr9, if_pos, if_neg, or_self, or_false, Nat.reduceEqDiff, ite_true, ite_false, if_true, if_false, Bool.false_eq_true, and_self, and_true, true_and, and_false, false_and]
    rw [hT]
    exact g1
set_option maxHeartbeats 8000000 in
theorem m_calls36 {im : Im} {m p : Nat} {σ : SG} {o : Option (List Nat)} (hw : WfI im) (hm : m < im 0 1) (hW : WM im m) (h : BM im m σ) (hS : SM σ o) (hp : p < 100) (hp2 : wdt 36 = 2 → p + 1 < 100) :
    ∃ σ1, F_Mo_calls 0 (Int32.ofNat p) (Int32.ofNat 36) σ = some σ1 ∧ QM σ σ1 ∧ (o = none → SM σ1 none) ∧ ∀ l, o = some l → InsR im m 36 (im 15 (100 * m + p + 1)) p l σ1 := by
  obtain ⟨n1, n2, n3, n4⟩ := m_now hw hm h
  obtain ⟨w1, w2, w3, w4, w5, w6, w7, w8, w9, w10, w11⟩ := wf_m hw hm
  have wc := wf_c hw
  have w2' := tyP_lt w2 wc.1
  have hk := RepM_b h.1 15 (100 * m + p + 1)
  generalize hkk : im 15 (100 * m + p + 1) = k at hk
  refine ⟨σ, ?_, QM_refl _, fun e => ?_, fun l e => ?_⟩
  · simp (disch := omega) only [F_Mo_calls, F_Mo_calls_15, F_Mo_calls_301, lit32, n_eq, if_neg, ite_true, ite_false, if_true, if_false, Bool.false_eq_true, and_self, and_true, true_and, and_false, false_and]
  · rw [e] at hS
    exact hS
  · rw [e] at hS
    refine InsR_of ?_ ⟨(fun z => by omega), (fun z => by omega)⟩
    have hT : Tr9 im m 36 k (some l) = some l := by simp (disch := omega) only [Tr9, if_neg, or_self, or_false, Nat.reduceEqDiff, ite_true, ite_false, if_true, if_false, Bool.false_eq_true, and_self, and_true, true_and, and_false, false_and]
    rw [hT]
    exact hS
def c37 (p : Int32) (q : Int32 × SG) : Option SG := if (q.2.1 0 25) = 0 then if q.1 < 0 then F_Mo_calls_297 0 q.2 else if 0 ≤ q.1 then F_Mo_calls_270 0 p q.1 0 (cref SHm 0 17) q.1 q.2 else F_Mo_calls_270 0 p q.1 0 (cref SHm 0 17) (0 : Int32) q.2 else F_Mo_calls_297 0 q.2
theorem c37_e {p : Int32} {q : Int32 × SG} {σ : SG} (hy : F_Mo_innermost 0 p σ = some q) : F_Mo_calls 0 p (Int32.ofNat 37) σ = c37 p q := by
  unfold F_Mo_calls
  rw [if_neg (by decide)]
  unfold F_Mo_calls_15
  rw [if_neg (by decide), if_neg (by decide), if_neg (by decide), if_pos (show Int32.ofNat 37 = (37 : Int32) from rfl), hy]
  rfl
set_option maxHeartbeats 8000000 in
theorem m_calls37 {im : Im} {m p : Nat} {σ : SG} {o : Option (List Nat)} (hw : WfI im) (hm : m < im 0 1) (hW : WM im m) (h : BM im m σ) (hS : SM σ o) (hp : p < 100) (hp2 : wdt 37 = 2 → p + 1 < 100) :
    ∃ σ1, F_Mo_calls 0 (Int32.ofNat p) (Int32.ofNat 37) σ = some σ1 ∧ QM σ σ1 ∧ (o = none → SM σ1 none) ∧ ∀ l, o = some l → InsR im m 37 (im 15 (100 * m + p + 1)) p l σ1 := by
  obtain ⟨n1, n2, n3, n4⟩ := m_now hw hm h
  obtain ⟨w1, w2, w3, w4, w5, w6, w7, w8, w9, w10, w11⟩ := wf_m hw hm
  have wc := wf_c hw
  have w2' := tyP_lt w2 wc.1
  have hk := RepM_b h.1 15 (100 * m + p + 1)
  generalize hkk : im 15 (100 * m + p + 1) = k at hk
  obtain ⟨y, hy, hyc⟩ := m_inner hw hm hW h (show p < 1000 by omega)
  have hT : ∀ l, Tr9 im m 37 k (some l) = some l := fun l => by simp (disch := omega) only [Tr9, if_neg, or_self, or_false, Nat.reduceEqDiff, ite_true, ite_false, if_true, if_false, Bool.false_eq_true, and_self, and_true, true_and, and_false, false_and]
  have nn : ∀ b, ∃ s1, F_Mo_calls_298 0 b σ = some s1 ∧ QM σ s1 ∧ SM s1 (o.bind (fun l => if b = true then some l else none)) := by
    intro b
    obtain ⟨s1, f1, g1, q1⟩ := m_need (b := b) hS
    refine ⟨s1, ?_, q1, g1⟩
    simp (disch := omega) only [F_Mo_calls_298, F_Mo_calls_301, f1, ite_true, ite_false, if_true, if_false, Bool.false_eq_true, and_self, and_true, true_and, and_false, false_and]
  -- the test as a boolean
  have key : ∃ b : Bool, F_Mo_calls 0 (Int32.ofNat p) (Int32.ofNat 37) σ = F_Mo_calls_298 0 b σ ∧ ∀ l, o = some l → (b = true ↔ lies im m 37 p l) := by
    by_cases cz : σ.1 0 25 = Int32.ofNat 0
    · have hl0 : ∀ l, o = some l → l = [] := by
        intro l e
        rw [e] at hS
        have e2 := hS.2.1
        have h9 := hS.2.2.2.1
        rw [cz] at e2
        have := (n_eq (by omega) (by omega)).mp e2
        exact List.length_eq_zero_iff.mp this.symm
      rcases hyc with ⟨e, hn⟩ | ⟨r, hr, e, hr2, hr3⟩
      · refine ⟨false, ?_, fun l el => ⟨(fun z => nomatch z), fun z => ?_⟩⟩
        · have hneg : -Int32.ofNat 1 < Int32.ofNat 0 := by decide
          rw [e] at hy
          rw [c37_e hy]
          simp (disch := omega) only [c37, F_Mo_calls_297, lit32, if_pos, cz, hneg, ite_true, ite_false, if_true, if_false, Bool.false_eq_true, and_self, and_true, true_and, and_false, false_and]
        · obtain ⟨r, hr⟩ := (z.2 rfl).2
          exact absurd hr.2.1 (hn r hr.1).2
      · rw [e] at hy
        obtain ⟨b, hbF, hb⟩ := m_inHand (x := Int32.ofNat p) (z := p) hw hm h.1 hr (n_int (by omega))
        have e13 := RepM_A h.1 13 (3 * m + r) (by omega) (by omega)
        have h13 := (w8 r hr).2.2.2
        by_cases cf : im 13 (3 * m + r) = 1
        · have zz : zb (Int32.ofNat (im 13 (3 * m + r))) = true := by rw [cf]; exact zb1
          refine ⟨b, ?_, fun l el => ?_⟩
          · rw [c37_e hy]
            cases b <;> simp (disch := omega) only [c37, F_Mo_calls_270, F_Mo_calls_286, F_Mo_calls_297, lit32, if_pos, if_neg, cz, n_nl0, n_le, n_cl, false_or, cm_17, e13, zz, hbF, ite_true, ite_false, if_true, if_false, Bool.false_eq_true, and_self, and_true, true_and, and_false, false_and]
          · rw [hb]
            constructor
            · intro z
              exact ⟨(fun z => by omega), fun _ => ⟨hl0 l el, r, hr, z, cf, hr3⟩⟩
            · intro z
              obtain ⟨r', hr'⟩ := (z.2 rfl).2
              have er : r' = r := by
                rcases Nat.lt_trichotomy r' r with x | x | x
                · exact absurd hr'.2.1 (hr3 r' x).2
                · exact x
                · have := hr'.2.2.2 r x
                  rcases hr2 with y | y
                  · exact absurd y this.1
                  · exact absurd y this.2
              rw [← er]
              exact hr'.2.1
        · have zz : zb (Int32.ofNat (im 13 (3 * m + r))) = false := by rw [show im 13 (3 * m + r) = 0 by omega]; exact zb0
          refine ⟨false, ?_, fun l el => ⟨(fun z => nomatch z), fun z => ?_⟩⟩
          · rw [c37_e hy]
            simp (disch := omega) only [c37, F_Mo_calls_270, F_Mo_calls_297, lit32, if_pos, if_neg, cz, n_nl0, n_le, n_cl, false_or, cm_17, e13, zz, ite_true, ite_false, if_true, if_false, Bool.false_eq_true, and_self, and_true, true_and, and_false, false_and]
          · obtain ⟨r', hr'⟩ := (z.2 rfl).2
            have er : r' = r := by
              rcases Nat.lt_trichotomy r' r with x | x | x
              · exact absurd hr'.2.1 (hr3 r' x).2
              · exact x
              · have := hr'.2.2.2 r x
                rcases hr2 with y | y
                · exact absurd y this.1
                · exact absurd y this.2
            have := hr'.2.2.1
            rw [er] at this
            exact absurd this cf
    · refine ⟨false, ?_, fun l el => ⟨(fun z => nomatch z), fun z => ?_⟩⟩
      · rw [c37_e hy]
        simp (disch := omega) only [c37, F_Mo_calls_297, lit32, if_neg, cz, ite_true, ite_false, if_true, if_false, Bool.false_eq_true, and_self, and_true, true_and, and_false, false_and]
      · have hl := (z.2 rfl).1
        rw [el, hl] at hS
        exact absurd hS.2.1 cz
  obtain ⟨b, hF, hb⟩ := key
  obtain ⟨s1, f1, q1, g1⟩ := nn b
  refine ⟨s1, by rw [hF]; exact f1, q1, fun e => ?_, fun l e => ?_⟩
  · rw [e] at g1
    exact g1
  · rw [e] at g1
    cases b with
    | true => exact Or.inl ⟨l, hT l, (hb l e).mp rfl, g1⟩
    | false => exact Or.inr ⟨g1, fun z => by have := (hb l e).mpr z.2; cases this⟩

theorem m_calls {im : Im} {m p op : Nat} {σ : SG} {o : Option (List Nat)} (hw : WfI im) (hm : m < im 0 1) (hW : WM im m) (h : BM im m σ) (hS : SM σ o) (h33 : 33 ≤ op) (hop : op ≤ 37) (hp : p < 100) (hp2 : wdt op = 2 → p + 1 < 100) :
    ∃ σ1, F_Mo_calls 0 (Int32.ofNat p) (Int32.ofNat op) σ = some σ1 ∧ QM σ σ1 ∧ (o = none → SM σ1 none) ∧ ∀ l, o = some l → InsR im m op (im 15 (100 * m + p + 1)) p l σ1 := by
  obtain rfl | rfl | rfl | rfl | rfl : op = 33 ∨ op = 34 ∨ op = 35 ∨ op = 36 ∨ op = 37 := by omega
  · exact m_calls33 hw hm hW h hS hp hp2
  · exact m_calls34 hw hm hW h hS hp hp2
  · exact m_calls35 hw hm hW h hS hp hp2
  · exact m_calls36 hw hm hW h hS hp hp2
  · exact m_calls37 hw hm hW h hS hp hp2
