/-! The reference's instructions, as they change the stack of types. -/
def WfI (im : Im) : Prop := ∃ y, GAll im y
theorem wf_c {im : Im} (h : WfI im) : im 0 0 ≤ 4 ∧ 1 ≤ im 0 1 ∧ im 0 1 ≤ 6 := by
  obtain ⟨y, hG⟩ := h
  exact ⟨(rng_le hG.1.2).2, rng_le hG.2.2.1.2⟩
theorem wf_f {im : Im} {c : Nat} (h : WfI im) (hc : c < im 0 0) : im 2 c ≤ 4 ∧ ∀ f, f < im 2 c → tyP (im 0 0) false false (im 3 (4 * c + f)) = true := by
  obtain ⟨y, hG⟩ := h
  have hF := hG.2.1 c (by omega) (by omega)
  exact ⟨(rng_le hF.1.2).2, fun f hf => (hF.2 f (by omega) (by omega)).2⟩
theorem wf_m {im : Im} {m : Nat} (h : WfI im) (hm : m < im 0 1) : m < 6 ∧ tyP (im 0 0) false true (im 4 m) = true ∧ im 5 m ≤ 3 ∧ (∀ i, i < im 5 m → tyP (im 0 0) true false (im 6 (3 * m + i)) = true) ∧ im 7 m ≤ 4 ∧ (∀ i, i < im 7 m → tyP (im 0 0) false false (im 8 (4 * m + i)) = true) ∧ im 9 m ≤ 3 ∧ (∀ r, r < im 9 m → im 10 (3 * m + r) ≤ 255 ∧ im 11 (3 * m + r) ≤ 255 ∧ im 12 (3 * m + r) ≤ 255 ∧ im 13 (3 * m + r) ≤ 1) ∧ 1 ≤ im 14 m ∧ im 14 m ≤ 100 ∧ ∀ p, p < im 14 m → im 15 (100 * m + p) ≤ 255 := by
  have h6 := (wf_c h).2.2
  obtain ⟨y, hG⟩ := h
  have hM := hG.2.2.2 m (by omega) (by omega)
  have hA := hM.2
  have hL := hA.2.2
  have hR := hL.2.2
  have hC := hR.2.2
  refine ⟨by omega, hM.1.2, (rng_le hA.1.2).2, fun i hi => (hA.2.1 i (by omega) (by omega)).2, (rng_le hL.1.2).2, fun i hi => (hL.2.1 i (by omega) (by omega)).2, (rng_le hR.1.2).2, fun r hr => ?_, (rng_le hC.1.2).1, (rng_le hC.1.2).2, fun p hp => (rng_le (hC.2 p (by omega) (by omega)).2).2⟩
  have hg := hR.2.1 r (by omega) (by omega)
  exact ⟨(rng_le hg.1.2).2, (rng_le hg.2.1.2).2, (rng_le hg.2.2.1.2).2, (rng_le hg.2.2.2.2).2⟩
def BM (im : Im) (m : Nat) (σ : SG) : Prop := RepM σ im ∧ σ.1 0 24 = Int32.ofNat m ∧ ∀ p, p < im 14 m → (zb (σ.2.2.2.1 16 (100 * m + p)) = true ↔ Beg im m p)
theorem RepM_QM {σ σ1 : SG} {im : Im} (h : RepM σ im) (hq : QM σ σ1) : RepM σ1 im := by
  obtain ⟨h0, h1, h2, h3⟩ := h
  refine ⟨h0, ?_, ?_, fun a k x y => ?_⟩
  · rw [hq.2.2 _ _ (by omega)]; exact h1
  · rw [hq.2.2 _ _ (by omega)]; exact h2
  · rw [hq.1]; exact h3 a k x y
theorem BM_QM {σ σ1 : SG} {im : Im} {m : Nat} (h : BM im m σ) (hq : QM σ σ1) : BM im m σ1 := by
  refine ⟨RepM_QM h.1 hq, ?_, fun p hp => ?_⟩
  · rw [hq.2.2 _ _ (by omega)]; exact h.2.1
  · rw [hq.1]; exact h.2.2 p hp
theorem RepM_A {σ : SG} {im : Im} (h : RepM σ im) (a k : Nat) (h1 : 2 ≤ a) (h2 : a ≤ 15) : σ.2.2.2.1 a k = Int32.ofNat (im a k) := h.2.2.2 a k h1 h2
theorem RepM_b {σ : SG} {im : Im} (h : RepM σ im) (a k : Nat) : im a k < 256 := h.1 a k
theorem m_opnd {im : Im} {m p : Nat} {σ : SG} (h : BM im m σ) (hm : m < 6) (hp : p + 1 < 100) : F_Mo_operand 0 (Int32.ofNat p) σ = some (Int32.ofNat (im 15 (100 * m + p + 1)), σ) := by
  have hr := RepM_A h.1 15 (100 * m + p + 1) (by omega) (by omega)
  simp (disch := omega) only [F_Mo_operand, h.2.1, lit32, n_mul, n_add, n_nl0, n_cl, false_or, if_neg, cm_19, hr, ite_true, ite_false, if_true, if_false, Bool.false_eq_true, and_self, and_true, true_and, and_false, false_and]
theorem m_op {im : Im} {m p : Nat} {σ : SG} (h : BM im m σ) (hm : m < 6) (hp : p < 100) : F_Mo_op 0 (Int32.ofNat p) σ = some (Int32.ofNat (im 15 (100 * m + p)), σ) := by
  have hr := RepM_A h.1 15 (100 * m + p) (by omega) (by omega)
  simp (disch := omega) only [F_Mo_op, h.2.1, lit32, n_mul, n_add, n_nl0, n_cl, false_or, if_neg, cm_19, hr, ite_true, ite_false, if_true, if_false, Bool.false_eq_true, and_self, and_true, true_and, and_false, false_and]
theorem m_bytes {op : Nat} (h : op < 256) (σ : SG) : F_Mo_bytes (Int32.ofNat op) σ = some (Int32.ofNat (wdt op), σ) := by
  by_cases c1 : op < 1
  · simp (disch := omega) only [F_Mo_bytes, F_Mo_bytes_40, F_Mo_bytes_35, F_Mo_bytes_23, F_Mo_bytes_11, lit32, n_le, n_lt, n_eq, n_add, n_mul, n_sub, n_cl, n_nl0, n_ne1, n_1ne, n_1lt, n_1le, n_le1, n_lt1, if_pos, if_neg, wdt, ite_true, ite_false, if_true, if_false, Bool.false_eq_true, and_self, and_true, true_and, and_false, false_and]
  by_cases c2 : op ≤ 6
  · simp (disch := omega) only [F_Mo_bytes, F_Mo_bytes_40, F_Mo_bytes_35, F_Mo_bytes_23, F_Mo_bytes_11, lit32, n_le, n_lt, n_eq, n_add, n_mul, n_sub, n_cl, n_nl0, n_ne1, n_1ne, n_1lt, n_1le, n_le1, n_lt1, if_pos, if_neg, wdt, ite_true, ite_false, if_true, if_false, Bool.false_eq_true, and_self, and_true, true_and, and_false, false_and]
  by_cases c3 : op < 13
  · simp (disch := omega) only [F_Mo_bytes, F_Mo_bytes_40, F_Mo_bytes_35, F_Mo_bytes_23, F_Mo_bytes_11, lit32, n_le, n_lt, n_eq, n_add, n_mul, n_sub, n_cl, n_nl0, n_ne1, n_1ne, n_1lt, n_1le, n_le1, n_lt1, if_pos, if_neg, wdt, ite_true, ite_false, if_true, if_false, Bool.false_eq_true, and_self, and_true, true_and, and_false, false_and]
  by_cases c4 : op ≤ 20
  · simp (disch := omega) only [F_Mo_bytes, F_Mo_bytes_40, F_Mo_bytes_35, F_Mo_bytes_23, F_Mo_bytes_11, lit32, n_le, n_lt, n_eq, n_add, n_mul, n_sub, n_cl, n_nl0, n_ne1, n_1ne, n_1lt, n_1le, n_le1, n_lt1, if_pos, if_neg, wdt, ite_true, ite_false, if_true, if_false, Bool.false_eq_true, and_self, and_true, true_and, and_false, false_and]
  by_cases c5 : op = 33
  · simp (disch := omega) only [F_Mo_bytes, F_Mo_bytes_40, F_Mo_bytes_35, F_Mo_bytes_23, F_Mo_bytes_11, lit32, n_le, n_lt, n_eq, n_add, n_mul, n_sub, n_cl, n_nl0, n_ne1, n_1ne, n_1lt, n_1le, n_le1, n_lt1, if_pos, if_neg, wdt, ite_true, ite_false, if_true, if_false, Bool.false_eq_true, and_self, and_true, true_and, and_false, false_and]
  by_cases c6 : op = 36
  · simp (disch := omega) only [F_Mo_bytes, F_Mo_bytes_40, F_Mo_bytes_35, F_Mo_bytes_23, F_Mo_bytes_11, lit32, n_le, n_lt, n_eq, n_add, n_mul, n_sub, n_cl, n_nl0, n_ne1, n_1ne, n_1lt, n_1le, n_le1, n_lt1, if_pos, if_neg, wdt, ite_true, ite_false, if_true, if_false, Bool.false_eq_true, and_self, and_true, true_and, and_false, false_and]
  · simp (disch := omega) only [F_Mo_bytes, F_Mo_bytes_40, F_Mo_bytes_35, F_Mo_bytes_23, F_Mo_bytes_11, lit32, n_le, n_lt, n_eq, n_add, n_mul, n_sub, n_cl, n_nl0, n_ne1, n_1ne, n_1lt, n_1le, n_le1, n_lt1, if_pos, if_neg, wdt, ite_true, ite_false, if_true, if_false, Bool.false_eq_true, and_self, and_true, true_and, and_false, false_and]
theorem m_target {im : Im} {m p : Nat} {σ : SG} (h : BM im m σ) (hm : m < 6) (hp : p + 1 < 100) : ∃ x : Int32, F_Mo_target 0 (Int32.ofNat p) σ = some (x, σ) ∧ x.toInt = (p : Int) + 2 + sg (im 15 (100 * m + p + 1)) := by
  have ho := m_opnd h hm hp
  have hb := RepM_b h.1 15 (100 * m + p + 1)
  have hs : ∃ x : Int32, F_Mo_signed (Int32.ofNat (im 15 (100 * m + p + 1))) σ = some (x, σ) ∧ x.toInt = sg (im 15 (100 * m + p + 1)) := by
    obtain ⟨x, h1, h2⟩ := a_signed hb σ
    exact ⟨x, h1, h2⟩
  obtain ⟨x, h1, h2⟩ := hs
  refine ⟨Int32.ofNat p + Int32.ofNat 2 + x, ?_, a_tgt (by omega) hb h2⟩
  simp (disch := omega) only [F_Mo_target, ho, h1, lit32, ite_true, ite_false, if_true, if_false, Bool.false_eq_true, and_self, and_true, true_and, and_false, false_and]
/-- what is named is there, or nothing goes on -/
theorem m_named {o : Option (List Nat)} {b : Bool} {f : List Nat → Option (List Nat)} {g : List Nat → Option (List Nat)} (ht : b = true → ∀ l, f l = g l) (hf : b = false → ∀ l, g l = none) : (o.bind (fun l => if b = true then some l else none)).bind f = o.bind g := by
  cases o with
  | none => rfl
  | some l =>
    show Option.bind (if b = true then some l else none) f = g l
    cases b with
    | true => exact ht rfl l
    | false => exact (hf rfl l).symm
theorem ps9_0 (l : List Nat) : ps9 0 l = none := by
  unfold ps9
  rw [if_neg (fun z => z.2 rfl)]
theorem wot_0 (l : List Nat) : wot 0 l = none := by
  cases l with
  | nil => rfl
  | cons x l =>
    rw [wot_c, if_neg (fun z => z.2 rfl)]
theorem m_local {im : Im} {m k : Nat} {σ : SG} {o : Option (List Nat)} (hw : WfI im) (hm : m < im 0 1) (h : BM im m σ) (hk : k < 256) (hS : SM σ o) : ∃ t σ1, F_Mo_localAt 0 (Int32.ofNat k) σ = some (Int32.ofNat t, σ1) ∧ t < 15 ∧ SM σ1 (o.bind (fun l => if decide (k < im 7 m) = true then some l else none)) ∧ QM σ σ1 ∧ (o.bind (fun l => if decide (k < im 7 m) = true then some l else none) ≠ none → t = lty im m k ∧ 1 ≤ t) ∧ (decide (k < im 7 m) = false → lty im m k = 0) ∧ (t = lty im m k ∨ t = 0) := by
  obtain ⟨w1, w2, w3, w4, w5, w6, w7, w8, w9, w10, w11⟩ := wf_m hw hm
  have wc := (wf_c hw).1
  obtain ⟨σ1, hF, hS1, hQ⟩ := m_need (b := decide (k < im 7 m)) hS
  have hr := RepM_A h.1 7 m (by omega) (by omega)
  have hB1 := BM_QM h hQ
  have hF19 : F_Mo_localAt 0 (Int32.ofNat k) σ = F_Mo_localAt_19 0 (Int32.ofNat k) 0 (decide (k < im 7 m)) σ := by
    by_cases c : k < im 7 m
    · rw [decide_eq_true c]
      simp (disch := omega) only [F_Mo_localAt, h.2.1, lit32, n_nl0, n_cl, false_or, if_neg, cm_11, hr, n_le, ite_true, ite_false, if_true, if_false, Bool.false_eq_true, and_self, and_true, true_and, and_false, false_and]
    · rw [decide_eq_false c]
      simp (disch := omega) only [F_Mo_localAt, h.2.1, lit32, n_nl0, n_cl, false_or, if_neg, if_pos, cm_11, hr, n_le, ite_true, ite_false, if_true, if_false, Bool.false_eq_true, and_self, and_true, true_and, and_false, false_and]
  rw [hF19]
  have hl0 : decide (k < im 7 m) = false → lty im m k = 0 := by
    intro e
    unfold lty
    rw [if_neg (of_decide_eq_false e)]
  generalize hq : o.bind (fun l => if decide (k < im 7 m) = true then some l else none) = o1 at hS1
  cases o1 with
  | none =>
    have hb : zb (σ1.1 0 27) = false := hS1
    refine ⟨0, σ1, ?_, by omega, hS1, hQ, (fun z => absurd rfl z), hl0, Or.inr rfl⟩
    simp (disch := omega) only [F_Mo_localAt_19, F_Mo_localAt_46, hF, hb, if_neg, lit32, ite_true, ite_false, if_true, if_false, Bool.false_eq_true, and_self, and_true, true_and, and_false, false_and]
  | some l =>
    have hb : zb (σ1.1 0 27) = true := hS1.1
    have c : k < im 7 m := by
      refine Decidable.by_contra (fun c => ?_)
      rw [decide_eq_false c] at hq
      cases o <;> cases hq
    have hv := RepM_A hB1.1 8 (4 * m + k) (by omega) (by omega)
    have ht := w6 k c
    have e : lty im m k = im 8 (4 * m + k) := by unfold lty; rw [if_pos c]
    have tl := tyP_lt ht wc
    refine ⟨im 8 (4 * m + k), σ1, ?_, by omega, hS1, hQ, fun _ => ⟨e.symm, tyP_pos ht⟩, hl0, Or.inl e.symm⟩
    simp (disch := omega) only [F_Mo_localAt_19, F_Mo_localAt_46, hF, hb, if_pos, if_neg, lit32, hB1.2.1, n_mul, n_add, n_nl0, n_cl, false_or, cm_12, hv, ite_true, ite_false, if_true, if_false, Bool.false_eq_true, and_self, and_true, true_and, and_false, false_and]
theorem m_arg {im : Im} {m k : Nat} {σ : SG} {o : Option (List Nat)} (hw : WfI im) (hm : m < im 0 1) (h : BM im m σ) (hk : k < 256) (hS : SM σ o) : ∃ t σ1, F_Mo_argumentAt 0 (Int32.ofNat k) σ = some (Int32.ofNat t, σ1) ∧ t < 15 ∧ SM σ1 (o.bind (fun l => if decide (k < im 5 m) = true then some l else none)) ∧ QM σ σ1 ∧ (o.bind (fun l => if decide (k < im 5 m) = true then some l else none) ≠ none → t = aty im m k ∧ 1 ≤ t) ∧ (decide (k < im 5 m) = false → aty im m k = 0) ∧ (t = aty im m k ∨ t = 0) := by
  obtain ⟨w1, w2, w3, w4, w5, w6, w7, w8, w9, w10, w11⟩ := wf_m hw hm
  have wc := (wf_c hw).1
  obtain ⟨σ1, hF, hS1, hQ⟩ := m_need (b := decide (k < im 5 m)) hS
  have hr := RepM_A h.1 5 m (by omega) (by omega)
  have hB1 := BM_QM h hQ
  have hF19 : F_Mo_argumentAt 0 (Int32.ofNat k) σ = F_Mo_argumentAt_19 0 (Int32.ofNat k) 0 (decide (k < im 5 m)) σ := by
    by_cases c : k < im 5 m
    · rw [decide_eq_true c]
      simp (disch := omega) only [F_Mo_argumentAt, h.2.1, lit32, n_nl0, n_cl, false_or, if_neg, cm_9, hr, n_le, ite_true, ite_false, if_true, if_false, Bool.false_eq_true, and_self, and_true, true_and, and_false, false_and]
    · rw [decide_eq_false c]
      simp (disch := omega) only [F_Mo_argumentAt, h.2.1, lit32, n_nl0, n_cl, false_or, if_neg, if_pos, cm_9, hr, n_le, ite_true, ite_false, if_true, if_false, Bool.false_eq_true, and_self, and_true, true_and, and_false, false_and]
  rw [hF19]
  have hl0 : decide (k < im 5 m) = false → aty im m k = 0 := by
    intro e
    unfold aty
    rw [if_neg (of_decide_eq_false e)]
  generalize hq : o.bind (fun l => if decide (k < im 5 m) = true then some l else none) = o1 at hS1
  cases o1 with
  | none =>
    have hb : zb (σ1.1 0 27) = false := hS1
    refine ⟨0, σ1, ?_, by omega, hS1, hQ, (fun z => absurd rfl z), hl0, Or.inr rfl⟩
    simp (disch := omega) only [F_Mo_argumentAt_19, F_Mo_argumentAt_46, hF, hb, if_neg, lit32, ite_true, ite_false, if_true, if_false, Bool.false_eq_true, and_self, and_true, true_and, and_false, false_and]
  | some l =>
    have hb : zb (σ1.1 0 27) = true := hS1.1
    have c : k < im 5 m := by
      refine Decidable.by_contra (fun c => ?_)
      rw [decide_eq_false c] at hq
      cases o <;> cases hq
    have hv := RepM_A hB1.1 6 (3 * m + k) (by omega) (by omega)
    have ht := w4 k c
    have e : aty im m k = im 6 (3 * m + k) := by unfold aty; rw [if_pos c]
    have tl := tyP_lt ht wc
    refine ⟨im 6 (3 * m + k), σ1, ?_, by omega, hS1, hQ, fun _ => ⟨e.symm, tyP_pos ht⟩, hl0, Or.inl e.symm⟩
    simp (disch := omega) only [F_Mo_argumentAt_19, F_Mo_argumentAt_46, hF, hb, if_pos, if_neg, lit32, hB1.2.1, n_mul, n_add, n_nl0, n_cl, false_or, cm_10, hv, ite_true, ite_false, if_true, if_false, Bool.false_eq_true, and_self, and_true, true_and, and_false, false_and]
def fin3 (im : Im) (k : Nat) : Bool := decide (k / 4 < im 0 0 ∧ k % 4 < im 2 (k / 4))
theorem m_field {im : Im} {m k : Nat} {σ : SG} {o : Option (List Nat)} (hw : WfI im) (h : BM im m σ) (hk : k < 256) (hS : SM σ o) : ∃ t σ1, F_Mo_fieldAt 0 (Int32.ofNat k) σ = some (Int32.ofNat t, σ1) ∧ t < 15 ∧ SM σ1 (o.bind (fun l => if fin3 im k = true then some l else none)) ∧ QM σ σ1 ∧ (o.bind (fun l => if fin3 im k = true then some l else none) ≠ none → t = fty im k ∧ 1 ≤ t) ∧ (fin3 im k = false → fty im k = 0) ∧ (fin3 im k = true → fty im k ≠ 0) := by
  have wc := wf_c hw
  obtain ⟨σ1, hF, hS1, hQ⟩ := m_need (b := fin3 im k) hS
  have hB1 := BM_QM h hQ
  have hn := h.1.2.1
  have hF38 : F_Mo_fieldAt 0 (Int32.ofNat k) σ = F_Mo_fieldAt_38 0 (Int32.ofNat k) 0 (fin3 im k) σ := by
    by_cases c16 : 16 ≤ k
    · have e : fin3 im k = false := decide_eq_false (by omega)
      rw [e]
      simp (disch := omega) only [F_Mo_fieldAt, F_Mo_fieldAt_37, lit32, n_le, if_pos, ite_true, ite_false, if_true, if_false, Bool.false_eq_true, and_self, and_true, true_and, and_false, false_and]
    · by_cases c : k / 4 < im 0 0
      · have h3 : Int32.ofNat (k / 4) &&& Int32.ofNat 3 = Int32.ofNat (k / 4) := by
          rw [i_and]
          congr 1
          have : k / 4 &&& 3 = k / 4 % 4 := Nat.and_two_pow_sub_one_eq_mod (k / 4) 2
          omega
        have hr := RepM_A h.1 2 (k / 4) (by omega) (by omega)
        have hb := RepM_b h.1 2 (k / 4)
        have e3 : k - k / 4 * 4 = k % 4 := by omega
        by_cases c2 : k % 4 < im 2 (k / 4)
        · have e : fin3 im k = true := decide_eq_true ⟨c, c2⟩
          rw [e]
          simp (disch := omega) only [F_Mo_fieldAt, lit32, n_le, if_neg, hn, n_div, h3, n_nl0, n_cl, false_or, cm_5, hr, n_mul, n_sub, e3, ite_true, ite_false, if_true, if_false, Bool.false_eq_true, and_self, and_true, true_and, and_false, false_and]
        · have e : fin3 im k = false := decide_eq_false (fun z => c2 z.2)
          rw [e]
          simp (disch := omega) only [F_Mo_fieldAt, F_Mo_fieldAt_37, lit32, n_le, if_neg, if_pos, hn, n_div, h3, n_nl0, n_cl, false_or, cm_5, hr, n_mul, n_sub, e3, ite_true, ite_false, if_true, if_false, Bool.false_eq_true, and_self, and_true, true_and, and_false, false_and]
      · have e : fin3 im k = false := decide_eq_false (fun z => c z.1)
        rw [e]
        simp (disch := omega) only [F_Mo_fieldAt, F_Mo_fieldAt_37, lit32, n_le, if_neg, if_pos, hn, n_div, ite_true, ite_false, if_true, if_false, Bool.false_eq_true, and_self, and_true, true_and, and_false, false_and]
  rw [hF38]
  have hl0 : fin3 im k = false → fty im k = 0 := by
    intro e
    unfold fty
    rw [if_neg (of_decide_eq_false e)]
  have hl1 : fin3 im k = true → fty im k = im 3 k ∧ 1 ≤ im 3 k ∧ im 3 k < 12 ∧ k < 16 := by
    intro e
    have c := of_decide_eq_true e
    have ht := (wf_f hw c.1).2 _ c.2
    rw [show 4 * (k / 4) + k % 4 = k by omega] at ht
    refine ⟨?_, tyP_pos ht, tyP_lt ht wc.1, by omega⟩
    unfold fty
    rw [if_pos c]
  have hl2 : fin3 im k = true → fty im k ≠ 0 := by
    intro e
    have := hl1 e
    omega
  generalize hq : o.bind (fun l => if fin3 im k = true then some l else none) = o1 at hS1
  cases o1 with
  | none =>
    have hb : zb (σ1.1 0 27) = false := hS1
    refine ⟨0, σ1, ?_, by omega, hS1, hQ, (fun z => absurd rfl z), hl0, hl2⟩
    simp (disch := omega) only [F_Mo_fieldAt_38, F_Mo_fieldAt_58, hF, hb, if_neg, lit32, ite_true, ite_false, if_true, if_false, Bool.false_eq_true, and_self, and_true, true_and, and_false, false_and]
  | some l =>
    have hb : zb (σ1.1 0 27) = true := hS1.1
    have c : fin3 im k = true := by
      cases hc : fin3 im k with
      | true => rfl
      | false =>
        rw [hc] at hq
        cases o <;> cases hq
    obtain ⟨g1, g2, g3, g4⟩ := hl1 c
    have hv := RepM_A hB1.1 3 k (by omega) (by omega)
    refine ⟨im 3 k, σ1, ?_, by omega, hS1, hQ, fun _ => ⟨g1.symm, g2⟩, hl0, hl2⟩
    simp (disch := omega) only [F_Mo_fieldAt_38, F_Mo_fieldAt_58, hF, hb, if_pos, if_neg, lit32, n_nl0, n_cl, false_or, cm_6, hv, ite_true, ite_false, if_true, if_false, Bool.false_eq_true, and_self, and_true, true_and, and_false, false_and]
def dup9 (l : List Nat) : Option (List Nat) := match l with
  | [] => none
  | x :: l => (ps9 x l).bind (ps9 x)
def call9 (im : Im) (k : Nat) (o : Option (List Nat)) : Option (List Nat) := if k < im 0 1 then (if im 4 k = 0 then popA im k (im 5 k) o else (popA im k (im 5 k) o).bind (ps9 (im 4 k))) else none
def Tr9 (im : Im) (m op k : Nat) (o : Option (List Nat)) : Option (List Nat) :=
  if op = 1 then o.bind (ps9 1)
  else if op = 2 then o.bind (ps9 (lty im m k))
  else if op = 3 then o.bind (wot (lty im m k))
  else if op = 4 then o.bind (ps9 (plc (lty im m k)))
  else if op = 5 then o.bind (ps9 (aty im m k))
  else if op = 6 then o.bind (wot (aty im m k))
  else if op = 7 ∨ op = 8 ∨ op = 9 ∨ op = 10 then ((o.bind (wot 1)).bind (wot 1)).bind (ps9 1)
  else if op = 11 then o.bind dup9
  else if op = 12 then o.bind (fun l => match l with | [] => none | _ :: l => some l)
  else if op = 14 then o.bind (wot 1)
  else if op = 15 then (o.bind (wot 1)).bind (wot 1)
  else if op = 16 then o.bind (ps9 (nuT im k))
  else if op = 17 then o.bind (ps9 (neT im k))
  else if op = 18 then (o.bind (wot (obj im k))).bind (ps9 (fty im k))
  else if op = 19 then (o.bind (wot (fty im k))).bind (wot (obj im k))
  else if op = 20 then (o.bind (wot (obj im k))).bind (ps9 (plc (fty im k)))
  else if op = 21 then (o.bind (wot 1)).bind (ps9 4)
  else if op = 22 then ((o.bind (wot 1)).bind (wot 4)).bind (ps9 1)
  else if op = 23 then ((o.bind (wot 1)).bind (wot 1)).bind (wot 4)
  else if op = 24 then ((o.bind (wot 1)).bind (wot 4)).bind (ps9 3)
  else if op = 25 then (o.bind (wot 4)).bind (ps9 1)
  else if op = 26 then (o.bind (wot 3)).bind (ps9 1)
  else if op = 27 then (o.bind (wot 1)).bind (wot 3)
  else if op = 28 then ((o.bind (wot 1)).bind (wot 1)).bind (ps9 2)
  else if op = 29 ∨ op = 30 then (o.bind (wot 2)).bind (ps9 1)
  else if op = 31 then (o.bind (wot 2)).bind (ps9 5)
  else if op = 32 then (o.bind (wot 5)).bind (ps9 2)
  else if op = 33 then call9 im k o
  else if op = 34 then (if im 4 m = 0 then o else o.bind (wot (im 4 m)))
  else if op = 35 then o.bind (wot 1)
  else o
theorem m_simple {im : Im} {m p op : Nat} {σ : SG} {o : Option (List Nat)} (hw : WfI im) (hm : m < im 0 1) (h : BM im m σ) (hS : SM σ o) (hop : op ≤ 16) (hp : wdt op = 2 → p + 1 < 100) : ∃ σ1, F_Mo_simple 0 (Int32.ofNat p) (Int32.ofNat op) σ = some σ1 ∧ SM σ1 (Tr9 im m op (im 15 (100 * m + p + 1)) o) ∧ QM σ σ1 := by
  have hm6 := (wf_m hw hm).1
  have hk := RepM_b h.1 15 (100 * m + p + 1)
  generalize hkk : im 15 (100 * m + p + 1) = k at hk
  have hop2 : wdt op = 2 → F_Mo_operand 0 (Int32.ofNat p) σ = some (Int32.ofNat k, σ) := fun e => by rw [← hkk]; exact m_opnd h hm6 (hp e)
  have arith : ∃ σ1, F_Mo_simple_287 0 σ = some σ1 ∧ SM σ1 (((o.bind (wot 1)).bind (wot 1)).bind (ps9 1)) ∧ QM σ σ1 := by
    obtain ⟨s1, f1, g1, q1⟩ := m_take (t := 1) hS (fun _ => by omega) (by omega)
    obtain ⟨s2, f2, g2, q2⟩ := m_take (t := 1) g1 (fun _ => by omega) (by omega)
    obtain ⟨s3, f3, g3, q3⟩ := m_push (t := 1) g2 (fun _ => by omega) (by omega)
    refine ⟨s3, ?_, g3, QM_trans q1 (QM_trans q2 q3)⟩
    simp (disch := omega) only [F_Mo_simple_287, F_Mo_simple_302, lit32, f1, f2, f3, ite_true, ite_false, if_true, if_false, Bool.false_eq_true, and_self, and_true, true_and, and_false, false_and]
  obtain rfl | rfl | rfl | rfl | rfl | rfl | rfl | rfl | rfl | rfl | rfl | rfl | rfl | rfl | rfl | rfl | rfl : op = 0 ∨ op = 1 ∨ op = 2 ∨ op = 3 ∨ op = 4 ∨ op = 5 ∨ op = 6 ∨ op = 7 ∨ op = 8 ∨ op = 9 ∨ op = 10 ∨ op = 11 ∨ op = 12 ∨ op = 13 ∨ op = 14 ∨ op = 15 ∨ op = 16 := by omega
  · refine ⟨σ, ?_, ?_, QM_refl _⟩
    · simp (disch := omega) only [F_Mo_simple, F_Mo_simple_302, F_Mo_simple_84, F_Mo_simple_146, F_Mo_simple_267, F_Mo_simple_272, lit32, n_eq, if_pos, if_neg, ite_true, ite_false, if_true, if_false, Bool.false_eq_true, and_self, and_true, true_and, and_false, false_and]
    · simp (disch := omega) only [Tr9, if_pos, if_neg, true_or, or_true, or_false, false_or, or_self, Nat.reduceEqDiff, ite_true, ite_false, if_true, if_false, Bool.false_eq_true, and_self, and_true, true_and, and_false, false_and]
      exact hS
  · obtain ⟨s1, f1, g1, q1⟩ := m_push (t := 1) hS (fun _ => by omega) (by omega)
    refine ⟨s1, ?_, ?_, q1⟩
    · simp (disch := omega) only [F_Mo_simple, F_Mo_simple_302, F_Mo_simple_84, F_Mo_simple_146, F_Mo_simple_267, F_Mo_simple_272, lit32, n_eq, if_pos, if_neg, f1, ite_true, ite_false, if_true, if_false, Bool.false_eq_true, and_self, and_true, true_and, and_false, false_and]
    · simp (disch := omega) only [Tr9, if_pos, if_neg, true_or, or_true, or_false, false_or, or_self, Nat.reduceEqDiff, ite_true, ite_false, if_true, if_false, Bool.false_eq_true, and_self, and_true, true_and, and_false, false_and]
      exact g1
  · have f0 := hop2 (by decide)
    obtain ⟨t, s1, f1, ht, g1, q1, v1, v2, v3⟩ := m_local (k := k) hw hm h hk hS
    obtain ⟨s2, f2, g2, q2⟩ := m_push (t := t) g1 (fun z => (v1 z).2) ht
    refine ⟨s2, ?_, ?_, QM_trans q1 q2⟩
    · simp (disch := omega) only [F_Mo_simple, F_Mo_simple_302, F_Mo_simple_84, F_Mo_simple_146, F_Mo_simple_267, F_Mo_simple_272, lit32, n_eq, if_pos, if_neg, f0, f1, f2, ite_true, ite_false, if_true, if_false, Bool.false_eq_true, and_self, and_true, true_and, and_false, false_and]
    · simp (disch := omega) only [Tr9, if_pos, if_neg, true_or, or_true, or_false, false_or, or_self, Nat.reduceEqDiff, ite_true, ite_false, if_true, if_false, Bool.false_eq_true, and_self, and_true, true_and, and_false, false_and]
      have e : (o.bind (fun l => if decide (k < im 7 m) = true then some l else none)).bind (ps9 t) = o.bind (ps9 (lty im m k)) := by
        cases o with
        | none => rfl
        | some l0 =>
          refine m_named (fun hb l => ?_) (fun hb l => ?_)
          · rw [(v1 (by show (if decide (k < im 7 m) = true then some l0 else none) ≠ none; rw [if_pos hb]; simp)).1]
          · rw [v2 hb, ps9_0]
      rw [← e]
      exact g2
  · have f0 := hop2 (by decide)
    obtain ⟨t, s1, f1, ht, g1, q1, v1, v2, v3⟩ := m_local (k := k) hw hm h hk hS
    obtain ⟨s2, f2, g2, q2⟩ := m_take (t := t) g1 (fun z => (v1 z).2) ht
    refine ⟨s2, ?_, ?_, QM_trans q1 q2⟩
    · simp (disch := omega) only [F_Mo_simple, F_Mo_simple_302, F_Mo_simple_84, F_Mo_simple_146, F_Mo_simple_267, F_Mo_simple_272, lit32, n_eq, if_pos, if_neg, f0, f1, f2, ite_true, ite_false, if_true, if_false, Bool.false_eq_true, and_self, and_true, true_and, and_false, false_and]
    · simp (disch := omega) only [Tr9, if_pos, if_neg, true_or, or_true, or_false, false_or, or_self, Nat.reduceEqDiff, ite_true, ite_false, if_true, if_false, Bool.false_eq_true, and_self, and_true, true_and, and_false, false_and]
      have e : (o.bind (fun l => if decide (k < im 7 m) = true then some l else none)).bind (wot t) = o.bind (wot (lty im m k)) := by
        cases o with
        | none => rfl
        | some l0 =>
          refine m_named (fun hb l => ?_) (fun hb l => ?_)
          · rw [(v1 (by show (if decide (k < im 7 m) = true then some l0 else none) ≠ none; rw [if_pos hb]; simp)).1]
          · rw [v2 hb, wot_0]
      rw [← e]
      exact g2
  · have f0 := hop2 (by decide)
    obtain ⟨t, s1, f1, ht, g1, q1, v1, v2, v3⟩ := m_local (k := k) hw hm h hk hS
    obtain ⟨s2, f2, g2, q2⟩ := m_need (b := decide (t = 1)) g1
    obtain ⟨s3, f3, g3, q3⟩ := m_push (t := 3) g2 (fun _ => by omega) (by omega)
    refine ⟨s3, ?_, ?_, QM_trans q1 (QM_trans q2 q3)⟩
    · by_cases c : t = 1
      · rw [decide_eq_true c] at f2
        simp (disch := omega) only [F_Mo_simple, F_Mo_simple_302, F_Mo_simple_84, F_Mo_simple_146, F_Mo_simple_267, F_Mo_simple_272, lit32, n_eq, if_pos, if_neg, f0, f1, f2, f3, ite_true, ite_false, if_true, if_false, Bool.false_eq_true, and_self, and_true, true_and, and_false, false_and]
      · rw [decide_eq_false c] at f2
        simp (disch := omega) only [F_Mo_simple, F_Mo_simple_302, F_Mo_simple_84, F_Mo_simple_146, F_Mo_simple_267, F_Mo_simple_272, lit32, n_eq, if_pos, if_neg, f0, f1, f2, f3, ite_true, ite_false, if_true, if_false, Bool.false_eq_true, and_self, and_true, true_and, and_false, false_and]
    · simp (disch := omega) only [Tr9, if_pos, if_neg, true_or, or_true, or_false, false_or, or_self, Nat.reduceEqDiff, ite_true, ite_false, if_true, if_false, Bool.false_eq_true, and_self, and_true, true_and, and_false, false_and]
      have e : ((o.bind (fun l => if decide (k < im 7 m) = true then some l else none)).bind (fun l => if decide (t = 1) = true then some l else none)).bind (ps9 3) = o.bind (ps9 (plc (lty im m k))) := by
        cases o with
        | none => rfl
        | some l0 =>
          show ((if decide (k < im 7 m) = true then some l0 else none).bind _).bind _ = ps9 _ l0
          cases hb : decide (k < im 7 m) with
          | false =>
            rw [v2 hb]
            exact (ps9_0 l0).symm
          | true =>
            have e1 := (v1 (by show (if decide (k < im 7 m) = true then some l0 else none) ≠ none; rw [if_pos hb]; simp)).1
            rw [← e1]
            show (if decide (t = 1) = true then some l0 else none).bind _ = _
            by_cases c : t = 1
            · rw [c]; rfl
            · have e2 : plc t = 0 := by unfold plc; rw [if_neg c]
              rw [decide_eq_false c, e2]
              exact (ps9_0 l0).symm
      rw [← e]
      exact g3
  · have f0 := hop2 (by decide)
    obtain ⟨t, s1, f1, ht, g1, q1, v1, v2, v3⟩ := m_arg (k := k) hw hm h hk hS
    obtain ⟨s2, f2, g2, q2⟩ := m_push (t := t) g1 (fun z => (v1 z).2) ht
    refine ⟨s2, ?_, ?_, QM_trans q1 q2⟩
    · simp (disch := omega) only [F_Mo_simple, F_Mo_simple_302, F_Mo_simple_84, F_Mo_simple_146, F_Mo_simple_267, F_Mo_simple_272, lit32, n_eq, if_pos, if_neg, f0, f1, f2, ite_true, ite_false, if_true, if_false, Bool.false_eq_true, and_self, and_true, true_and, and_false, false_and]
    · simp (disch := omega) only [Tr9, if_pos, if_neg, true_or, or_true, or_false, false_or, or_self, Nat.reduceEqDiff, ite_true, ite_false, if_true, if_false, Bool.false_eq_true, and_self, and_true, true_and, and_false, false_and]
      have e : (o.bind (fun l => if decide (k < im 5 m) = true then some l else none)).bind (ps9 t) = o.bind (ps9 (aty im m k)) := by
        cases o with
        | none => rfl
        | some l0 =>
          refine m_named (fun hb l => ?_) (fun hb l => ?_)
          · rw [(v1 (by show (if decide (k < im 5 m) = true then some l0 else none) ≠ none; rw [if_pos hb]; simp)).1]
          · rw [v2 hb, ps9_0]
      rw [← e]
      exact g2
  · have f0 := hop2 (by decide)
    obtain ⟨t, s1, f1, ht, g1, q1, v1, v2, v3⟩ := m_arg (k := k) hw hm h hk hS
    obtain ⟨s2, f2, g2, q2⟩ := m_take (t := t) g1 (fun z => (v1 z).2) ht
    refine ⟨s2, ?_, ?_, QM_trans q1 q2⟩
    · simp (disch := omega) only [F_Mo_simple, F_Mo_simple_302, F_Mo_simple_84, F_Mo_simple_146, F_Mo_simple_267, F_Mo_simple_272, lit32, n_eq, if_pos, if_neg, f0, f1, f2, ite_true, ite_false, if_true, if_false, Bool.false_eq_true, and_self, and_true, true_and, and_false, false_and]
    · simp (disch := omega) only [Tr9, if_pos, if_neg, true_or, or_true, or_false, false_or, or_self, Nat.reduceEqDiff, ite_true, ite_false, if_true, if_false, Bool.false_eq_true, and_self, and_true, true_and, and_false, false_and]
      have e : (o.bind (fun l => if decide (k < im 5 m) = true then some l else none)).bind (wot t) = o.bind (wot (aty im m k)) := by
        cases o with
        | none => rfl
        | some l0 =>
          refine m_named (fun hb l => ?_) (fun hb l => ?_)
          · rw [(v1 (by show (if decide (k < im 5 m) = true then some l0 else none) ≠ none; rw [if_pos hb]; simp)).1]
          · rw [v2 hb, wot_0]
      rw [← e]
      exact g2
  · obtain ⟨s1, f1, g1, q1⟩ := arith
    refine ⟨s1, ?_, ?_, q1⟩
    · simp (disch := omega) only [F_Mo_simple, F_Mo_simple_302, F_Mo_simple_84, F_Mo_simple_146, F_Mo_simple_267, F_Mo_simple_272, lit32, n_eq, if_pos, if_neg, f1, ite_true, ite_false, if_true, if_false, Bool.false_eq_true, and_self, and_true, true_and, and_false, false_and]
    · simp (disch := omega) only [Tr9, if_pos, if_neg, true_or, or_true, or_false, false_or, or_self, Nat.reduceEqDiff, ite_true, ite_false, if_true, if_false, Bool.false_eq_true, and_self, and_true, true_and, and_false, false_and]
      exact g1
  · obtain ⟨s1, f1, g1, q1⟩ := arith
    refine ⟨s1, ?_, ?_, q1⟩
    · simp (disch := omega) only [F_Mo_simple, F_Mo_simple_302, F_Mo_simple_84, F_Mo_simple_146, F_Mo_simple_267, F_Mo_simple_272, lit32, n_eq, if_pos, if_neg, f1, ite_true, ite_false, if_true, if_false, Bool.false_eq_true, and_self, and_true, true_and, and_false, false_and]
    · simp (disch := omega) only [Tr9, if_pos, if_neg, true_or, or_true, or_false, false_or, or_self, Nat.reduceEqDiff, ite_true, ite_false, if_true, if_false, Bool.false_eq_true, and_self, and_true, true_and, and_false, false_and]
      exact g1
  · obtain ⟨s1, f1, g1, q1⟩ := arith
    refine ⟨s1, ?_, ?_, q1⟩
    · simp (disch := omega) only [F_Mo_simple, F_Mo_simple_302, F_Mo_simple_84, F_Mo_simple_146, F_Mo_simple_267, F_Mo_simple_272, lit32, n_eq, if_pos, if_neg, f1, ite_true, ite_false, if_true, if_false, Bool.false_eq_true, and_self, and_true, true_and, and_false, false_and]
    · simp (disch := omega) only [Tr9, if_pos, if_neg, true_or, or_true, or_false, false_or, or_self, Nat.reduceEqDiff, ite_true, ite_false, if_true, if_false, Bool.false_eq_true, and_self, and_true, true_and, and_false, false_and]
      exact g1
  · obtain ⟨s1, f1, g1, q1⟩ := arith
    refine ⟨s1, ?_, ?_, q1⟩
    · simp (disch := omega) only [F_Mo_simple, F_Mo_simple_302, F_Mo_simple_84, F_Mo_simple_146, F_Mo_simple_267, F_Mo_simple_272, lit32, n_eq, if_pos, if_neg, f1, ite_true, ite_false, if_true, if_false, Bool.false_eq_true, and_self, and_true, true_and, and_false, false_and]
    · simp (disch := omega) only [Tr9, if_pos, if_neg, true_or, or_true, or_false, false_or, or_self, Nat.reduceEqDiff, ite_true, ite_false, if_true, if_false, Bool.false_eq_true, and_self, and_true, true_and, and_false, false_and]
      exact g1
  · obtain ⟨v, s1, f1, hv, g1, e1, e2, q1⟩ := m_pop hS
    have hv1 : o.bind (fun l => match l with | [] => none | _ :: l => some l) ≠ none → 1 ≤ v := by
      intro z
      cases o with
      | none => exact absurd rfl z
      | some l =>
        cases l with
        | nil => exact absurd rfl z
        | cons x l =>
          rw [e1 x l rfl]
          exact (hS.2.2.2.2 x List.mem_cons_self).1
    obtain ⟨s2, f2, g2, q2⟩ := m_push (t := v) g1 hv1 hv
    obtain ⟨s3, f3, g3, q3⟩ := m_push (t := v) g2 (fun z => hv1 (bn z)) hv
    refine ⟨s3, ?_, ?_, QM_trans q1 (QM_trans q2 q3)⟩
    · simp (disch := omega) only [F_Mo_simple, F_Mo_simple_302, F_Mo_simple_84, F_Mo_simple_146, F_Mo_simple_267, F_Mo_simple_272, lit32, n_eq, if_pos, if_neg, f1, f2, f3, ite_true, ite_false, if_true, if_false, Bool.false_eq_true, and_self, and_true, true_and, and_false, false_and]
    · simp (disch := omega) only [Tr9, if_pos, if_neg, true_or, or_true, or_false, false_or, or_self, Nat.reduceEqDiff, ite_true, ite_false, if_true, if_false, Bool.false_eq_true, and_self, and_true, true_and, and_false, false_and]
      have e : ((o.bind (fun l => match l with | [] => none | _ :: l => some l)).bind (ps9 v)).bind (ps9 v) = o.bind dup9 := by
        cases o with
        | none => rfl
        | some l =>
          cases l with
          | nil => rfl
          | cons x l =>
            rw [e1 x l rfl]
            rfl
      rw [← e]
      exact g3
  · obtain ⟨v, s1, f1, hv, g1, e1, e2, q1⟩ := m_pop hS
    refine ⟨s1, ?_, ?_, q1⟩
    · simp (disch := omega) only [F_Mo_simple, F_Mo_simple_302, F_Mo_simple_84, F_Mo_simple_146, F_Mo_simple_267, F_Mo_simple_272, lit32, n_eq, if_pos, if_neg, f1, ite_true, ite_false, if_true, if_false, Bool.false_eq_true, and_self, and_true, true_and, and_false, false_and]
    · simp (disch := omega) only [Tr9, if_pos, if_neg, true_or, or_true, or_false, false_or, or_self, Nat.reduceEqDiff, ite_true, ite_false, if_true, if_false, Bool.false_eq_true, and_self, and_true, true_and, and_false, false_and]
      exact g1
  · refine ⟨σ, ?_, ?_, QM_refl _⟩
    · simp (disch := omega) only [F_Mo_simple, F_Mo_simple_302, F_Mo_simple_84, F_Mo_simple_146, F_Mo_simple_267, F_Mo_simple_272, lit32, n_eq, if_pos, if_neg, ite_true, ite_false, if_true, if_false, Bool.false_eq_true, and_self, and_true, true_and, and_false, false_and]
    · simp (disch := omega) only [Tr9, if_pos, if_neg, true_or, or_true, or_false, false_or, or_self, Nat.reduceEqDiff, ite_true, ite_false, if_true, if_false, Bool.false_eq_true, and_self, and_true, true_and, and_false, false_and]
      exact hS
  · obtain ⟨s1, f1, g1, q1⟩ := m_take (t := 1) hS (fun _ => by omega) (by omega)
    refine ⟨s1, ?_, ?_, q1⟩
    · simp (disch := omega) only [F_Mo_simple, F_Mo_simple_302, F_Mo_simple_84, F_Mo_simple_146, F_Mo_simple_267, F_Mo_simple_272, lit32, n_eq, if_pos, if_neg, f1, ite_true, ite_false, if_true, if_false, Bool.false_eq_true, and_self, and_true, true_and, and_false, false_and]
    · simp (disch := omega) only [Tr9, if_pos, if_neg, true_or, or_true, or_false, false_or, or_self, Nat.reduceEqDiff, ite_true, ite_false, if_true, if_false, Bool.false_eq_true, and_self, and_true, true_and, and_false, false_and]
      exact g1
  · obtain ⟨s1, f1, g1, q1⟩ := m_take (t := 1) hS (fun _ => by omega) (by omega)
    obtain ⟨s2, f2, g2, q2⟩ := m_take (t := 1) g1 (fun _ => by omega) (by omega)
    refine ⟨s2, ?_, ?_, QM_trans q1 q2⟩
    · simp (disch := omega) only [F_Mo_simple, F_Mo_simple_302, F_Mo_simple_84, F_Mo_simple_146, F_Mo_simple_267, F_Mo_simple_272, lit32, n_eq, if_pos, if_neg, f1, f2, ite_true, ite_false, if_true, if_false, Bool.false_eq_true, and_self, and_true, true_and, and_false, false_and]
    · simp (disch := omega) only [Tr9, if_pos, if_neg, true_or, or_true, or_false, false_or, or_self, Nat.reduceEqDiff, ite_true, ite_false, if_true, if_false, Bool.false_eq_true, and_self, and_true, true_and, and_false, false_and]
      exact g2
  · have f0 := hop2 (by decide)
    have wc := (wf_c hw).1
    have hn := h.1.2.1
    have hio : F_Mo_isObject 0 (Int32.ofNat k) σ = some (decide (8 ≤ k ∧ k < 8 + im 0 0), σ) := by
      by_cases c1 : k < 8
      · rw [decide_eq_false (by omega)]
        simp (disch := omega) only [F_Mo_isObject, F_Mo_isObject_21, F_Mo_isObject_22, lit32, n_lt, if_pos, ite_true, ite_false, if_true, if_false, Bool.false_eq_true, and_self, and_true, true_and, and_false, false_and]
      · by_cases c2 : 8 + im 0 0 ≤ k
        · rw [decide_eq_false (by omega)]
          simp (disch := omega) only [F_Mo_isObject, F_Mo_isObject_21, F_Mo_isObject_22, lit32, n_lt, n_le, n_add, hn, if_pos, if_neg, ite_true, ite_false, if_true, if_false, Bool.false_eq_true, and_self, and_true, true_and, and_false, false_and]
        · rw [decide_eq_true (by omega)]
          simp (disch := omega) only [F_Mo_isObject, F_Mo_isObject_21, F_Mo_isObject_22, lit32, n_lt, n_le, n_add, hn, if_neg, ite_true, ite_false, if_true, if_false, Bool.false_eq_true, and_self, and_true, true_and, and_false, false_and]
    obtain ⟨s1, f1, g1, q1⟩ := m_need (b := decide (k = 4 ∨ k = 5 ∨ (8 ≤ k ∧ k < 8 + im 0 0))) hS
    have f3 : F_Mo_operand 0 (Int32.ofNat p) s1 = some (Int32.ofNat k, s1) := by rw [← hkk]; exact m_opnd (BM_QM h q1) hm6 (hp (by decide))
    by_cases c : k = 4 ∨ k = 5 ∨ (8 ≤ k ∧ k < 8 + im 0 0)
    · rw [decide_eq_true c] at f1 g1
      obtain ⟨s2, f2, g2, q2⟩ := m_push (t := k) g1 (fun _ => by omega) (by omega)
      refine ⟨s2, ?_, ?_, QM_trans q1 q2⟩
      · by_cases c4 : k = 4
        · subst c4
          simp (disch := omega) only [F_Mo_simple, F_Mo_simple_302, F_Mo_simple_84, F_Mo_simple_146, F_Mo_simple_267, F_Mo_simple_272, lit32, n_eq, if_pos, if_neg, f0, f1, f2, f3, ite_true, ite_false, if_true, if_false, Bool.false_eq_true, and_self, and_true, true_and, and_false, false_and]
        · by_cases c5 : k = 5
          · subst c5
            simp (disch := omega) only [F_Mo_simple, F_Mo_simple_302, F_Mo_simple_84, F_Mo_simple_146, F_Mo_simple_267, F_Mo_simple_272, lit32, n_eq, if_pos, if_neg, f0, f1, f2, f3, ite_true, ite_false, if_true, if_false, Bool.false_eq_true, and_self, and_true, true_and, and_false, false_and]
          · rw [decide_eq_true (by omega)] at hio
            simp (disch := omega) only [F_Mo_simple, F_Mo_simple_302, F_Mo_simple_84, F_Mo_simple_146, F_Mo_simple_267, F_Mo_simple_272, lit32, n_eq, if_pos, if_neg, f0, f1, f2, f3, hio, ite_true, ite_false, if_true, if_false, Bool.false_eq_true, and_self, and_true, true_and, and_false, false_and]
      · simp (disch := omega) only [Tr9, if_pos, if_neg, true_or, or_true, or_false, false_or, or_self, Nat.reduceEqDiff, ite_true, ite_false, if_true, if_false, Bool.false_eq_true, and_self, and_true, true_and, and_false, false_and]
        have e : nuT im k = k := by unfold nuT; rw [if_pos c]
        rw [e]
        cases o with
        | none => exact g2
        | some l => exact g2
    · rw [decide_eq_false c] at f1 g1
      have g1' : SM s1 none := by
        cases o with
        | none => exact g1
        | some l => exact g1
      have hb : zb (s1.1 0 27) = false := g1'
      have hpush : F_Mo_push 0 (Int32.ofNat k) s1 = some (setI s1 0 27 (bz false)) := by
        simp (disch := omega) only [F_Mo_push, F_Mo_push_21, F_Mo_push_22, hb, if_neg, stl_e, rI, if_pos, zbz, ite_true, ite_false, if_true, if_false, Bool.false_eq_true, and_self, and_true, true_and, and_false, false_and]
      refine ⟨setI s1 0 27 (bz false), ?_, ?_, QM_trans q1 (QM_I (by omega))⟩
      · rw [decide_eq_false (by omega)] at hio
        simp (disch := omega) only [F_Mo_simple, F_Mo_simple_302, F_Mo_simple_84, F_Mo_simple_146, F_Mo_simple_267, F_Mo_simple_272, lit32, n_eq, if_pos, if_neg, f0, f1, hpush, f3, hio, ite_true, ite_false, if_true, if_false, Bool.false_eq_true, and_self, and_true, true_and, and_false, false_and]
      · simp (disch := omega) only [Tr9, if_pos, if_neg, true_or, or_true, or_false, false_or, or_self, Nat.reduceEqDiff, ite_true, ite_false, if_true, if_false, Bool.false_eq_true, and_self, and_true, true_and, and_false, false_and]
        have e : nuT im k = 0 := by unfold nuT; rw [if_neg c]
        have e2 : o.bind (ps9 0) = none := by
          cases o with
          | none => rfl
          | some l => exact ps9_0 l
        rw [e, e2]
        exact SM_n
theorem m_things {im : Im} {m p op : Nat} {σ : SG} {o : Option (List Nat)} (hw : WfI im) (hm : m < im 0 1) (h : BM im m σ) (hS : SM σ o) (h17 : 17 ≤ op) (hop : op ≤ 32) (hp : wdt op = 2 → p + 1 < 100) : ∃ σ1, F_Mo_things 0 (Int32.ofNat p) (Int32.ofNat op) σ = some σ1 ∧ SM σ1 (Tr9 im m op (im 15 (100 * m + p + 1)) o) ∧ QM σ σ1 := by
  have hm6 := (wf_m hw hm).1
  have wc := (wf_c hw).1
  have hk := RepM_b h.1 15 (100 * m + p + 1)
  generalize hkk : im 15 (100 * m + p + 1) = k at hk
  have hop2 : wdt op = 2 → F_Mo_operand 0 (Int32.ofNat p) σ = some (Int32.ofNat k, σ) := fun e => by rw [← hkk]; exact m_opnd h hm6 (hp e)
  have hn := h.1.2.1
  have bb : ∀ (o' : Option (List Nat)) (g : Nat), g ≠ 0 → (o'.bind fun l => if g = 0 then some l else ps9 g l) = o'.bind (ps9 g) := by
    intro o' g hg
    cases o' with
    | none => rfl
    | some l =>
      show (if g = 0 then some l else ps9 g l) = ps9 g l
      rw [if_neg hg]
  have b0 : ∀ (o' : Option (List Nat)), (o'.bind fun l => if 0 = 0 then some l else ps9 0 l) = o' := by
    intro o'
    cases o' <;> rfl
  obtain rfl | rfl | rfl | rfl | rfl | rfl | rfl | rfl | rfl | rfl | rfl | rfl | rfl | rfl | rfl | rfl : op = 17 ∨ op = 18 ∨ op = 19 ∨ op = 20 ∨ op = 21 ∨ op = 22 ∨ op = 23 ∨ op = 24 ∨ op = 25 ∨ op = 26 ∨ op = 27 ∨ op = 28 ∨ op = 29 ∨ op = 30 ∨ op = 31 ∨ op = 32 := by omega
  · have f0 := hop2 (by decide)
    obtain ⟨s1, f1, g1, q1⟩ := m_need (b := decide (k < im 0 0)) hS
    by_cases c : k < im 0 0
    · rw [decide_eq_true c] at f1 g1
      obtain ⟨s2, f2, g2, q2⟩ := m_push (t := 8 + k) g1 (fun _ => by omega) (by omega)
      refine ⟨s2, ?_, ?_, QM_trans q1 q2⟩
      · simp (disch := omega) only [F_Mo_things, F_Mo_things_15, F_Mo_things_106, F_Mo_things_181, F_Mo_things_284, F_Mo_things_311, lit32, n_le, n_eq, if_pos, if_neg, n_add, n_div, f0, hn, f1, f2, ite_true, ite_false, if_true, if_false, Bool.false_eq_true, and_self, and_true, true_and, and_false, false_and]
      · simp (disch := omega) only [Tr9, if_pos, if_neg, true_or, or_true, or_false, false_or, or_self, Nat.reduceEqDiff, ite_true, ite_false, if_true, if_false, Bool.false_eq_true, and_self, and_true, true_and, and_false, false_and]
        have e : neT im k = 8 + k := by unfold neT; rw [if_pos c]
        rw [e]
        cases o with
        | none => exact g2
        | some l => exact g2
    · rw [decide_eq_false c] at f1 g1
      have g1' : SM s1 none := by
        cases o with
        | none => exact g1
        | some l => exact g1
      have hb : zb (s1.1 0 27) = false := g1'
      have hpush : F_Mo_push 0 (Int32.ofNat (8 + k)) s1 = some (setI s1 0 27 (bz false)) := by
        simp (disch := omega) only [F_Mo_push, F_Mo_push_21, F_Mo_push_22, hb, if_neg, stl_e, rI, if_pos, zbz, ite_true, ite_false, if_true, if_false, Bool.false_eq_true, and_self, and_true, true_and, and_false, false_and]
      refine ⟨setI s1 0 27 (bz false), ?_, ?_, QM_trans q1 (QM_I (by omega))⟩
      · simp (disch := omega) only [F_Mo_things, F_Mo_things_15, F_Mo_things_106, F_Mo_things_181, F_Mo_things_284, F_Mo_things_311, lit32, n_le, n_eq, if_pos, if_neg, n_add, n_div, f0, hn, f1, hpush, ite_true, ite_false, if_true, if_false, Bool.false_eq_true, and_self, and_true, true_and, and_false, false_and]
      · simp (disch := omega) only [Tr9, if_pos, if_neg, true_or, or_true, or_false, false_or, or_self, Nat.reduceEqDiff, ite_true, ite_false, if_true, if_false, Bool.false_eq_true, and_self, and_true, true_and, and_false, false_and]
        have e : neT im k = 0 := by unfold neT; rw [if_neg c]
        have e2 : o.bind (ps9 0) = none := by
          cases o with
          | none => rfl
          | some l => exact ps9_0 l
        rw [e, e2]
        exact SM_n
  · have f0 := hop2 (by decide)
    obtain ⟨t, s1, f1, ht, g1, q1, v1, v2, v3⟩ := m_field (k := k) hw h hk hS
    have hob : fin3 im k = true → obj im k = 8 + k / 4 := fun e => by unfold obj; rw [if_neg (v3 e)]
    have hob0 : fin3 im k = false → obj im k = 0 := fun e => by unfold obj; rw [if_pos (v2 e)]
    cases hb : fin3 im k with
    | false =>
      rw [hb] at g1
      have g1' : SM s1 none := by
        cases o with
        | none => exact g1
        | some l => exact g1
      have hz : zb (s1.1 0 27) = false := g1'
      have en : o.bind (wot 0) = none := by
        cases o with
        | none => rfl
        | some l => exact wot_0 l
      have e18 : Tr9 im m 18 k o = none := by
        simp (disch := omega) only [Tr9, if_pos, if_neg, true_or, or_true, or_false, false_or, or_self, Nat.reduceEqDiff, ite_true, ite_false, if_true, if_false, Bool.false_eq_true, and_self, and_true, true_and, and_false, false_and]
        rw [hob0 hb, en]
        rfl
      have ntake : ∀ x s, SM s none → ∃ s', F_Mo_take 0 x s = some s' ∧ SM s' none ∧ QM s s' := by
        intro x s hs
        have hz : zb (s.1 0 27) = false := hs
        have hp : F_Mo_pop 0 s = some (Int32.ofNat 0, setI s 0 27 (bz false)) := by
          simp (disch := omega) only [F_Mo_pop, F_Mo_pop_19, F_Mo_pop_20, hz, if_neg, stl_e, rI, if_pos, zbz, lit32, ite_true, ite_false, if_true, if_false, Bool.false_eq_true, and_self, and_true, true_and, and_false, false_and]
        have hz2 : zb ((setI s 0 27 (bz false)).1 0 27) = false := SM_n
        refine ⟨setI (setI s 0 27 (bz false)) 0 27 (bz false), ?_, SM_n, QM_trans (QM_I (by omega)) (QM_I (by omega))⟩
        simp (disch := omega) only [F_Mo_take, F_Mo_take_22, F_Mo_take_23, hp, hz2, if_neg, stl_e, ite_true, ite_false, if_true, if_false, Bool.false_eq_true, and_self, and_true, true_and, and_false, false_and]
      obtain ⟨s2, f2, g2, q2⟩ := ntake (Int32.ofNat (8 + k / 4)) s1 g1'
      have hfin : ∃ s3, F_Mo_taken_14 0 (Int32.ofNat t) s2 = some s3 ∧ SM s3 none ∧ QM s2 s3 := by
        by_cases c : t = 0
        · refine ⟨s2, ?_, g2, QM_refl _⟩
          simp (disch := omega) only [F_Mo_taken_14, F_Mo_taken_23, lit32, n_le, if_pos, ite_true, ite_false, if_true, if_false, Bool.false_eq_true, and_self, and_true, true_and, and_false, false_and]
        · obtain ⟨s3, f3, g3, q3⟩ := m_push (t := t) g2 (fun z => absurd rfl z) ht
          refine ⟨s3, ?_, g3, q3⟩
          simp (disch := omega) only [F_Mo_taken_14, F_Mo_taken_23, lit32, n_le, if_neg, f3, ite_true, ite_false, if_true, if_false, Bool.false_eq_true, and_self, and_true, true_and, and_false, false_and]
      obtain ⟨s3, f3, g3, q3⟩ := hfin
      have f4 : F_Mo_taken 0 (Int32.ofNat 0) (Int32.ofNat (8 + k / 4)) (Int32.ofNat t) s1 = some s3 := by
        simp (disch := omega) only [F_Mo_taken, f2, lit32, n_le, if_pos, f3, ite_true, ite_false, if_true, if_false, Bool.false_eq_true, and_self, and_true, true_and, and_false, false_and]
      refine ⟨s3, ?_, by rw [e18]; exact g3, QM_trans q1 (QM_trans q2 q3)⟩
      simp (disch := omega) only [F_Mo_things, F_Mo_things_15, F_Mo_things_106, F_Mo_things_181, F_Mo_things_284, F_Mo_things_311, lit32, n_le, n_eq, if_pos, if_neg, n_add, n_div, f0, f1, f4, ite_true, ite_false, if_true, if_false, Bool.false_eq_true, and_self, and_true, true_and, and_false, false_and]
    | true =>
      rw [hb] at g1 v1
      have k4 : k / 4 < 4 := by
        have c := of_decide_eq_true hb
        omega
      have g1' : SM s1 o := by
        cases o with
        | none => exact g1
        | some l => exact g1
      have vt : o ≠ none → t = fty im k ∧ 1 ≤ t := by
        intro z
        cases o with
        | none => exact absurd rfl z
        | some l => exact v1 (by simp)
      obtain ⟨s2, f2, g2, q2⟩ := m_taken (a := 0) (b := 8 + k / 4) (g := t) g1' (by omega) (fun _ => by omega) (by omega) ht
      refine ⟨s2, ?_, ?_, QM_trans q1 q2⟩
      · simp (disch := omega) only [F_Mo_things, F_Mo_things_15, F_Mo_things_106, F_Mo_things_181, F_Mo_things_284, F_Mo_things_311, lit32, n_le, n_eq, if_pos, if_neg, n_add, n_div, f0, f1, f2, ite_true, ite_false, if_true, if_false, Bool.false_eq_true, and_self, and_true, true_and, and_false, false_and]
      · simp (disch := omega) only [Tr9, if_pos, if_neg, true_or, or_true, or_false, false_or, or_self, Nat.reduceEqDiff, ite_true, ite_false, if_true, if_false, Bool.false_eq_true, and_self, and_true, true_and, and_false, false_and]
        rw [hob hb]
        cases o with
        | none => exact g2
        | some l =>
          obtain ⟨t1, t2⟩ := vt (by simp)
          rw [bb _ _ (by omega)] at g2
          rw [← t1]
          exact g2
  · have f0 := hop2 (by decide)
    obtain ⟨t, s1, f1, ht, g1, q1, v1, v2, v3⟩ := m_field (k := k) hw h hk hS
    have hob : fin3 im k = true → obj im k = 8 + k / 4 := fun e => by unfold obj; rw [if_neg (v3 e)]
    have hob0 : fin3 im k = false → obj im k = 0 := fun e => by unfold obj; rw [if_pos (v2 e)]
    cases hb : fin3 im k with
    | false =>
      rw [hb] at g1
      have g1' : SM s1 none := by
        cases o with
        | none => exact g1
        | some l => exact g1
      have hz : zb (s1.1 0 27) = false := g1'
      have en : o.bind (wot 0) = none := by
        cases o with
        | none => rfl
        | some l => exact wot_0 l
      have e19 : Tr9 im m 19 k o = none := by
        simp (disch := omega) only [Tr9, if_pos, if_neg, true_or, or_true, or_false, false_or, or_self, Nat.reduceEqDiff, ite_true, ite_false, if_true, if_false, Bool.false_eq_true, and_self, and_true, true_and, and_false, false_and]
        rw [v2 hb, en]
        rfl
      have ntake : ∀ x s, SM s none → ∃ s', F_Mo_take 0 x s = some s' ∧ SM s' none ∧ QM s s' := by
        intro x s hs
        have hz : zb (s.1 0 27) = false := hs
        have hp : F_Mo_pop 0 s = some (Int32.ofNat 0, setI s 0 27 (bz false)) := by
          simp (disch := omega) only [F_Mo_pop, F_Mo_pop_19, F_Mo_pop_20, hz, if_neg, stl_e, rI, if_pos, zbz, lit32, ite_true, ite_false, if_true, if_false, Bool.false_eq_true, and_self, and_true, true_and, and_false, false_and]
        have hz2 : zb ((setI s 0 27 (bz false)).1 0 27) = false := SM_n
        refine ⟨setI (setI s 0 27 (bz false)) 0 27 (bz false), ?_, SM_n, QM_trans (QM_I (by omega)) (QM_I (by omega))⟩
        simp (disch := omega) only [F_Mo_take, F_Mo_take_22, F_Mo_take_23, hp, hz2, if_neg, stl_e, ite_true, ite_false, if_true, if_false, Bool.false_eq_true, and_self, and_true, true_and, and_false, false_and]
      obtain ⟨s2, f2, g2, q2⟩ := ntake (Int32.ofNat t) s1 g1'
      obtain ⟨s3, f3, g3, q3⟩ := ntake (Int32.ofNat (8 + k / 4)) s2 g2
      have f4 : F_Mo_taken 0 (Int32.ofNat (8 + k / 4)) (Int32.ofNat t) (Int32.ofNat 0) s1 = some s3 := by
        simp (disch := omega) only [F_Mo_taken, F_Mo_taken_14, F_Mo_taken_23, f2, lit32, n_le, if_neg, if_pos, f3, ite_true, ite_false, if_true, if_false, Bool.false_eq_true, and_self, and_true, true_and, and_false, false_and]
      refine ⟨s3, ?_, by rw [e19]; exact g3, QM_trans q1 (QM_trans q2 q3)⟩
      simp (disch := omega) only [F_Mo_things, F_Mo_things_15, F_Mo_things_106, F_Mo_things_181, F_Mo_things_284, F_Mo_things_311, lit32, n_le, n_eq, if_pos, if_neg, n_add, n_div, f0, f1, f4, ite_true, ite_false, if_true, if_false, Bool.false_eq_true, and_self, and_true, true_and, and_false, false_and]
    | true =>
      rw [hb] at g1 v1
      have k4 : k / 4 < 4 := by
        have c := of_decide_eq_true hb
        omega
      have g1' : SM s1 o := by
        cases o with
        | none => exact g1
        | some l => exact g1
      have vt : o ≠ none → t = fty im k ∧ 1 ≤ t := by
        intro z
        cases o with
        | none => exact absurd rfl z
        | some l => exact v1 (by simp)
      by_cases ct : 1 ≤ t
      · obtain ⟨s2, f2, g2, q2⟩ := m_taken (a := 8 + k / 4) (b := t) (g := 0) g1' (by omega) (fun _ => ct) ht (by omega)
        refine ⟨s2, ?_, ?_, QM_trans q1 q2⟩
        · simp (disch := omega) only [F_Mo_things, F_Mo_things_15, F_Mo_things_106, F_Mo_things_181, F_Mo_things_284, F_Mo_things_311, lit32, n_le, n_eq, if_pos, if_neg, n_add, n_div, f0, f1, f2, ite_true, ite_false, if_true, if_false, Bool.false_eq_true, and_self, and_true, true_and, and_false, false_and]
        · simp (disch := omega) only [Tr9, if_pos, if_neg, true_or, or_true, or_false, false_or, or_self, Nat.reduceEqDiff, ite_true, ite_false, if_true, if_false, Bool.false_eq_true, and_self, and_true, true_and, and_false, false_and]
          rw [hob hb]
          rw [b0, if_neg (by omega)] at g2
          cases o with
          | none => exact g2
          | some l =>
            obtain ⟨t1, t2⟩ := vt (by simp)
            rw [← t1]
            exact g2
      · cases o with
        | some l => exact absurd (vt (by simp)).2 ct
        | none =>
          obtain ⟨s2, f2, g2, q2⟩ := m_taken (a := 8 + k / 4) (b := t) (g := 0) g1' (by omega) (fun z => absurd rfl z) ht (by omega)
          refine ⟨s2, ?_, ?_, QM_trans q1 q2⟩
          · simp (disch := omega) only [F_Mo_things, F_Mo_things_15, F_Mo_things_106, F_Mo_things_181, F_Mo_things_284, F_Mo_things_311, lit32, n_le, n_eq, if_pos, if_neg, n_add, n_div, f0, f1, f2, ite_true, ite_false, if_true, if_false, Bool.false_eq_true, and_self, and_true, true_and, and_false, false_and]
          · simp (disch := omega) only [Tr9, if_pos, if_neg, true_or, or_true, or_false, false_or, or_self, Nat.reduceEqDiff, ite_true, ite_false, if_true, if_false, Bool.false_eq_true, and_self, and_true, true_and, and_false, false_and]
            rw [b0, if_neg (by omega)] at g2
            exact g2
  · have f0 := hop2 (by decide)
    obtain ⟨t, s1, f1, ht, g1, q1, v1, v2, v3⟩ := m_field (k := k) hw h hk hS
    have hob : fin3 im k = true → obj im k = 8 + k / 4 := fun e => by unfold obj; rw [if_neg (v3 e)]
    have hob0 : fin3 im k = false → obj im k = 0 := fun e => by unfold obj; rw [if_pos (v2 e)]
    cases hb : fin3 im k with
    | false =>
      rw [hb] at g1
      have g1' : SM s1 none := by
        cases o with
        | none => exact g1
        | some l => exact g1
      have hz : zb (s1.1 0 27) = false := g1'
      have en : o.bind (wot 0) = none := by
        cases o with
        | none => rfl
        | some l => exact wot_0 l
      have e20 : Tr9 im m 20 k o = none := by
        simp (disch := omega) only [Tr9, if_pos, if_neg, true_or, or_true, or_false, false_or, or_self, Nat.reduceEqDiff, ite_true, ite_false, if_true, if_false, Bool.false_eq_true, and_self, and_true, true_and, and_false, false_and]
        rw [hob0 hb, en]
        rfl
      have ntake : ∀ x s, SM s none → ∃ s', F_Mo_take 0 x s = some s' ∧ SM s' none ∧ QM s s' := by
        intro x s hs
        have hz : zb (s.1 0 27) = false := hs
        have hp : F_Mo_pop 0 s = some (Int32.ofNat 0, setI s 0 27 (bz false)) := by
          simp (disch := omega) only [F_Mo_pop, F_Mo_pop_19, F_Mo_pop_20, hz, if_neg, stl_e, rI, if_pos, zbz, lit32, ite_true, ite_false, if_true, if_false, Bool.false_eq_true, and_self, and_true, true_and, and_false, false_and]
        have hz2 : zb ((setI s 0 27 (bz false)).1 0 27) = false := SM_n
        refine ⟨setI (setI s 0 27 (bz false)) 0 27 (bz false), ?_, SM_n, QM_trans (QM_I (by omega)) (QM_I (by omega))⟩
        simp (disch := omega) only [F_Mo_take, F_Mo_take_22, F_Mo_take_23, hp, hz2, if_neg, stl_e, ite_true, ite_false, if_true, if_false, Bool.false_eq_true, and_self, and_true, true_and, and_false, false_and]
      obtain ⟨s2, f2, g2, q2⟩ := m_need (b := decide (t = 1)) g1'
      obtain ⟨s3, f3, g3, q3⟩ := ntake (Int32.ofNat (8 + k / 4)) s2 g2
      obtain ⟨s4, f4, g4, q4⟩ := m_push (t := 3) g3 (fun z => absurd rfl z) (by omega)
      have f5 : F_Mo_taken 0 (Int32.ofNat 0) (Int32.ofNat (8 + k / 4)) (Int32.ofNat 3) s2 = some s4 := by
        simp (disch := omega) only [F_Mo_taken, F_Mo_taken_14, F_Mo_taken_23, f3, lit32, n_le, if_neg, if_pos, f4, ite_true, ite_false, if_true, if_false, Bool.false_eq_true, and_self, and_true, true_and, and_false, false_and]
      refine ⟨s4, ?_, by rw [e20]; exact g4, QM_trans q1 (QM_trans q2 (QM_trans q3 q4))⟩
      by_cases c : t = 1
      · rw [decide_eq_true c] at f2
        simp (disch := omega) only [F_Mo_things, F_Mo_things_15, F_Mo_things_106, F_Mo_things_181, F_Mo_things_284, F_Mo_things_311, lit32, n_le, n_eq, if_pos, if_neg, n_add, n_div, f0, f1, f2, f5, ite_true, ite_false, if_true, if_false, Bool.false_eq_true, and_self, and_true, true_and, and_false, false_and]
      · rw [decide_eq_false c] at f2
        simp (disch := omega) only [F_Mo_things, F_Mo_things_15, F_Mo_things_106, F_Mo_things_181, F_Mo_things_284, F_Mo_things_311, lit32, n_le, n_eq, if_pos, if_neg, n_add, n_div, f0, f1, f2, f5, ite_true, ite_false, if_true, if_false, Bool.false_eq_true, and_self, and_true, true_and, and_false, false_and]
    | true =>
      rw [hb] at g1 v1
      have k4 : k / 4 < 4 := by
        have c := of_decide_eq_true hb
        omega
      have g1' : SM s1 o := by
        cases o with
        | none => exact g1
        | some l => exact g1
      have vt : o ≠ none → t = fty im k ∧ 1 ≤ t := by
        intro z
        cases o with
        | none => exact absurd rfl z
        | some l => exact v1 (by simp)
      obtain ⟨s2, f2, g2, q2⟩ := m_need (b := decide (t = 1)) g1'
      obtain ⟨s3, f3, g3, q3⟩ := m_taken (a := 0) (b := 8 + k / 4) (g := 3) g2 (by omega) (fun _ => by omega) (by omega) (by omega)
      refine ⟨s3, ?_, ?_, QM_trans q1 (QM_trans q2 q3)⟩
      · by_cases c : t = 1
        · rw [decide_eq_true c] at f2
          simp (disch := omega) only [F_Mo_things, F_Mo_things_15, F_Mo_things_106, F_Mo_things_181, F_Mo_things_284, F_Mo_things_311, lit32, n_le, n_eq, if_pos, if_neg, n_add, n_div, f0, f1, f2, f3, ite_true, ite_false, if_true, if_false, Bool.false_eq_true, and_self, and_true, true_and, and_false, false_and]
        · rw [decide_eq_false c] at f2
          simp (disch := omega) only [F_Mo_things, F_Mo_things_15, F_Mo_things_106, F_Mo_things_181, F_Mo_things_284, F_Mo_things_311, lit32, n_le, n_eq, if_pos, if_neg, n_add, n_div, f0, f1, f2, f3, ite_true, ite_false, if_true, if_false, Bool.false_eq_true, and_self, and_true, true_and, and_false, false_and]
      · simp (disch := omega) only [Tr9, if_pos, if_neg, true_or, or_true, or_false, false_or, or_self, Nat.reduceEqDiff, ite_true, ite_false, if_true, if_false, Bool.false_eq_true, and_self, and_true, true_and, and_false, false_and]
        rw [hob hb]
        rw [bb _ _ (by omega), if_pos rfl] at g3
        cases o with
        | none => exact g3
        | some l =>
          obtain ⟨t1, t2⟩ := vt (by simp)
          rw [← t1]
          by_cases c : t = 1
          · rw [c] at g3 ⊢
            exact g3
          · have e2 : plc t = 0 := by unfold plc; rw [if_neg c]
            rw [e2]
            rw [decide_eq_false c] at g3
            have e3 : ((some l).bind (wot (8 + k / 4))).bind (ps9 0) = none := by
              cases hx : (some l : Option (List Nat)).bind (wot (8 + k / 4)) with
              | none => rfl
              | some y => exact ps9_0 y
            rw [e3]
            exact g3
  · obtain ⟨s1, f1, g1, q1⟩ := m_taken (a := 0) (b := 1) (g := 4) hS (by omega) (fun _ => by omega) (by omega) (by omega)
    refine ⟨s1, ?_, ?_, q1⟩
    · simp (disch := omega) only [F_Mo_things, F_Mo_things_15, F_Mo_things_106, F_Mo_things_181, F_Mo_things_284, F_Mo_things_311, lit32, n_le, n_eq, if_pos, if_neg, n_add, n_div, f1, ite_true, ite_false, if_true, if_false, Bool.false_eq_true, and_self, and_true, true_and, and_false, false_and]
    · simp (disch := omega) only [Tr9, if_pos, if_neg, true_or, or_true, or_false, false_or, or_self, Nat.reduceEqDiff, ite_true, ite_false, if_true, if_false, Bool.false_eq_true, and_self, and_true, true_and, and_false, false_and]
      rw [bb _ _ (by omega)] at g1
      exact g1
  · obtain ⟨s1, f1, g1, q1⟩ := m_taken (a := 4) (b := 1) (g := 1) hS (by omega) (fun _ => by omega) (by omega) (by omega)
    refine ⟨s1, ?_, ?_, q1⟩
    · simp (disch := omega) only [F_Mo_things, F_Mo_things_15, F_Mo_things_106, F_Mo_things_181, F_Mo_things_284, F_Mo_things_311, lit32, n_le, n_eq, if_pos, if_neg, n_add, n_div, f1, ite_true, ite_false, if_true, if_false, Bool.false_eq_true, and_self, and_true, true_and, and_false, false_and]
    · simp (disch := omega) only [Tr9, if_pos, if_neg, true_or, or_true, or_false, false_or, or_self, Nat.reduceEqDiff, ite_true, ite_false, if_true, if_false, Bool.false_eq_true, and_self, and_true, true_and, and_false, false_and]
      rw [bb _ _ (by omega)] at g1
      exact g1
  · obtain ⟨s0, f0, g0, q0⟩ := m_take (t := 1) hS (fun _ => by omega) (by omega)
    obtain ⟨s1, f1, g1, q1⟩ := m_taken (a := 4) (b := 1) (g := 0) g0 (by omega) (fun _ => by omega) (by omega) (by omega)
    refine ⟨s1, ?_, ?_, QM_trans q0 q1⟩
    · simp (disch := omega) only [F_Mo_things, F_Mo_things_15, F_Mo_things_106, F_Mo_things_181, F_Mo_things_284, F_Mo_things_311, lit32, n_le, n_eq, if_pos, if_neg, n_add, n_div, f0, f1, ite_true, ite_false, if_true, if_false, Bool.false_eq_true, and_self, and_true, true_and, and_false, false_and]
    · simp (disch := omega) only [Tr9, if_pos, if_neg, true_or, or_true, or_false, false_or, or_self, Nat.reduceEqDiff, ite_true, ite_false, if_true, if_false, Bool.false_eq_true, and_self, and_true, true_and, and_false, false_and]
      rw [b0] at g1
      exact g1
  · obtain ⟨s1, f1, g1, q1⟩ := m_taken (a := 4) (b := 1) (g := 3) hS (by omega) (fun _ => by omega) (by omega) (by omega)
    refine ⟨s1, ?_, ?_, q1⟩
    · simp (disch := omega) only [F_Mo_things, F_Mo_things_15, F_Mo_things_106, F_Mo_things_181, F_Mo_things_284, F_Mo_things_311, lit32, n_le, n_eq, if_pos, if_neg, n_add, n_div, f1, ite_true, ite_false, if_true, if_false, Bool.false_eq_true, and_self, and_true, true_and, and_false, false_and]
    · simp (disch := omega) only [Tr9, if_pos, if_neg, true_or, or_true, or_false, false_or, or_self, Nat.reduceEqDiff, ite_true, ite_false, if_true, if_false, Bool.false_eq_true, and_self, and_true, true_and, and_false, false_and]
      rw [bb _ _ (by omega)] at g1
      exact g1
  · obtain ⟨s1, f1, g1, q1⟩ := m_taken (a := 0) (b := 4) (g := 1) hS (by omega) (fun _ => by omega) (by omega) (by omega)
    refine ⟨s1, ?_, ?_, q1⟩
    · simp (disch := omega) only [F_Mo_things, F_Mo_things_15, F_Mo_things_106, F_Mo_things_181, F_Mo_things_284, F_Mo_things_311, lit32, n_le, n_eq, if_pos, if_neg, n_add, n_div, f1, ite_true, ite_false, if_true, if_false, Bool.false_eq_true, and_self, and_true, true_and, and_false, false_and]
    · simp (disch := omega) only [Tr9, if_pos, if_neg, true_or, or_true, or_false, false_or, or_self, Nat.reduceEqDiff, ite_true, ite_false, if_true, if_false, Bool.false_eq_true, and_self, and_true, true_and, and_false, false_and]
      rw [bb _ _ (by omega)] at g1
      exact g1
  · obtain ⟨s1, f1, g1, q1⟩ := m_taken (a := 0) (b := 3) (g := 1) hS (by omega) (fun _ => by omega) (by omega) (by omega)
    refine ⟨s1, ?_, ?_, q1⟩
    · simp (disch := omega) only [F_Mo_things, F_Mo_things_15, F_Mo_things_106, F_Mo_things_181, F_Mo_things_284, F_Mo_things_311, lit32, n_le, n_eq, if_pos, if_neg, n_add, n_div, f1, ite_true, ite_false, if_true, if_false, Bool.false_eq_true, and_self, and_true, true_and, and_false, false_and]
    · simp (disch := omega) only [Tr9, if_pos, if_neg, true_or, or_true, or_false, false_or, or_self, Nat.reduceEqDiff, ite_true, ite_false, if_true, if_false, Bool.false_eq_true, and_self, and_true, true_and, and_false, false_and]
      rw [bb _ _ (by omega)] at g1
      exact g1
  · obtain ⟨s1, f1, g1, q1⟩ := m_taken (a := 3) (b := 1) (g := 0) hS (by omega) (fun _ => by omega) (by omega) (by omega)
    refine ⟨s1, ?_, ?_, q1⟩
    · simp (disch := omega) only [F_Mo_things, F_Mo_things_15, F_Mo_things_106, F_Mo_things_181, F_Mo_things_284, F_Mo_things_311, lit32, n_le, n_eq, if_pos, if_neg, n_add, n_div, f1, ite_true, ite_false, if_true, if_false, Bool.false_eq_true, and_self, and_true, true_and, and_false, false_and]
    · simp (disch := omega) only [Tr9, if_pos, if_neg, true_or, or_true, or_false, false_or, or_self, Nat.reduceEqDiff, ite_true, ite_false, if_true, if_false, Bool.false_eq_true, and_self, and_true, true_and, and_false, false_and]
      rw [b0] at g1
      exact g1
  · obtain ⟨s1, f1, g1, q1⟩ := m_taken (a := 1) (b := 1) (g := 2) hS (by omega) (fun _ => by omega) (by omega) (by omega)
    refine ⟨s1, ?_, ?_, q1⟩
    · simp (disch := omega) only [F_Mo_things, F_Mo_things_15, F_Mo_things_106, F_Mo_things_181, F_Mo_things_284, F_Mo_things_311, lit32, n_le, n_eq, if_pos, if_neg, n_add, n_div, f1, ite_true, ite_false, if_true, if_false, Bool.false_eq_true, and_self, and_true, true_and, and_false, false_and]
    · simp (disch := omega) only [Tr9, if_pos, if_neg, true_or, or_true, or_false, false_or, or_self, Nat.reduceEqDiff, ite_true, ite_false, if_true, if_false, Bool.false_eq_true, and_self, and_true, true_and, and_false, false_and]
      rw [bb _ _ (by omega)] at g1
      exact g1
  · obtain ⟨s1, f1, g1, q1⟩ := m_taken (a := 0) (b := 2) (g := 1) hS (by omega) (fun _ => by omega) (by omega) (by omega)
    refine ⟨s1, ?_, ?_, q1⟩
    · simp (disch := omega) only [F_Mo_things, F_Mo_things_15, F_Mo_things_106, F_Mo_things_181, F_Mo_things_284, F_Mo_things_311, lit32, n_le, n_eq, if_pos, if_neg, n_add, n_div, f1, ite_true, ite_false, if_true, if_false, Bool.false_eq_true, and_self, and_true, true_and, and_false, false_and]
    · simp (disch := omega) only [Tr9, if_pos, if_neg, true_or, or_true, or_false, false_or, or_self, Nat.reduceEqDiff, ite_true, ite_false, if_true, if_false, Bool.false_eq_true, and_self, and_true, true_and, and_false, false_and]
      rw [bb _ _ (by omega)] at g1
      exact g1
  · obtain ⟨s1, f1, g1, q1⟩ := m_taken (a := 0) (b := 2) (g := 1) hS (by omega) (fun _ => by omega) (by omega) (by omega)
    refine ⟨s1, ?_, ?_, q1⟩
    · simp (disch := omega) only [F_Mo_things, F_Mo_things_15, F_Mo_things_106, F_Mo_things_181, F_Mo_things_284, F_Mo_things_311, lit32, n_le, n_eq, if_pos, if_neg, n_add, n_div, f1, ite_true, ite_false, if_true, if_false, Bool.false_eq_true, and_self, and_true, true_and, and_false, false_and]
    · simp (disch := omega) only [Tr9, if_pos, if_neg, true_or, or_true, or_false, false_or, or_self, Nat.reduceEqDiff, ite_true, ite_false, if_true, if_false, Bool.false_eq_true, and_self, and_true, true_and, and_false, false_and]
      rw [bb _ _ (by omega)] at g1
      exact g1
  · obtain ⟨s1, f1, g1, q1⟩ := m_taken (a := 0) (b := 2) (g := 5) hS (by omega) (fun _ => by omega) (by omega) (by omega)
    refine ⟨s1, ?_, ?_, q1⟩
    · simp (disch := omega) only [F_Mo_things, F_Mo_things_15, F_Mo_things_106, F_Mo_things_181, F_Mo_things_284, F_Mo_things_311, lit32, n_le, n_eq, if_pos, if_neg, n_add, n_div, f1, ite_true, ite_false, if_true, if_false, Bool.false_eq_true, and_self, and_true, true_and, and_false, false_and]
    · simp (disch := omega) only [Tr9, if_pos, if_neg, true_or, or_true, or_false, false_or, or_self, Nat.reduceEqDiff, ite_true, ite_false, if_true, if_false, Bool.false_eq_true, and_self, and_true, true_and, and_false, false_and]
      rw [bb _ _ (by omega)] at g1
      exact g1
  · obtain ⟨s1, f1, g1, q1⟩ := m_taken (a := 0) (b := 5) (g := 2) hS (by omega) (fun _ => by omega) (by omega) (by omega)
    refine ⟨s1, ?_, ?_, q1⟩
    · simp (disch := omega) only [F_Mo_things, F_Mo_things_15, F_Mo_things_106, F_Mo_things_181, F_Mo_things_284, F_Mo_things_311, lit32, n_le, n_eq, if_pos, if_neg, n_add, n_div, f1, ite_true, ite_false, if_true, if_false, Bool.false_eq_true, and_self, and_true, true_and, and_false, false_and]
    · simp (disch := omega) only [Tr9, if_pos, if_neg, true_or, or_true, or_false, false_or, or_self, Nat.reduceEqDiff, ite_true, ite_false, if_true, if_false, Bool.false_eq_true, and_self, and_true, true_and, and_false, false_and]
      rw [bb _ _ (by omega)] at g1
      exact g1
