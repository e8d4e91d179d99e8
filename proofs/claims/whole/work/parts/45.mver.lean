/-! The reference verifies. -/
def le8 (l : List Nat) : Option (List Nat) := if l.length ≤ 8 then some l else none
theorem wth_9 (t : Nat) (o : Option (List Nat)) : o.bind (wth t) = (o.bind (ps9 t)).bind le8 := by
  cases o with
  | none => rfl
  | some l =>
    show wth t l = (ps9 t l).bind le8
    unfold wth ps9
    by_cases c0 : t = 0
    · rw [if_neg (fun z => z.2 c0), if_neg (fun z => z.2 c0)]
      rfl
    · by_cases c : l.length < 8
      · rw [if_pos ⟨c, c0⟩, if_pos ⟨by omega, c0⟩]
        show _ = le8 _
        unfold le8
        rw [if_pos (by rw [List.length_cons]; omega)]
      · rw [if_neg (fun z => c z.1)]
        by_cases c9 : l.length < 9
        · rw [if_pos ⟨c9, c0⟩]
          show _ = le8 _
          unfold le8
          rw [if_neg (by rw [List.length_cons]; omega)]
        · rw [if_neg (fun z => c9 z.1)]
          rfl
def L8 (o : Option (List Nat)) : Prop := ∀ l, o = some l → l.length ≤ 8
theorem L8_e {o : Option (List Nat)} (h : L8 o) : o = o.bind le8 := by
  cases o with
  | none => rfl
  | some l =>
    show some l = le8 l
    unfold le8
    rw [if_pos (h l rfl)]
theorem L8_wot {o : Option (List Nat)} {t : Nat} (h : L8 o) : L8 (o.bind (wot t)) := by
  intro l hl
  cases o with
  | none => cases hl
  | some x =>
    have hx := h x rfl
    have hl' : wot t x = some l := hl
    cases x with
    | nil => cases hl'
    | cons y x =>
      rw [wot_c] at hl'
      by_cases c : y = t ∧ t ≠ 0
      · rw [if_pos c] at hl'
        cases hl'
        rw [List.length_cons] at hx
        omega
      · rw [if_neg c] at hl'
        cases hl'
theorem L8_popA {im : Im} {k : Nat} : ∀ i (o : Option (List Nat)), L8 o → L8 (popA im k i o)
  | 0, _, h => h
  | i + 1, _, h => L8_popA i _ (L8_wot h)
theorem ite_bind8 {c : Prop} [Decidable c] {a b a' b' : Option (List Nat)} (h1 : a = a'.bind le8) (h2 : b = b'.bind le8) : (if c then a else b) = (if c then a' else b').bind le8 := by
  by_cases h : c
  · rw [if_pos h, if_pos h]; exact h1
  · rw [if_neg h, if_neg h]; exact h2
theorem Tr_89 {im : Im} {m op k : Nat} {l : List Nat} (hl : Gr l) : Tr im m op k (some l) = (Tr9 im m op k (some l)).bind le8 := by
  have h0 : L8 (some l) := fun x e => by cases e; exact hl.1
  have hdup : (some l : Option (List Nat)).bind (fun l => wth (l.headD 0) l) = ((some l : Option (List Nat)).bind dup9).bind le8 := by
    have hl8 := hl.1
    cases l with
    | nil => rfl
    | cons x l =>
      have hx := hl.2 x List.mem_cons_self
      rw [List.length_cons] at hl8
      show wth x (x :: l) = ((ps9 x l).bind (ps9 x)).bind le8
      have e : ps9 x l = some (x :: l) := by
        unfold ps9
        rw [if_pos ⟨by omega, by omega⟩]
      rw [e]
      exact wth_9 x (some (x :: l))
  have hdrop : (some l : Option (List Nat)).bind (fun l => wot (l.headD 0) l) = ((some l : Option (List Nat)).bind (fun l => match l with | [] => none | _ :: l => some l)).bind le8 := by
    have hl8 := hl.1
    cases l with
    | nil => rfl
    | cons x l =>
      have hx := hl.2 x List.mem_cons_self
      rw [List.length_cons] at hl8
      show wot x (x :: l) = le8 l
      unfold le8
      rw [wot_c, if_pos ⟨rfl, by omega⟩, if_pos (by omega)]
  have hcall : callT im k (some l) = (call9 im k (some l)).bind le8 := by
    unfold callT call9
    refine ite_bind8 (ite_bind8 (L8_e (L8_popA _ _ h0)) (wth_9 _ _)) rfl
  unfold Tr Tr9
  repeat' first | exact hdup | exact hdrop | exact hcall | exact wth_9 _ _ | exact L8_e h0 | exact L8_e (L8_wot h0) | exact L8_e (L8_wot (L8_wot h0)) | exact L8_e (L8_wot (L8_wot (L8_wot h0))) | refine ite_bind8 ?_ ?_
theorem Tr9_L8 {im : Im} {m op k : Nat} {l : List Nat} (hl : Gr l) (hop : 34 ≤ op) : L8 (Tr9 im m op k (some l)) := by
  have h0 : L8 (some l) := fun x e => by cases e; exact hl.1
  by_cases c4 : op = 34
  · subst c4
    simp (disch := omega) only [Tr9, if_pos, if_neg, or_self, or_false, Nat.reduceEqDiff, ite_true, ite_false, if_true, if_false, Bool.false_eq_true, and_self, and_true, true_and, and_false, false_and]
    by_cases c : im 4 m = 0
    · rw [if_pos c]; exact h0
    · rw [if_neg c]; exact L8_wot h0
  · by_cases c5 : op = 35
    · subst c5
      simp (disch := omega) only [Tr9, if_pos, if_neg, or_self, or_false, Nat.reduceEqDiff, ite_true, ite_false, if_true, if_false, Bool.false_eq_true, and_self, and_true, true_and, and_false, false_and]
      exact L8_wot h0
    · have e : Tr9 im m op k (some l) = some l := by
        unfold Tr9
        repeat rw [if_neg (by omega)]
      rw [e]
      exact h0
theorem Tr_k1 {im : Im} {m op k k' : Nat} {o : Option (List Nat)} (h : wdt op = 1) : Tr im m op k o = Tr im m op k' o := by
  have hn : ¬ ((1 ≤ op ∧ op ≤ 6) ∨ (13 ≤ op ∧ op ≤ 20) ∨ op = 33 ∨ op = 36) := by
    intro z
    unfold wdt at h
    rw [if_pos z] at h
    omega
  have h2 : ¬ op = 2 := by omega
  have h3 : ¬ op = 3 := by omega
  have h4 : ¬ op = 4 := by omega
  have h5 : ¬ op = 5 := by omega
  have h6 : ¬ op = 6 := by omega
  have h16 : ¬ op = 16 := by omega
  have h17 : ¬ op = 17 := by omega
  have h18 : ¬ op = 18 := by omega
  have h19 : ¬ op = 19 := by omega
  have h20 : ¬ op = 20 := by omega
  have h33 : ¬ op = 33 := by omega
  simp only [Tr, h2, h3, h4, h5, h6, h16, h17, h18, h19, h20, h33, if_false]
/-- an instruction of the reference -/
theorem m_ins {im : Im} {m p : Nat} {σ : SG} {R0 : RQ} {C : RQ → Prop} {l : List Nat} {op : Nat} (hw : WfI im) (hm : m < im 0 1) (hW : WM im m) (h : MS im m σ R0 C l) (hC : ∀ R Q, LeQ R Q → C R → C Q) (hop : op ≤ 37) (hp : p < 100) (hp2 : wdt op = 2 → p + 1 < 100) :
    ∃ σ1, F_Mo_flow_129 0 (Int32.ofNat p) (Int32.ofNat op) σ = F_Mo_flow_165 0 (Int32.ofNat p) (Int32.ofNat op) σ1 ∧ FM m σ σ1 ∧ MS im m σ1 R0 (fun Q => C Q ∧ (Tr9 im m op (im 15 (100 * m + p + 1)) (some l) ≠ none ∧ lies im m op p l)) ((Tr9 im m op (im 15 (100 * m + p + 1)) (some l)).getD []) := by
  have key : ∀ o, SM σ o → ∃ σ1, F_Mo_flow_129 0 (Int32.ofNat p) (Int32.ofNat op) σ = F_Mo_flow_165 0 (Int32.ofNat p) (Int32.ofNat op) σ1 ∧ QM σ σ1 ∧ (o = none → SM σ1 none) ∧ ∀ l, o = some l → InsR im m op (im 15 (100 * m + p + 1)) p l σ1 := by
    intro o hS
    by_cases c33 : 33 ≤ op
    · obtain ⟨s1, f1, q1, g1, g2⟩ := m_calls hw hm hW h.1 hS c33 hop hp hp2
      refine ⟨s1, ?_, q1, g1, g2⟩
      simp (disch := omega) only [F_Mo_flow_129, lit32, n_le, if_pos, f1, ite_true, ite_false, if_true, if_false, Bool.false_eq_true, and_self, and_true, true_and, and_false, false_and]
    · have hlie : ∀ l, lies im m op p l := fun l => ⟨(fun z => by omega), (fun z => by omega)⟩
      by_cases c17 : 17 ≤ op
      · obtain ⟨s1, f1, g1, q1⟩ := m_things hw hm h.1 hS c17 (by omega) hp2
        refine ⟨s1, ?_, q1, fun e => ?_, fun l e => ?_⟩
        · simp (disch := omega) only [F_Mo_flow_129, lit32, n_le, if_pos, if_neg, f1, ite_true, ite_false, if_true, if_false, Bool.false_eq_true, and_self, and_true, true_and, and_false, false_and]
        · rw [e, Tr9_none] at g1
          exact g1
        · rw [e] at g1
          exact InsR_of g1 (hlie l)
      · obtain ⟨s1, f1, g1, q1⟩ := m_simple hw hm h.1 hS (by omega) hp2
        refine ⟨s1, ?_, q1, fun e => ?_, fun l e => ?_⟩
        · simp (disch := omega) only [F_Mo_flow_129, lit32, n_le, if_neg, f1, ite_true, ite_false, if_true, if_false, Bool.false_eq_true, and_self, and_true, true_and, and_false, false_and]
        · rw [e, Tr9_none] at g1
          exact g1
        · rw [e] at g1
          exact InsR_of g1 (hlie l)
  obtain ⟨hB, hh⟩ := h
  rcases hh with ⟨h1, R1, h2, h3, h4, h5⟩ | ⟨h1, h2⟩
  · obtain ⟨σ1, g1, g2, g3, g4⟩ := key (some l) h1
    refine ⟨σ1, g1, QM_FM g2, BM_QM hB g2, ?_⟩
    rcases g4 l rfl with ⟨l', k1, k2, k3⟩ | ⟨k1, k2⟩
    · rw [k1]
      exact Or.inl ⟨k3, R1, RS_QM h2 g2, h3, ⟨h4, by simp, k2⟩, fun Q a b => h5 Q a b.1⟩
    · exact Or.inr ⟨k1, fun Q a b => k2 b.2⟩
  · obtain ⟨σ1, g1, g2, g3, g4⟩ := key none h1
    exact ⟨σ1, g1, QM_FM g2, BM_QM hB g2, Or.inr ⟨g3 rfl, fun Q a b => h2 Q a b.1⟩⟩
theorem MS_no {im : Im} {m : Nat} {σ : SG} {R0 : RQ} {C D : RQ → Prop} {l l' : List Nat} (h : MS im m σ R0 C l) (hz : zb (σ.1 0 27) = false) : MS im m σ R0 (fun Q => C Q ∧ D Q) l' := by
  obtain ⟨hB, hh⟩ := h
  rcases hh with ⟨h1, -⟩ | ⟨h1, h2⟩
  · have := h1.1
    rw [hz] at this
    cases this
  · exact ⟨hB, Or.inr ⟨h1, fun Q a b => h2 Q a b.1⟩⟩
/-- the handlers -/
theorem fl_49 {im : Im} {m p : Nat} {R0 : RQ} {op : Int32} (hw : WfI im) (hm : m < im 0 1) (hp : p < 100) : ∀ c i fuel σ (C : RQ → Prop) (l : List Nat), (∀ R Q, LeQ R Q → C R → C Q) → MS im m σ R0 C l → i + c = im 9 m → c < fuel →
    ∃ s, F_Mo_flow_49 fuel 0 (Int32.ofNat p) op (Int32.ofNat (3 * m + i)) σ = F_Mo_flow_129 0 (Int32.ofNat p) op s ∧ FM m σ s ∧ MS im m s R0 (fun Q => C Q ∧ ∀ r, i ≤ r → r < im 9 m → iP im m r p → Rch im m Q (im 11 (3 * m + r)) (some (hRow im m r))) l := by
  intro c
  induction c with
  | zero =>
    intro i fuel σ C l hC h hi hf
    obtain ⟨fuel, rfl⟩ : ∃ x, fuel = x + 1 := ⟨fuel - 1, by omega⟩
    obtain ⟨n1, n2, n3, n4⟩ := m_now hw hm h.1
    refine ⟨σ, ?_, FM_refl _ _, MS_iff h (fun Q => ⟨fun z => ⟨z, fun r a b => by omega⟩, fun z => z.1⟩)⟩
    simp (disch := omega) only [F_Mo_flow_49, n1, lit32, n_nl0, n_cl, false_or, if_neg, cm_13, n3, n_mul, n_add, n_le, if_pos, ite_true, ite_false, if_true, if_false, Bool.false_eq_true, and_self, and_true, true_and, and_false, false_and]
  | succ c ih =>
    intro i fuel σ C l hC h hi hf
    obtain ⟨fuel, rfl⟩ : ∃ x, fuel = x + 1 := ⟨fuel - 1, by omega⟩
    obtain ⟨n1, n2, n3, n4⟩ := m_now hw hm h.1
    obtain ⟨w1, w2, w3, w4, w5, w6, w7, w8, w9, w10, w11⟩ := wf_m hw hm
    obtain ⟨b1, b2, b3, b4⟩ := w8 i (by omega)
    cases hz : zb (σ.1 0 27) with
    | false =>
      refine ⟨σ, ?_, FM_refl _ _, MS_no h hz⟩
      simp (disch := omega) only [F_Mo_flow_49, n1, lit32, n_nl0, n_cl, false_or, if_neg, cm_13, n3, n_mul, n_add, n_le, hz, ite_true, ite_false, if_true, if_false, Bool.false_eq_true, and_self, and_true, true_and, and_false, false_and]
    | true =>
      obtain ⟨kb, hk, hkb⟩ := m_inPart (x := Int32.ofNat p) (z := p) hw hm h.1.1 (show i < im 9 m by omega) (n_int (by omega))
      have e11 := RepM_A h.1.1 11 (3 * m + i) (by omega) (by omega)
      have e13 := RepM_A h.1.1 13 (3 * m + i) (by omega) (by omega)
      cases kb with
      | false =>
        obtain ⟨s, g1, g2, g3⟩ := ih (i + 1) fuel σ C l hC h (by omega) (by omega)
        refine ⟨s, ?_, g2, MS_iff g3 (fun Q => ⟨fun w => ⟨w.1, fun r a b d => ?_⟩, fun w => ⟨w.1, fun r a b d => w.2 r (by omega) b d⟩⟩)⟩
        · rw [← g1]
          simp (disch := omega) only [F_Mo_flow_49, F_Mo_flow_123, n1, lit32, n_nl0, n_cl, false_or, if_neg, cm_13, n3, n_mul, n_add, n_le, hz, if_pos, hk, Nat.add_assoc, ite_true, ite_false, if_true, if_false, Bool.false_eq_true, and_self, and_true, true_and, and_false, false_and]
        · by_cases er : r = i
          · rw [er] at d
            have := hkb.mpr d
            cases this
          · exact w.2 r (by omega) b d
      | true =>
        have hki := hkb.mp rfl
        have hrl : (hRow im m i).length ≤ 8 := (hRow_GO im m i _ rfl).1
        obtain ⟨s1, f1, q1, g1⟩ := m_meet (x := Int32.ofNat (im 11 (3 * m + i))) (z := (im 11 (3 * m + i) : Int)) (lr := hRow im m i) hw hm h hC (n_int (by omega)) (by omega) (hRow_GO im m i _ rfl).2
        have g1' : MS im m s1 R0 (fun Q => C Q ∧ Rch im m Q (im 11 (3 * m + i)) (some (hRow im m i))) l := MS_iff g1 (fun Q => ⟨fun z => ⟨z.1, z.2.2⟩, fun z => ⟨z.1, hrl, z.2⟩⟩)
        obtain ⟨s, k1, k2, k3⟩ := ih (i + 1) fuel s1 _ l (fun R Q a b => ⟨hC R Q a b.1, Rch_mono b.2 a⟩) g1' (by omega) (by omega)
        refine ⟨s, ?_, FM_trans q1 k2, MS_iff k3 (fun Q => ⟨fun w => ⟨w.1.1, fun r a b d => ?_⟩, fun w => ⟨⟨w.1, w.2 i (by omega) (by omega) hki⟩, fun r a b d => w.2 r (by omega) b d⟩⟩)⟩
        · rw [← k1]
          by_cases cf : im 13 (3 * m + i) = 1
          · have zz : zb (Int32.ofNat (im 13 (3 * m + i))) = true := by rw [cf]; exact zb1
            have eh : hRow im m i = [] := by unfold hRow; rw [if_pos cf]
            have f1' : F_Mo_meet 0 (Int32.ofNat (im 11 (3 * m + i))) (Int32.ofNat 0) (Int64.ofNat 0) σ = some s1 := by
              rw [eh] at f1
              exact f1
            simp (disch := omega) only [F_Mo_flow_49, F_Mo_flow_106, F_Mo_flow_120, F_Mo_flow_123, n1, lit32, lit64n, n_nl0, n_cl, false_or, if_neg, cm_13, cm_15, cm_17, n3, n_mul, n_add, n_le, hz, if_pos, hk, e11, e13, zz, bzf, f1', Nat.add_assoc, ite_true, ite_false, if_true, if_false, Bool.false_eq_true, and_self, and_true, true_and, and_false, false_and]
          · have zz : zb (Int32.ofNat (im 13 (3 * m + i))) = false := by rw [show im 13 (3 * m + i) = 0 by omega]; exact zb0
            have eh : hRow im m i = [1] := by unfold hRow; rw [if_neg cf]
            have f1' : F_Mo_meet 0 (Int32.ofNat (im 11 (3 * m + i))) (Int32.ofNat 1) (Int64.ofNat 1) σ = some s1 := by
              rw [eh] at f1
              exact f1
            simp (disch := omega) only [F_Mo_flow_49, F_Mo_flow_106, F_Mo_flow_120, F_Mo_flow_123, n1, lit32, lit64n, n_nl0, n_cl, false_or, if_neg, cm_13, cm_15, cm_17, n3, n_mul, n_add, n_le, hz, if_pos, hk, e11, e13, zz, bzt, f1', Nat.add_assoc, ite_true, ite_false, if_true, if_false, Bool.false_eq_true, and_self, and_true, true_and, and_false, false_and]
        · by_cases er : r = i
          · rw [er]; exact w.1.2
          · exact w.2 r (by omega) b d
/-- where it goes on -/
def nx9 (im : Im) (m op k p : Nat) (l' : List Nat) (Q : RQ) : Prop :=
  (op = 36 → mayL im m p (p + 2 + sg k) ∧ Rch im m Q (p + 2 + sg k) (some [])) ∧
  (op = 13 ∨ op = 14 ∨ op = 15 → goOK im m p (p + 2 + sg k) (some l') ∧ (l'.length ≤ 8 ∧ Rch im m Q (p + 2 + sg k) (some l'))) ∧
  (op ≠ 13 → op < 34 → goOK im m p (p + wdt op : Nat) (some l') ∧ (l'.length ≤ 8 ∧ Rch im m Q (p + wdt op : Nat) (some l')))
theorem fl_165 {im : Im} {m p op : Nat} {σ : SG} {R0 : RQ} {C : RQ → Prop} {l : List Nat} (hw : WfI im) (hm : m < im 0 1) (hW : WM im m) (h : MS im m σ R0 C l) (hC : ∀ R Q, LeQ R Q → C R → C Q) (hop : op ≤ 37) (hp : p < 100) (hp2 : wdt op = 2 → p + 1 < 100) :
    ∃ σ1, F_Mo_flow_165 0 (Int32.ofNat p) (Int32.ofNat op) σ = some σ1 ∧ FM m σ σ1 ∧ MS im m σ1 R0 (fun Q => C Q ∧ nx9 im m op (im 15 (100 * m + p + 1)) p l Q) l := by
  have hm6 := (wf_m hw hm).1
  cases hz : zb (σ.1 0 27) with
  | false =>
    refine ⟨σ, ?_, FM_refl _ _, MS_no h hz⟩
    simp (disch := omega) only [F_Mo_flow_165, F_Mo_flow_190, hz, if_neg, ite_true, ite_false, if_true, if_false, Bool.false_eq_true, and_self, and_true, true_and, and_false, false_and]
  | true =>
    have hxp : (Int32.ofNat p).toInt = (p : Int) := n_int (by omega)
    by_cases c36 : op = 36
    · subst c36
      obtain ⟨x, hx1, hx2⟩ := m_target h.1 hm6 (hp2 (by decide))
      obtain ⟨s1, f1, q1, g1⟩ := m_leaves hw hm h hC hxp hx2
      refine ⟨s1, ?_, q1, MS_iff g1 (fun Q => ⟨fun w => ⟨w.1, fun _ => w.2, fun z => by omega, fun _ z => by omega⟩, fun w => ⟨w.1, w.2.1 rfl⟩⟩)⟩
      simp (disch := omega) only [F_Mo_flow_165, F_Mo_flow_191, hz, if_pos, lit32, n_lt, if_neg, hx1, f1, ite_true, ite_false, if_true, if_false, Bool.false_eq_true, and_self, and_true, true_and, and_false, false_and]
    · by_cases c34 : op < 34
      · by_cases c13 : op = 13
        · subst c13
          obtain ⟨x, hx1, hx2⟩ := m_target h.1 hm6 (hp2 (by decide))
          obtain ⟨s1, f1, q1, g1⟩ := m_goes hw hm hW h hC hxp hx2
          refine ⟨s1, ?_, q1, MS_iff g1 (fun Q => ⟨fun w => ⟨w.1, fun z => by omega, fun _ => w.2, fun z => absurd rfl z⟩, fun w => ⟨w.1, w.2.2.1 (Or.inl rfl)⟩⟩)⟩
          simp (disch := omega) only [F_Mo_flow_165, F_Mo_flow_191, F_Mo_flow_225, F_Mo_flow_247, hz, if_pos, lit32, n_lt, n_eq, if_neg, hx1, f1, ite_true, ite_false, if_true, if_false, Bool.false_eq_true, and_self, and_true, true_and, and_false, false_and]
        · have hw2 := wdt_2 op
          have hby := m_bytes (op := op) (by omega) σ
          obtain ⟨s1, f1, q1, g1⟩ := m_goes (x2 := Int32.ofNat (p + wdt op)) (z2 := (p + wdt op : Nat)) hw hm hW h hC hxp (n_int (by omega))
          by_cases cj : op = 14 ∨ op = 15
          · obtain ⟨x, hx1, hx2⟩ := m_target g1.1 hm6 (hp2 (by rcases cj with e | e <;> subst e <;> decide))
            obtain ⟨s2, f2, q2, g2⟩ := m_goes hw hm hW g1 (fun R Q a b => ⟨hC R Q a b.1, b.2.1, b.2.2.1, Rch_mono b.2.2.2 a⟩) hxp hx2
            refine ⟨s2, ?_, FM_trans q1 q2, MS_iff g2 (fun Q => ⟨fun w => ⟨w.1.1, fun z => by omega, fun _ => w.2, fun _ _ => w.1.2⟩, fun w => ⟨⟨w.1, w.2.2.2 c13 c34⟩, w.2.2.1 (by omega)⟩⟩)⟩
            simp (disch := omega) only [F_Mo_flow_165, F_Mo_flow_191, F_Mo_flow_225, F_Mo_flow_247, hz, if_pos, lit32, n_lt, n_eq, if_neg, hby, n_add, f1, hx1, f2, ite_true, ite_false, if_true, if_false, Bool.false_eq_true, and_self, and_true, true_and, and_false, false_and]
          · refine ⟨s1, ?_, q1, MS_iff g1 (fun Q => ⟨fun w => ⟨w.1, fun z => by omega, fun z => by omega, fun _ _ => w.2⟩, fun w => ⟨w.1, w.2.2.2 c13 c34⟩⟩)⟩
            by_cases c12 : op < 13
            · simp (disch := omega) only [F_Mo_flow_165, F_Mo_flow_191, F_Mo_flow_225, F_Mo_flow_247, hz, if_pos, lit32, n_lt, n_eq, if_neg, hby, n_add, f1, ite_true, ite_false, if_true, if_false, Bool.false_eq_true, and_self, and_true, true_and, and_false, false_and]
            · simp (disch := omega) only [F_Mo_flow_165, F_Mo_flow_191, F_Mo_flow_225, F_Mo_flow_247, hz, if_pos, lit32, n_lt, n_eq, if_neg, hby, n_add, f1, ite_true, ite_false, if_true, if_false, Bool.false_eq_true, and_self, and_true, true_and, and_false, false_and]
      · refine ⟨σ, ?_, FM_refl _ _, MS_iff h (fun Q => ⟨fun w => ⟨w, fun z => absurd z c36, fun z => by omega, fun _ z => absurd z c34⟩, fun w => w.1⟩)⟩
        simp (disch := omega) only [F_Mo_flow_165, F_Mo_flow_190, hz, if_pos, lit32, n_lt, n_eq, if_neg, ite_true, ite_false, if_true, if_false, Bool.false_eq_true, and_self, and_true, true_and, and_false, false_and]
theorem m_flow {im : Im} {m p : Nat} {σ : SG} {R : RQ} {l : List Nat} (hw : WfI im) (hm : m < im 0 1) (hsp : SpOK im m) (hW : WM im m) (hB : BM im m σ) (hR : RS im m σ R) (hS : zb (σ.1 0 27) = true) (hbeg : Beg im m p) (hl : R p = some l) :
    ∃ σ1, F_Mo_flow 0 (Int32.ofNat p) σ = some σ1 ∧ FM m σ σ1 ∧ BM im m σ1 ∧ ((zb (σ1.1 0 27) = true ∧ ∃ R1, RS im m σ1 R1 ∧ LeQ R R1 ∧ OKat im m R1 p l ∧ ∀ Q, LeQ R Q → OKat im m Q p l → LeQ R1 Q) ∨ (zb (σ1.1 0 27) = false ∧ ∀ Q, LeQ R Q → ¬ OKat im m Q p l)) := by
  obtain ⟨w1, w2, w3, w4, w5, w6, w7, w8, w9, w10, w11⟩ := wf_m hw hm
  obtain ⟨n1, n2, n3, n4⟩ := m_now hw hm hB
  have hpl := hbeg.1
  have hg : Gr l := hR.2.1 p l hl
  have hg8 := hg.1
  -- the instruction is whole
  obtain ⟨hop, hwid⟩ : im 15 (100 * m + p) ≤ 37 ∧ p + wdt (im 15 (100 * m + p)) ≤ im 14 m := by
    obtain ⟨K, hK, hKo⟩ := hsp
    obtain ⟨-, k, hk⟩ := hbeg
    have hkK : k < K := by
      refine Nat.lt_of_not_le (fun z => ?_)
      rcases Nat.lt_or_ge K k with y | y
      · have := pos_mono im m y; omega
      · have : k = K := by omega
        rw [this] at hk
        omega
    have h1 := hKo k hkK
    rw [hk] at h1
    refine ⟨h1, ?_⟩
    have h2 : pos im m (k + 1) = pos im m k + wdt (im 15 (100 * m + pos im m k)) := rfl
    rw [hk] at h2
    have h3 : pos im m (k + 1) ≤ pos im m K := by
      rcases Nat.lt_or_ge (k + 1) K with y | y
      · exact Nat.le_of_lt (pos_mono im m y)
      · have : k + 1 = K := by omega
        rw [this]
        exact Nat.le_refl _
    omega
  obtain ⟨hh, hty⟩ := hR.1 p hpl
  rw [hl] at hh
  have hh' : σ.2.2.2.1 17 (100 * m + p) = Int32.ofNat l.length := hh
  have hty' := hty l hl
  have hopF := m_op hB n2 (show p < 100 by omega)
  have hQ0 : QM σ (setJ (setI σ 0 25 (Int32.ofNat l.length)) 0 26 (Int64.ofNat (enc l))) := QM_trans (QM_I (by omega)) QM_J
  have hMS0 : MS im m (setJ (setI σ 0 25 (Int32.ofNat l.length)) 0 26 (Int64.ofNat (enc l))) R (fun _ => True) l := by
    refine ⟨BM_QM hB hQ0, Or.inl ⟨⟨?_, ?_, ?_, by omega, hg.2⟩, R, RS_QM hR hQ0, LeQ_refl _, trivial, fun Q a _ => a⟩⟩
    · rw [rJ1, rI, if_neg (by omega)]; exact hS
    · rw [rJ1, rI, if_pos ⟨rfl, rfl⟩]
    · rw [rJ, if_pos ⟨rfl, rfl⟩]
  obtain ⟨s1, f1, q1, g1⟩ := fl_49 (op := Int32.ofNat (im 15 (100 * m + p))) hw hm (show p < 100 by omega) (im 9 m) 0 5000 _ _ l (fun _ _ _ _ => trivial) hMS0 (by omega) (by omega)
  have hC1 : ∀ R Q : RQ, LeQ R Q → (True ∧ ∀ r, 0 ≤ r → r < im 9 m → iP im m r p → Rch im m R (im 11 (3 * m + r)) (some (hRow im m r))) → (True ∧ ∀ r, 0 ≤ r → r < im 9 m → iP im m r p → Rch im m Q (im 11 (3 * m + r)) (some (hRow im m r))) := fun R Q a b => ⟨trivial, fun r x y z => Rch_mono (b.2 r x y z) a⟩
  have hp2 : wdt (im 15 (100 * m + p)) = 2 → p + 1 < 100 := fun e => by omega
  obtain ⟨s2, f2, q2, g2⟩ := m_ins hw hm hW g1 hC1 hop (show p < 100 by omega) hp2
  obtain ⟨s3, f3, q3, g3⟩ := fl_165 hw hm hW g2 (fun R Q a b => ⟨hC1 R Q a b.1, b.2⟩) hop (show p < 100 by omega) hp2
  have hF : F_Mo_flow 0 (Int32.ofNat p) σ = some s3 := by
    rw [← f3, ← f2, ← f1]
    simp (disch := omega) only [F_Mo_flow, hopF, n1, lit32, n_mul, n_add, n_nl0, n_cl, false_or, if_neg, cm_21, cm_22, hh', hty', stl_e, rI, rI2, rJ1, Nat.add_zero, ite_true, ite_false, if_true, if_false, Bool.false_eq_true, and_self, and_true, true_and, and_false, false_and]
  refine ⟨s3, hF, FM_trans (QM_FM hQ0) (FM_trans q1 (FM_trans q2 q3)), g3.1, ?_⟩
  -- the conditions are those of the specification
  have hcd : cdA im m p = im 15 (100 * m + p) := by unfold cdA; rw [if_pos hpl]
  have hT := Tr_89 (im := im) (m := m) (op := im 15 (100 * m + p)) (k := im 15 (100 * m + p + 1)) hg
  have hsg : wdt (im 15 (100 * m + p)) = 2 → cdA im m (p + 1) = im 15 (100 * m + p + 1) := by
    intro e
    unfold cdA
    rw [if_pos (by omega), Nat.add_assoc]
  have hk2 : Tr im m (im 15 (100 * m + p)) (cdA im m (p + 1)) (some l) = Tr im m (im 15 (100 * m + p)) (im 15 (100 * m + p + 1)) (some l) := by
    rcases wdt_2 (im 15 (100 * m + p)) with e | e
    · exact Tr_k1 e
    · rw [hsg e]
  have hiff : ∀ Q, (((True ∧ ∀ r, 0 ≤ r → r < im 9 m → iP im m r p → Rch im m Q (im 11 (3 * m + r)) (some (hRow im m r))) ∧ (Tr9 im m (im 15 (100 * m + p)) (im 15 (100 * m + p + 1)) (some l) ≠ none ∧ lies im m (im 15 (100 * m + p)) p l)) ∧ nx9 im m (im 15 (100 * m + p)) (im 15 (100 * m + p + 1)) p ((Tr9 im m (im 15 (100 * m + p)) (im 15 (100 * m + p + 1)) (some l)).getD []) Q) ↔ OKat im m Q p l := by
    intro Q
    unfold OKat
    rw [hcd, hk2]
    generalize im 15 (100 * m + p) = op at *
    generalize im 15 (100 * m + p + 1) = k at *
    constructor
    · rintro ⟨⟨⟨-, d1⟩, t9, li⟩, n36, nj, nb⟩
      obtain ⟨l', hl'⟩ : ∃ l', Tr9 im m op k (some l) = some l' := by
        cases hx : Tr9 im m op k (some l) with
        | none => exact absurd hx t9
        | some l' => exact ⟨l', rfl⟩
      rw [hl'] at nj nb
      simp only [Option.getD_some] at nj nb
      have h8 : l'.length ≤ 8 := by
        by_cases c : op = 13
        · exact (nj (Or.inl c)).2.1
        · by_cases c2 : op < 34
          · exact (nb c c2).2.1
          · exact Tr9_L8 hg (by omega) l' hl'
      have hTr : Tr im m op k (some l) = some l' := by
        rw [hT, hl']
        show le8 l' = _
        unfold le8
        rw [if_pos h8]
      rw [hTr]
      refine ⟨by simp, li, fun r a b => d1 r (by omega) a b, fun e => ?_, fun e => ?_, fun a b => ⟨(nb a b).1, (nb a b).2.2⟩⟩
      · rw [hsg (by rw [e]; decide)]
        exact n36 e
      · rw [hsg (by rcases e with e | e | e <;> rw [e] <;> decide)]
        exact ⟨(nj e).1, (nj e).2.2⟩
    · rintro ⟨t, li, d1, o36, oj, ob⟩
      obtain ⟨l', hl', h8⟩ : ∃ l', Tr9 im m op k (some l) = some l' ∧ l'.length ≤ 8 := by
        cases hx : Tr9 im m op k (some l) with
        | none =>
          rw [hT, hx] at t
          exact absurd rfl t
        | some l' =>
          refine ⟨l', rfl, ?_⟩
          refine Nat.le_of_not_lt (fun c => ?_)
          rw [hT, hx] at t
          refine t ?_
          show le8 l' = none
          unfold le8
          rw [if_neg (by omega)]
      have hTr : Tr im m op k (some l) = some l' := by
        rw [hT, hl']
        show le8 l' = _
        unfold le8
        rw [if_pos h8]
      rw [hTr] at oj ob
      rw [hl']
      refine ⟨⟨⟨trivial, fun r _ a b => d1 r a b⟩, by simp, li⟩, fun e => ?_, fun e => ?_, fun a b => ⟨(ob a b).1, h8, (ob a b).2⟩⟩
      · rw [← hsg (by rw [e]; decide)]
        exact o36 e
      · rw [← hsg (by rcases e with e | e | e <;> rw [e] <;> decide)]
        exact ⟨(oj e).1, h8, (oj e).2⟩
  have g4 := MS_iff g3 hiff
  rcases g4.2 with ⟨k1, R1, k2, k3, k4, k5⟩ | ⟨k1, k2⟩
  · exact Or.inl ⟨k1.1, R1, k2, k3, k4, k5⟩
  · exact Or.inr ⟨k1, k2⟩
