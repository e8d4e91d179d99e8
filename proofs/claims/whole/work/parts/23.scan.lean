/-! The reference's scan is the parser. -/
def RepM (σ : SG) (im : Im) : Prop := (∀ a k, im a k < 256) ∧ σ.1 0 4 = Int32.ofNat (im 0 0) ∧ σ.1 0 7 = Int32.ofNat (im 0 1) ∧ ∀ a k, 2 ≤ a → a ≤ 15 → σ.2.2.2.1 a k = Int32.ofNat (im a k)
def Drf (d : Nat → Nat) (n : Nat) (σ : SG) : Prop := σ.1 0 0 = Int32.ofNat n ∧ n ≤ 400 ∧ ∀ k, k < n → σ.2.2.2.1 1 k = Int32.ofNat (d k) ∧ d k < 256
def StM (d : Nat → Nat) (n : Nat) (K : Bool) (im0 : Im) (σ : SG) (o : Option PZ) : Prop := Drf d n σ ∧ (K = false → RepM σ im0) ∧ match o with
  | none => zb (σ.1 0 3) = true
  | some s => zb (σ.1 0 3) = false ∧ σ.1 0 2 = Int32.ofNat s.2 ∧ s.2 ≤ n ∧ (K = true → RepM σ s.1)
def MdM (d : Nat → Nat) (n : Nat) (K : Bool) (im0 : Im) (σ : SG) (o : Option (Nat × PZ)) (v : Nat) : Prop := Drf d n σ ∧ (K = false → RepM σ im0) ∧ match o with
  | none => zb (σ.1 0 3) = true
  | some q => zb (σ.1 0 3) = false ∧ σ.1 0 2 = Int32.ofNat q.2.2 ∧ q.2.2 ≤ n ∧ (K = true → RepM σ q.2.1) ∧ v = q.1
def QtM (σ σ1 : SG) : Prop := σ1.2 = σ.2 ∧ ∀ a f, ¬ (a = 0 ∧ (f = 2 ∨ f = 3)) → σ1.1 a f = σ.1 a f
def FaM (σ σ1 : SG) : Prop := σ1.2.1 = σ.2.1 ∧ σ1.2.2.1 = σ.2.2.1 ∧ σ1.2.2.2.2 = σ.2.2.2.2 ∧ (∀ a f, ¬ (a = 0 ∧ (f = 2 ∨ f = 3 ∨ f = 4 ∨ f = 7)) → σ1.1 a f = σ.1 a f) ∧ ∀ a f, (a < 2 ∨ 15 < a) → σ1.2.2.2.1 a f = σ.2.2.2.1 a f
theorem FaM_refl (σ : SG) : FaM σ σ := ⟨rfl, rfl, rfl, fun _ _ _ => rfl, fun _ _ _ => rfl⟩
theorem FaM_trans {a b c : SG} (h : FaM a b) (g : FaM b c) : FaM a c :=
  ⟨g.1.trans h.1, g.2.1.trans h.2.1, g.2.2.1.trans h.2.2.1, fun x f p => (g.2.2.2.1 x f p).trans (h.2.2.2.1 x f p), fun x f q => (g.2.2.2.2 x f q).trans (h.2.2.2.2 x f q)⟩
theorem QtM_FaM {a b : SG} (h : QtM a b) : FaM a b := by
  obtain ⟨h1, h2⟩ := h
  refine ⟨?_, ?_, ?_, fun x f p => h2 x f (by omega), fun x f _ => ?_⟩ <;> rw [h1]
theorem QtM_trans {a b c : SG} (h : QtM a b) (g : QtM b c) : QtM a c := ⟨g.1.trans h.1, fun x f p => (g.2 x f p).trans (h.2 x f p)⟩
theorem QtM_refl (a : SG) : QtM a a := ⟨rfl, fun _ _ _ => rfl⟩
theorem QtM_set {σ : SG} {f : Nat} {v : Int32} (hf : f = 2 ∨ f = 3) : QtM σ (setI σ 0 f v) := by
  refine ⟨rfl, fun a g h => ?_⟩
  rw [rI, if_neg (by omega)]
theorem FaM_setA {σ : SG} {a f : Nat} {v : Int32} (h1 : 2 ≤ a) (h2 : a ≤ 15) : FaM σ (setA σ a f v) := by
  refine ⟨rfl, rfl, rfl, fun _ _ _ => rfl, fun x g q => ?_⟩
  rw [rA, if_neg (by omega)]
theorem FaM_setI {σ : SG} {f : Nat} {v : Int32} (h : f = 4 ∨ f = 7) : FaM σ (setI σ 0 f v) := by
  refine ⟨rfl, rfl, rfl, fun a g q => ?_, fun _ _ _ => rfl⟩
  rw [rI, if_neg (by omega)]
theorem RepM_q {σ σ1 : SG} {im : Im} (h : RepM σ im) (hq : QtM σ σ1) : RepM σ1 im := by
  obtain ⟨h0, h1, h2, h3⟩ := h
  refine ⟨h0, ?_, ?_, fun a k x y => ?_⟩
  · rw [hq.2 _ _ (by omega)]; exact h1
  · rw [hq.2 _ _ (by omega)]; exact h2
  · rw [hq.1]; exact h3 a k x y
theorem Drf_q {d : Nat → Nat} {n : Nat} {σ σ1 : SG} (h : Drf d n σ) (hq : QtM σ σ1) : Drf d n σ1 := by
  obtain ⟨h0, h1, h2⟩ := h
  refine ⟨?_, h1, fun k hk => ?_⟩
  · rw [hq.2 _ _ (by omega)]; exact h0
  · rw [hq.1]; exact h2 k hk
theorem RepM_uA {σ : SG} {im : Im} {a k v : Nat} (h : RepM σ im) (h1 : 2 ≤ a) (hv : v < 256) : RepM (setA σ a k (Int32.ofNat v)) (u2 im a k v) := by
  obtain ⟨h0, h1, h2, h3⟩ := h
  refine ⟨fun x y => ?_, ?_, ?_, fun x y p q => ?_⟩
  · simp only [u2]; split <;> first | exact hv | exact h0 x y
  · simp (disch := omega) only [rA1, u2, if_neg, ite_true, ite_false, if_true, if_false, Bool.false_eq_true, and_self, and_true, true_and, and_false, false_and]; exact h1
  · simp (disch := omega) only [rA1, u2, if_neg, ite_true, ite_false, if_true, if_false, Bool.false_eq_true, and_self, and_true, true_and, and_false, false_and]; exact h2
  · have e := h3 x y p q
    simp only [rA, u2, and_true, true_and]; (repeat' split) <;> first | rfl | exact e | (exfalso; omega)
theorem RepM_u4 {σ : SG} {im : Im} {v : Nat} (h : RepM σ im) (hv : v < 256) : RepM (setI σ 0 4 (Int32.ofNat v)) (u2 im 0 0 v) := by
  obtain ⟨h0, h1, h2, h3⟩ := h
  refine ⟨fun x y => ?_, ?_, ?_, fun x y p q => ?_⟩
  · simp only [u2]; split <;> first | exact hv | exact h0 x y
  · simp (disch := omega) only [rI, u2, if_pos, ite_true, ite_false, if_true, if_false, Bool.false_eq_true, and_self, and_true, true_and, and_false, false_and]
  · simp (disch := omega) only [rI, u2, if_neg, ite_true, ite_false, if_true, if_false, Bool.false_eq_true, and_self, and_true, true_and, and_false, false_and]; exact h2
  · simp (disch := omega) only [rI2, u2, if_neg, ite_true, ite_false, if_true, if_false, Bool.false_eq_true, and_self, and_true, true_and, and_false, false_and]; exact h3 x y p q
theorem RepM_u7 {σ : SG} {im : Im} {v : Nat} (h : RepM σ im) (hv : v < 256) : RepM (setI σ 0 7 (Int32.ofNat v)) (u2 im 0 1 v) := by
  obtain ⟨h0, h1, h2, h3⟩ := h
  refine ⟨fun x y => ?_, ?_, ?_, fun x y p q => ?_⟩
  · simp only [u2]; split <;> first | exact hv | exact h0 x y
  · simp (disch := omega) only [rI, u2, if_neg, ite_true, ite_false, if_true, if_false, Bool.false_eq_true, and_self, and_true, true_and, and_false, false_and]; exact h1
  · simp (disch := omega) only [rI, u2, if_pos, ite_true, ite_false, if_true, if_false, Bool.false_eq_true, and_self, and_true, true_and, and_false, false_and]
  · simp (disch := omega) only [rI2, u2, if_neg, ite_true, ite_false, if_true, if_false, Bool.false_eq_true, and_self, and_true, true_and, and_false, false_and]; exact h3 x y p q
theorem RepM_ud {σ : SG} {im : Im} {v : Nat} (h : RepM σ im) (hv : v < 256) : RepM σ (u2 im 1 0 v) := by
  obtain ⟨h0, h1, h2, h3⟩ := h
  refine ⟨fun x y => ?_, ?_, ?_, fun x y p q => ?_⟩
  · simp only [u2]; split <;> first | exact hv | exact h0 x y
  · simp (disch := omega) only [u2, if_neg, ite_true, ite_false, if_true, if_false, Bool.false_eq_true, and_self, and_true, true_and, and_false, false_and]; exact h1
  · simp (disch := omega) only [u2, if_neg, ite_true, ite_false, if_true, if_false, Bool.false_eq_true, and_self, and_true, true_and, and_false, false_and]; exact h2
  · simp (disch := omega) only [u2, if_neg, ite_true, ite_false, if_true, if_false, Bool.false_eq_true, and_self, and_true, true_and, and_false, false_and]; exact h3 x y p q
theorem RepM_same {σ : SG} {im : Im} {f : Nat} (h : RepM σ im) : RepM (setI σ 0 f (σ.1 0 f)) im := by
  obtain ⟨h0, h1, h2, h3⟩ := h
  refine ⟨h0, ?_, ?_, h3⟩
  · rw [rI]; split
    · rename_i c; rw [← c.2]; exact h1
    · exact h1
  · rw [rI]; split
    · rename_i c; rw [← c.2]; exact h2
    · exact h2
/-- the mark of what is bad -/
theorem MdM_t {d : Nat → Nat} {n : Nat} {K : Bool} {im0 : Im} {σ : SG} {v : Nat} (h : Drf d n σ) (h2 : K = false → RepM σ im0) : MdM d n K im0 (setI σ 0 3 (bz true)) none v := by
  have hq : QtM σ (setI σ 0 3 (bz true)) := QtM_set (Or.inr rfl)
  refine ⟨Drf_q h hq, fun k => RepM_q (h2 k) hq, ?_⟩
  show zb ((setI σ 0 3 (bz true)).1 0 3) = true
  rw [rI, if_pos (by omega), zbz]
theorem MdM_f {d : Nat → Nat} {n : Nat} {K : Bool} {im0 : Im} {σ : SG} {v : Nat} {q : Nat × PZ} (h : MdM d n K im0 σ (some q) v) : MdM d n K im0 (setI σ 0 3 (bz false)) (some q) v := by
  have hq : QtM σ (setI σ 0 3 (bz false)) := QtM_set (Or.inr rfl)
  obtain ⟨h1, h2, h3, h4, h5, h6, h7⟩ := h
  refine ⟨Drf_q h1 hq, fun k => RepM_q (h2 k) hq, ?_, ?_, h5, fun k => RepM_q (h6 k) hq, h7⟩
  · rw [rI, if_pos (by omega), zbz]
  · rw [rI, if_neg (by omega)]; exact h4
theorem m_next {d : Nat → Nat} {n : Nat} {K : Bool} {im0 : Im} {σ : SG} {o : Option PZ} (hS : StM d n K im0 σ o) :
    ∃ v σ1, F_Mo_next 0 σ = some (Int32.ofNat v, σ1) ∧ v < 256 ∧ QtM σ σ1 ∧ MdM d n K im0 σ1 (o.bind (nxs d n (rng 0 255))) v := by
  obtain ⟨hD, hK, hS⟩ := hS
  have c1 : cref SHm 0 1 = 1 := by decide
  obtain ⟨hn0, hn, hd⟩ := id hD
  cases o with
  | none =>
    have hb : zb (σ.1 0 3) = true := hS
    refine ⟨0, setI (setI σ 0 3 (bz true)) 0 2 (σ.1 0 2 + Int32.ofNat 1), ?_, by omega, QtM_trans (QtM_set (Or.inr rfl)) (QtM_set (Or.inl rfl)), ?_⟩
    · simp (disch := omega) only [F_Mo_next, F_Mo_next_19, F_Mo_next_24, F_Mo_next_59, hb, if_pos, stl_e, rI, if_neg, zbz, lit32, ite_true, ite_false, if_true, if_false, Bool.false_eq_true, and_self, and_true, true_and, and_false, false_and]
    · have hq : QtM σ (setI (setI σ 0 3 (bz true)) 0 2 (σ.1 0 2 + Int32.ofNat 1)) := QtM_trans (QtM_set (Or.inr rfl)) (QtM_set (Or.inl rfl))
      refine ⟨Drf_q hD hq, fun k => RepM_q (hK k) hq, ?_⟩
      show zb ((setI (setI σ 0 3 (bz true)) 0 2 (σ.1 0 2 + Int32.ofNat 1)).1 0 3) = true
      rw [rI, if_neg (by omega), rI, if_pos (by omega), zbz]
  | some s =>
    obtain ⟨hb, h2, h3, h4⟩ := hS
    by_cases c : s.2 < n
    · obtain ⟨hd1, hd2⟩ := hd s.2 c
      have hq : QtM σ (setI (setI σ 0 3 (bz false)) 0 2 (Int32.ofNat (s.2 + 1))) := QtM_trans (QtM_set (Or.inr rfl)) (QtM_set (Or.inl rfl))
      refine ⟨d s.2, setI (setI σ 0 3 (bz false)) 0 2 (Int32.ofNat (s.2 + 1)), ?_, hd2, hq, ?_⟩
      · simp (disch := omega) only [F_Mo_next, F_Mo_next_19, F_Mo_next_24, F_Mo_next_59, hb, stl_e, rI, rI2, if_pos, if_neg, zbz, lit32, h2, hn0, n_lt, Bool.false_eq_true, n_add, n_sub, n_nl0, false_or, n_cl, c1, Nat.add_sub_cancel, hd1, ite_true, ite_false, if_true, if_false, Bool.false_eq_true, and_self, and_true, true_and, and_false, false_and]
      · have e : (some s : Option PZ).bind (nxs d n (rng 0 255)) = some (d s.2, (s.1, s.2 + 1)) := by
          show nxs d n (rng 0 255) s = _
          unfold nxs
          rw [if_pos ⟨c, decide_eq_true (by omega)⟩]
        rw [e]
        refine ⟨Drf_q hD hq, fun k => RepM_q (hK k) hq, ?_, ?_, ?_, fun k => RepM_q (h4 k) hq, rfl⟩
        · rw [rI, if_neg (by omega), rI, if_pos (by omega), zbz]
        · rw [rI, if_pos (by omega)]
        · show s.2 + 1 ≤ n
          omega
    · have hq : QtM σ (setI (setI σ 0 3 (bz true)) 0 2 (Int32.ofNat (s.2 + 1))) := QtM_trans (QtM_set (Or.inr rfl)) (QtM_set (Or.inl rfl))
      refine ⟨0, setI (setI σ 0 3 (bz true)) 0 2 (Int32.ofNat (s.2 + 1)), ?_, by omega, hq, ?_⟩
      · simp (disch := omega) only [F_Mo_next, F_Mo_next_19, F_Mo_next_24, F_Mo_next_59, hb, stl_e, rI, rI2, if_pos, if_neg, zbz, lit32, h2, hn0, n_lt, Bool.false_eq_true, n_add, ite_true, ite_false, if_true, if_false, Bool.false_eq_true, and_self, and_true, true_and, and_false, false_and]
      · have e : (some s : Option PZ).bind (nxs d n (rng 0 255)) = none := by
          show nxs d n (rng 0 255) s = _
          unfold nxs
          rw [if_neg (fun z => c z.1)]
        rw [e]
        refine ⟨Drf_q hD hq, fun k => RepM_q (hK k) hq, ?_⟩
        show zb ((setI (setI σ 0 3 (bz true)) 0 2 (Int32.ofNat (s.2 + 1))).1 0 3) = true
        rw [rI, if_neg (by omega), rI, if_pos (by omega), zbz]
theorem m_next_end {d : Nat → Nat} {n : Nat} {K : Bool} {im0 : Im} {σ : SG} {s : PZ} (hS : StM d n K im0 σ (some s)) (c : ¬ s.2 < n) : ∃ σ1, F_Mo_next 0 σ = some (Int32.ofNat 0, σ1) := by
  obtain ⟨hD, hK, hb, h2, h3, h4⟩ := hS
  obtain ⟨hn0, hn, hd⟩ := hD
  refine ⟨setI (setI σ 0 3 (bz true)) 0 2 (Int32.ofNat (s.2 + 1)), ?_⟩
  simp (disch := omega) only [F_Mo_next, F_Mo_next_19, F_Mo_next_24, F_Mo_next_59, hb, stl_e, rI, rI2, if_pos, if_neg, zbz, lit32, h2, hn0, n_lt, Bool.false_eq_true, n_add, ite_true, ite_false, if_true, if_false, Bool.false_eq_true, and_self, and_true, true_and, and_false, false_and]
/-- a narrower test -/
theorem MdM_sub {d : Nat → Nat} {n v : Nat} {K : Bool} {im0 : Im} {σ : SG} {o : Option PZ} {P Q : Nat → Bool} (h : MdM d n K im0 σ (o.bind (nxs d n P)) v) (hq : ∀ t, t < 256 → P t = true) (hb : zb (σ.1 0 3) = false) :
    (Q v = true → ∃ q, o.bind (nxs d n Q) = some q ∧ MdM d n K im0 σ (some q) v) ∧ (¬ Q v = true → o.bind (nxs d n Q) = none) := by
  cases o with
  | none =>
    have h' : zb (σ.1 0 3) = true := h.2.2
    rw [hb] at h'
    cases h'
  | some s =>
    have h' : MdM d n K im0 σ (nxs d n P s) v := h
    by_cases c : s.2 < n
    · have hp : P (d s.2) = true := hq _ (h.1.2.2 _ c).2
      have e1 : nxs d n P s = some (d s.2, (s.1, s.2 + 1)) := by unfold nxs; rw [if_pos ⟨c, hp⟩]
      rw [e1] at h'
      have e : v = d s.2 := h'.2.2.2.2.2.2
      constructor
      · intro hv
        refine ⟨(d s.2, (s.1, s.2 + 1)), ?_, h'⟩
        show nxs d n Q s = _
        unfold nxs
        rw [if_pos ⟨c, by rw [← e]; exact hv⟩]
      · intro hv
        show nxs d n Q s = _
        unfold nxs
        rw [if_neg (fun z => hv (by rw [e]; exact z.2))]
    · have e1 : nxs d n P s = none := by unfold nxs; rw [if_neg (fun z => c z.1)]
      rw [e1] at h'
      have h'' : zb (σ.1 0 3) = true := h'.2.2
      rw [hb] at h''
      cases h''
theorem MdM_none {d : Nat → Nat} {n v : Nat} {K : Bool} {im0 : Im} {σ : SG} {o : Option PZ} {P Q : Nat → Bool} (h : MdM d n K im0 σ (o.bind (nxs d n P)) v) (hq : ∀ t, t < 256 → Q t = true → P t = true) (hb : zb (σ.1 0 3) = true) : o.bind (nxs d n Q) = none := by
  cases o with
  | none => rfl
  | some s =>
    have h' : MdM d n K im0 σ (nxs d n P s) v := h
    show nxs d n Q s = none
    unfold nxs
    refine if_neg (fun z => ?_)
    rw [nxs, if_pos ⟨z.1, hq _ (h.1.2.2 _ z.1).2 z.2⟩] at h'
    have h'' : zb (σ.1 0 3) = false := h'.2.2.1
    rw [hb] at h''
    cases h''
theorem r255 : ∀ t, t < 256 → rng 0 255 t = true := fun t h => decide_eq_true (by omega)
theorem m_btw {d : Nat → Nat} {n lo hi : Nat} {K : Bool} {im0 : Im} {σ : SG} {o : Option PZ} (hS : StM d n K im0 σ o) (hlo : lo ≤ hi) (hhi : hi ≤ 255) :
    ∃ v σ1, F_Mo_between 0 (Int32.ofNat lo) (Int32.ofNat hi) σ = some (Int32.ofNat v, σ1) ∧ lo ≤ v ∧ v ≤ hi ∧ QtM σ σ1 ∧ MdM d n K im0 σ1 (o.bind (nxs d n (rng lo hi))) v := by
  obtain ⟨v, σ1, hF, hv, hQ, hM⟩ := m_next hS
  have hQt := QtM_trans hQ (QtM_set (σ := σ1) (f := 3) (v := bz true) (Or.inr rfl))
  have hQf := QtM_trans hQ (QtM_set (σ := σ1) (f := 3) (v := bz false) (Or.inr rfl))
  by_cases hb : zb (σ1.1 0 3) = true
  · refine ⟨lo, setI σ1 0 3 (bz true), ?_, by omega, by omega, hQt, ?_⟩
    · simp (disch := omega) only [F_Mo_between, F_Mo_between_23, F_Mo_between_28, F_Mo_between_43, hF, hb, if_pos, stl_e, rI, zbz, ite_true, ite_false, if_true, if_false, Bool.false_eq_true, and_self, and_true, true_and, and_false, false_and]
    · rw [MdM_none hM (fun t h _ => r255 t h) hb]
      exact MdM_t hM.1 hM.2.1
  · have hb' : zb (σ1.1 0 3) = false := by
      cases z : zb (σ1.1 0 3) with
      | true => exact absurd z hb
      | false => rfl
    obtain ⟨g1, g2⟩ := MdM_sub (Q := rng lo hi) hM r255 hb'
    by_cases c1 : v < lo
    · refine ⟨lo, setI σ1 0 3 (bz true), ?_, by omega, by omega, hQt, ?_⟩
      · simp (disch := omega) only [F_Mo_between, F_Mo_between_23, F_Mo_between_28, F_Mo_between_43, hF, hb', if_pos, stl_e, rI, zbz, n_lt, Bool.false_eq_true, if_neg, ite_true, ite_false, if_true, if_false, Bool.false_eq_true, and_self, and_true, true_and, and_false, false_and]
      · rw [g2 (fun z => by have z' := of_decide_eq_true z; omega)]
        exact MdM_t hM.1 hM.2.1
    · by_cases c2 : v ≤ hi
      · refine ⟨v, setI σ1 0 3 (bz false), ?_, by omega, by omega, hQf, ?_⟩
        · simp (disch := omega) only [F_Mo_between, F_Mo_between_23, F_Mo_between_28, F_Mo_between_43, hF, hb', if_pos, stl_e, rI, zbz, n_lt, n_le, Bool.false_eq_true, if_neg, ite_true, ite_false, if_true, if_false, Bool.false_eq_true, and_self, and_true, true_and, and_false, false_and]
        · obtain ⟨q, e, h⟩ := g1 (decide_eq_true (by omega))
          rw [e]
          exact MdM_f h
      · refine ⟨lo, setI σ1 0 3 (bz true), ?_, by omega, by omega, hQt, ?_⟩
        · simp (disch := omega) only [F_Mo_between, F_Mo_between_23, F_Mo_between_28, F_Mo_between_43, hF, hb', if_pos, stl_e, rI, zbz, n_lt, n_le, Bool.false_eq_true, if_neg, ite_true, ite_false, if_true, if_false, Bool.false_eq_true, and_self, and_true, true_and, and_false, false_and]
        · rw [g2 (fun z => by have z' := of_decide_eq_true z; omega)]
          exact MdM_t hM.1 hM.2.1
theorem ty_raw {many v : Nat} {pl no : Bool} {σ : SG} (hv : v < 256) (hm : many ≤ 4) (hb : zb (σ.1 0 3) = false) :
    (match (some (Int32.ofNat v, σ) : Option (Int32 × SG)) with
      | none => none
      | some q9 =>
        if q9.1 = (1 : Int32) then F_Mo_typeOf_65 0 (q9.1) q9.2
        else if q9.1 = (2 : Int32) then F_Mo_typeOf_65 0 (q9.1) q9.2
        else if q9.1 = (4 : Int32) then F_Mo_typeOf_65 0 (q9.1) q9.2
        else if q9.1 = (5 : Int32) then F_Mo_typeOf_65 0 (q9.1) q9.2
        else if pl = true then
          if q9.1 = (3 : Int32) then F_Mo_typeOf_65 0 (q9.1) q9.2
          else F_Mo_typeOf_40 0 (Int32.ofNat many) no (q9.1) q9.2
        else F_Mo_typeOf_40 0 (Int32.ofNat many) no (q9.1) q9.2) = if tyP many pl no v = true then some (Int32.ofNat v, setI σ 0 3 (bz false)) else some (Int32.ofNat 0, setI σ 0 3 (bz true)) := by
  have h65 : F_Mo_typeOf_65 0 (Int32.ofNat v) σ = some (Int32.ofNat v, setI σ 0 3 (bz false)) := by
    simp (disch := omega) only [F_Mo_typeOf_65, F_Mo_typeOf_70, F_Mo_typeOf_85, F_Mo_typeOf_90, F_Mo_typeOf_106, hb, if_pos, if_neg, Bool.false_eq_true, stl_e, rI, zbz, ite_true, ite_false, if_true, if_false, Bool.false_eq_true, and_self, and_true, true_and, and_false, false_and]
  have h69 : F_Mo_typeOf_69 0 (Int32.ofNat v) σ = some (Int32.ofNat 0, setI σ 0 3 (bz true)) := by
    simp (disch := omega) only [F_Mo_typeOf_69, F_Mo_typeOf_70, F_Mo_typeOf_85, F_Mo_typeOf_90, F_Mo_typeOf_106, hb, if_pos, if_neg, Bool.false_eq_true, stl_e, rI, zbz, lit32, ite_true, ite_false, if_true, if_false, Bool.false_eq_true, and_self, and_true, true_and, and_false, false_and]
  have h49 : F_Mo_typeOf_49 0 (Int32.ofNat many) (Int32.ofNat v) σ = if 8 ≤ v ∧ v < 8 + many then some (Int32.ofNat v, setI σ 0 3 (bz false)) else some (Int32.ofNat 0, setI σ 0 3 (bz true)) := by
    by_cases c1 : v < 8
    · simp (disch := omega) only [F_Mo_typeOf_49, lit32, n_lt, if_pos, if_neg, h69, ite_true, ite_false, if_true, if_false, Bool.false_eq_true, and_self, and_true, true_and, and_false, false_and]
    · by_cases c2 : 8 + many ≤ v
      · simp (disch := omega) only [F_Mo_typeOf_49, lit32, n_lt, n_le, n_add, if_pos, if_neg, h69, ite_true, ite_false, if_true, if_false, Bool.false_eq_true, and_self, and_true, true_and, and_false, false_and]
      · simp (disch := omega) only [F_Mo_typeOf_49, lit32, n_lt, n_le, n_add, if_pos, if_neg, h65, ite_true, ite_false, if_true, if_false, Bool.false_eq_true, and_self, and_true, true_and, and_false, false_and]
  have h40 : F_Mo_typeOf_40 0 (Int32.ofNat many) no (Int32.ofNat v) σ = if (no = true ∧ v = 0) ∨ (8 ≤ v ∧ v < 8 + many) then some (Int32.ofNat v, setI σ 0 3 (bz false)) else some (Int32.ofNat 0, setI σ 0 3 (bz true)) := by
    cases no with
    | false => simp (disch := omega) only [F_Mo_typeOf_40, Bool.false_eq_true, if_neg, false_and, false_or, h49, not_false_eq_true, ite_true, ite_false, if_true, if_false, Bool.false_eq_true, and_self, and_true, true_and, and_false, false_and]
    | true =>
      by_cases c : v = 0
      · simp (disch := omega) only [F_Mo_typeOf_40, if_pos, lit32, n_eq, h65, true_and, ite_true, ite_false, if_true, if_false, Bool.false_eq_true, and_self, and_true, true_and, and_false, false_and]
      · simp (disch := omega) only [F_Mo_typeOf_40, if_pos, lit32, n_eq, if_neg, h49, true_and, c, false_or, ite_true, ite_false, if_true, if_false, Bool.false_eq_true, and_self, and_true, true_and, and_false, false_and]
  by_cases c1 : v = 1
  · rw [if_pos (show tyP many pl no v = true from decide_eq_true (Or.inl c1))]
    simp (disch := omega) only [lit32, n_eq, if_pos, h65, ite_true, ite_false, if_true, if_false, Bool.false_eq_true, and_self, and_true, true_and, and_false, false_and]
  by_cases c2 : v = 2
  · rw [if_pos (show tyP many pl no v = true from decide_eq_true (Or.inr (Or.inl c2)))]
    simp (disch := omega) only [lit32, n_eq, if_pos, if_neg, h65, ite_true, ite_false, if_true, if_false, Bool.false_eq_true, and_self, and_true, true_and, and_false, false_and]
  by_cases c4 : v = 4
  · rw [if_pos (show tyP many pl no v = true from decide_eq_true (Or.inr (Or.inr (Or.inl c4))))]
    simp (disch := omega) only [lit32, n_eq, if_pos, if_neg, h65, ite_true, ite_false, if_true, if_false, Bool.false_eq_true, and_self, and_true, true_and, and_false, false_and]
  by_cases c5 : v = 5
  · rw [if_pos (show tyP many pl no v = true from decide_eq_true (Or.inr (Or.inr (Or.inr (Or.inl c5)))))]
    simp (disch := omega) only [lit32, n_eq, if_pos, if_neg, h65, ite_true, ite_false, if_true, if_false, Bool.false_eq_true, and_self, and_true, true_and, and_false, false_and]
  have hno : (no = true ∧ v = 0 ∨ 8 ≤ v ∧ v < 8 + many) ∨ ¬ (no = true ∧ v = 0 ∨ 8 ≤ v ∧ v < 8 + many) := Classical.em _
  cases pl with
  | false =>
    simp (disch := omega) only [lit32, n_eq, if_neg, Bool.false_eq_true, not_false_eq_true, h40, tyP, c1, c2, c4, c5, false_or, false_and, decide_eq_true_eq, ite_true, ite_false, if_true, if_false, Bool.false_eq_true, and_self, and_true, true_and, and_false, false_and]
  | true =>
    by_cases c3 : v = 3
    · rw [if_pos (show tyP many true no v = true from decide_eq_true (Or.inr (Or.inr (Or.inr (Or.inr (Or.inl ⟨rfl, c3⟩))))))]
      simp (disch := omega) only [lit32, n_eq, if_pos, if_neg, h65, ite_true, ite_false, if_true, if_false, Bool.false_eq_true, and_self, and_true, true_and, and_false, false_and]
    · simp (disch := omega) only [lit32, n_eq, if_pos, if_neg, h40, tyP, c1, c2, c3, c4, c5, false_or, and_false, decide_eq_true_eq, ite_true, ite_false, if_true, if_false, Bool.false_eq_true, and_self, and_true, true_and, and_false, false_and]
theorem m_typ {d : Nat → Nat} {n many : Nat} {K pl no : Bool} {im0 : Im} {σ : SG} {o : Option PZ} (hS : StM d n K im0 σ o) (hm : many ≤ 4) :
    ∃ v σ1, F_Mo_typeOf 0 (Int32.ofNat many) pl no σ = some (Int32.ofNat v, σ1) ∧ v < 256 ∧ QtM σ σ1 ∧ MdM d n K im0 σ1 (o.bind (nxs d n (tyP many pl no))) v := by
  obtain ⟨v, σ1, hF, hv, hQ, hM⟩ := m_next hS
  have hQt := QtM_trans hQ (QtM_set (σ := σ1) (f := 3) (v := bz true) (Or.inr rfl))
  have hQf := QtM_trans hQ (QtM_set (σ := σ1) (f := 3) (v := bz false) (Or.inr rfl))
  by_cases hb : zb (σ1.1 0 3) = true
  · refine ⟨0, setI σ1 0 3 (bz true), ?_, by omega, hQt, ?_⟩
    · have h70 : ∀ y x, F_Mo_typeOf_70 0 x y σ1 = some (Int32.ofNat 0, setI σ1 0 3 (bz true)) := by
        intro y x
        simp (disch := omega) only [F_Mo_typeOf_70, F_Mo_typeOf_85, F_Mo_typeOf_90, F_Mo_typeOf_106, hb, if_pos, stl_e, rI, zbz, lit32, ite_true, ite_false, if_true, if_false, Bool.false_eq_true, and_self, and_true, true_and, and_false, false_and]
      simp only [F_Mo_typeOf, hF, F_Mo_typeOf_65, F_Mo_typeOf_69, F_Mo_typeOf_40, F_Mo_typeOf_49, h70, ite_self]
    · rw [MdM_none hM (fun t h _ => r255 t h) hb]
      exact MdM_t hM.1 hM.2.1
  · have hb' : zb (σ1.1 0 3) = false := by
      cases z : zb (σ1.1 0 3) with
      | true => exact absurd z hb
      | false => rfl
    obtain ⟨g1, g2⟩ := MdM_sub (Q := tyP many pl no) hM r255 hb'
    have hr := ty_raw (pl := pl) (no := no) hv hm hb'
    have hF2 : F_Mo_typeOf 0 (Int32.ofNat many) pl no σ = if tyP many pl no v = true then some (Int32.ofNat v, setI σ1 0 3 (bz false)) else some (Int32.ofNat 0, setI σ1 0 3 (bz true)) := by
      rw [← hr]
      unfold F_Mo_typeOf
      rw [hF]
    by_cases c : tyP many pl no v = true
    · rw [if_pos c] at hF2
      refine ⟨v, _, hF2, hv, hQf, ?_⟩
      obtain ⟨q, e, h⟩ := g1 c
      rw [e]
      exact MdM_f h
    · rw [if_neg c] at hF2
      refine ⟨0, _, hF2, by omega, hQt, ?_⟩
      rw [g2 c]
      exact MdM_t hM.1 hM.2.1
theorem stM_g {d : Nat → Nat} {n v : Nat} {K : Bool} {im0 : Im} {σ σ' : SG} {q : Option (Nat × PZ)} {g : Im → Nat → Im} (h : MdM d n K im0 σ q v) (hR0 : K = false → RepM σ' im0) (hD : Drf d n σ') (h02 : σ'.1 0 2 = σ.1 0 2) (h03 : σ'.1 0 3 = σ.1 0 3) (hr : K = true → ∀ im, RepM σ im → RepM σ' (g im v)) :
    StM d n K im0 σ' (q.bind fun q => some (g q.2.1 q.1, q.2.2)) := by
  refine ⟨hD, hR0, ?_⟩
  cases q with
  | none =>
    have h' : zb (σ.1 0 3) = true := h.2.2
    show zb (σ'.1 0 3) = true
    rw [h03]; exact h'
  | some q =>
    obtain ⟨-, -, h1, h2, h3, h4, h5⟩ := h
    show zb (σ'.1 0 3) = false ∧ σ'.1 0 2 = Int32.ofNat q.2.2 ∧ q.2.2 ≤ n ∧ (K = true → RepM σ' (g q.2.1 q.1))
    rw [h02, h03]
    refine ⟨h1, h2, h3, fun k => ?_⟩
    rw [← h5]
    exact hr k _ (h4 k)
theorem fgt {d : Nat → Nat} {n v : Nat} {K : Bool} {im0 : Im} {σ : SG} {q : Option (Nat × PZ)} (h : MdM d n K im0 σ q v) : StM d n K im0 σ (q.bind fun q => some q.2) :=
  stM_g (g := fun im _ => im) h h.2.1 h.1 rfl rfl (fun _ _ z => z)
theorem Drf_setA {d : Nat → Nat} {n a i : Nat} {σ : SG} {x : Int32} (h : Drf d n σ) (ha : a ≠ 1) : Drf d n (setA σ a i x) := by
  obtain ⟨h0, h1, h2⟩ := h
  refine ⟨h0, h1, fun k hk => ?_⟩
  rw [rA, if_neg (by omega)]
  exact h2 k hk
theorem Drf_setI {d : Nat → Nat} {n f : Nat} {σ : SG} {x : Int32} (h : Drf d n σ) (hf : f ≠ 0) : Drf d n (setI σ 0 f x) := by
  obtain ⟨h0, h1, h2⟩ := h
  refine ⟨?_, h1, h2⟩
  rw [rI, if_neg (by omega)]
  exact h0
theorem rs_g (d : Nat → Nat) (n : Nat) (P : Nat → Bool) (a i : Nat) (o : Option PZ) : o.bind (rs d n P a i) = (o.bind (nxs d n P)).bind fun q => some (u2 q.2.1 a i q.1, q.2.2) := by
  cases o <;> rfl
/-- what was read is kept, if it is to be kept -/
theorem st1 {d : Nat → Nat} {n v a i : Nat} {K : Bool} {im0 : Im} {σ : SG} {o : Option PZ} {P : Nat → Bool} (h : MdM d n K im0 σ (o.bind (nxs d n P)) v) (hv : v < 256) (ha : 2 ≤ a) :
    StM d n K im0 (if K = true then setA σ a i (Int32.ofNat v) else σ) (o.bind (rs d n P a i)) := by
  rw [rs_g]
  cases K with
  | true => exact stM_g (g := fun im w => u2 im a i w) h (fun z => by cases z) (Drf_setA h.1 (by omega)) rfl rfl (fun _ im z => RepM_uA z ha hv)
  | false => exact stM_g (g := fun im w => u2 im a i w) h h.2.1 h.1 rfl rfl (fun z => by cases z)
theorem cnt_eqM {d : Nat → Nat} {n v a i : Nat} {K : Bool} {im0 : Im} {σ : SG} {o : Option PZ} {P : Nat → Bool} (h : MdM d n K im0 σ (o.bind (nxs d n P)) v) : ∀ s, o.bind (rs d n P a i) = some s → s.1 a i = v := by
  intro s hs
  rw [rs_g] at hs
  generalize o.bind (nxs d n P) = q at hs h
  cases q with
  | none => cases hs
  | some q =>
    have e : v = q.1 := h.2.2.2.2.2.2
    cases hs
    rw [e]
    exact u2_same _ _ _ _
theorem FaM_if {K : Bool} {σ : SG} {a i : Nat} {x : Int32} (h1 : 2 ≤ a) (h2 : a ≤ 15) : FaM σ (if K = true then setA σ a i x else σ) := by
  cases K with
  | true => exact FaM_setA h1 h2
  | false => exact FaM_refl _
theorem m_320 {d : Nat → Nat} {n m cnt : Nat} {K : Bool} {im0 : Im} (hm : m < 6) (hc : cnt ≤ 100) : ∀ (c i fuel : Nat) (σ : SG) (o : Option PZ), i + c = cnt → c < fuel → StM d n K im0 σ o →
    ∃ σ1, F_Mo_scanMethod_320 fuel 0 (Int32.ofNat m) K (Int32.ofNat cnt) (Int32.ofNat i) σ = some σ1 ∧ StM d n K im0 σ1 (o.bind (lps (fun p => rs d n (rng 0 255) 15 (100 * m + p)) c i)) ∧ FaM σ σ1 := by
  intro c
  induction c with
  | zero =>
    intro i fuel σ o hi hf hS
    obtain ⟨fuel, rfl⟩ : ∃ x, fuel = x + 1 := ⟨fuel - 1, by omega⟩
    refine ⟨σ, ?_, ?_, FaM_refl _⟩
    · simp (disch := omega) only [F_Mo_scanMethod_320, F_Mo_scanMethod_364, n_le, if_pos, ite_true, ite_false, if_true, if_false, Bool.false_eq_true, and_self, and_true, true_and, and_false, false_and]
    · cases o <;> exact hS
  | succ c ih =>
    intro i fuel σ o hi hf hS
    obtain ⟨fuel, rfl⟩ : ∃ x, fuel = x + 1 := ⟨fuel - 1, by omega⟩
    cases o with
    | none =>
      have hb : zb (σ.1 0 3) = true := hS.2.2
      refine ⟨σ, ?_, hS, FaM_refl _⟩
      simp (disch := omega) only [F_Mo_scanMethod_320, F_Mo_scanMethod_364, n_le, if_neg, hb, if_pos, ite_true, ite_false, if_true, if_false, Bool.false_eq_true, and_self, and_true, true_and, and_false, false_and]
    | some s =>
      have hb : zb (σ.1 0 3) = false := hS.2.2.1
      obtain ⟨v, σ1, hF, hv, hQ, hM⟩ := m_next hS
      have hS2 := st1 (a := 15) (i := 100 * m + i) hM hv (by omega)
      obtain ⟨σ2, hF2, hS3, hFr⟩ := ih (i + 1) fuel _ _ (by omega) (by omega) hS2
      refine ⟨σ2, ?_, hS3, FaM_trans (QtM_FaM hQ) (FaM_trans (FaM_if (by omega) (by omega)) hFr)⟩
      cases K with
      | true =>
        simp only [if_true] at hF2
        simp (disch := omega) only [F_Mo_scanMethod_320, F_Mo_scanMethod_358, n_le, if_neg, hb, if_pos, hF, lit32, n_mul, n_add, n_cl, n_nl0, false_or, cm_19, stl_e, hF2, Bool.false_eq_true, ite_true, ite_false, if_true, if_false, Bool.false_eq_true, and_self, and_true, true_and, and_false, false_and]
      | false =>
        simp only [Bool.false_eq_true, if_false] at hF2
        simp (disch := omega) only [F_Mo_scanMethod_320, F_Mo_scanMethod_358, n_le, if_neg, hb, hF, lit32, n_add, hF2, Bool.false_eq_true, ite_true, ite_false, if_true, if_false, Bool.false_eq_true, and_self, and_true, true_and, and_false, false_and]
theorem m_296 {d : Nat → Nat} {n m : Nat} {K : Bool} {im0 : Im} {σ : SG} {o : Option PZ} (hm : m < 6) (hS : StM d n K im0 σ o) :
    ∃ σ1, F_Mo_scanMethod_296 0 (Int32.ofNat m) K σ = some σ1 ∧ StM d n K im0 σ1 (o.bind (sC d n m)) ∧ FaM σ σ1 := by
  obtain ⟨v, σ1, hF, h1, h2, hQ, hM⟩ := m_btw (lo := 1) (hi := 100) hS (by omega) (by omega)
  have hS2 := st1 (a := 14) (i := m) hM (by omega) (by omega)
  obtain ⟨σ2, hF2, hS3, hFr⟩ := m_320 hm (cnt := v) (by omega) v 0 5000 _ _ (by omega) (by omega) hS2
  refine ⟨σ2, ?_, ?_, FaM_trans (QtM_FaM hQ) (FaM_trans (FaM_if (by omega) (by omega)) hFr)⟩
  · cases K with
    | true =>
      simp only [if_true] at hF2
      simp (disch := omega) only [F_Mo_scanMethod_296, F_Mo_scanMethod_317, if_neg, if_pos, hF, lit32, n_cl, n_nl0, false_or, cm_18, stl_e, hF2, ite_true, ite_false, if_true, if_false, Bool.false_eq_true, and_self, and_true, true_and, and_false, false_and]
    | false =>
      simp only [Bool.false_eq_true, if_false] at hF2
      simp (disch := omega) only [F_Mo_scanMethod_296, F_Mo_scanMethod_317, if_neg, hF, lit32, hF2, Bool.false_eq_true, ite_true, ite_false, if_true, if_false, Bool.false_eq_true, and_self, and_true, true_and, and_false, false_and]
  · have e := ob_eq (o := o.bind (rs d n (rng 1 100) 14 m)) (f := lps (fun p => rs d n (rng 0 255) 15 (100 * m + p)) v 0) (g := fun s => lps (fun p => rs d n (rng 0 255) 15 (100 * m + p)) (s.1 14 m) 0 s) (fun s hs => by rw [cnt_eqM hM s hs])
    rw [e, obb] at hS3
    exact hS3
/-- four reads, then four keepings -/
theorem rd4 (d : Nat → Nat) (n k1 k2 k3 k4 v1 v2 v3 i : Nat) (P1 P2 P3 P4 : Nat → Bool) (o : Option PZ)
    (h1 : ∀ q, o.bind (nxs d n P1) = some q → v1 = q.1)
    (h2 : ∀ q, ((o.bind (nxs d n P1)).bind fun q => some q.2).bind (nxs d n P2) = some q → v2 = q.1)
    (h3 : ∀ q, ((((o.bind (nxs d n P1)).bind fun q => some q.2).bind (nxs d n P2)).bind fun q => some q.2).bind (nxs d n P3) = some q → v3 = q.1) :
    (o.bind fun s => (rs d n P1 k1 i s).bind fun s => (rs d n P2 k2 i s).bind fun s => (rs d n P3 k3 i s).bind fun s => rs d n P4 k4 i s) =
    (((((((o.bind (nxs d n P1)).bind fun q => some q.2).bind (nxs d n P2)).bind fun q => some q.2).bind (nxs d n P3)).bind fun q => some q.2).bind (nxs d n P4)).bind fun q => some (u2 (u2 (u2 (u2 q.2.1 k1 i v1) k2 i v2) k3 i v3) k4 i q.1, q.2.2) := by
  cases o with
  | none => rfl
  | some s =>
    simp only [Option.bind_some] at h1 h2 h3 ⊢
    by_cases c1 : s.2 < n ∧ P1 (d s.2) = true
    · have e1 : nxs d n P1 s = some (d s.2, (s.1, s.2 + 1)) := by unfold nxs; rw [if_pos c1]
      have w1 := h1 _ e1
      simp only [rs, e1, Option.bind_some] at h2 h3 ⊢
      by_cases c2 : s.2 + 1 < n ∧ P2 (d (s.2 + 1)) = true
      · have e2 : ∀ im : Im, nxs d n P2 (im, s.2 + 1) = some (d (s.2 + 1), (im, s.2 + 1 + 1)) := by intro im; unfold nxs; rw [if_pos c2]
        have w2 := h2 _ (e2 _)
        simp only [e2, Option.bind_some] at h3 ⊢
        by_cases c3 : s.2 + 1 + 1 < n ∧ P3 (d (s.2 + 1 + 1)) = true
        · have e3 : ∀ im : Im, nxs d n P3 (im, s.2 + 1 + 1) = some (d (s.2 + 1 + 1), (im, s.2 + 1 + 1 + 1)) := by intro im; unfold nxs; rw [if_pos c3]
          have w3 := h3 _ (e3 _)
          simp only [e3, Option.bind_some]
          by_cases c4 : s.2 + 1 + 1 + 1 < n ∧ P4 (d (s.2 + 1 + 1 + 1)) = true
          · have e4 : ∀ im : Im, nxs d n P4 (im, s.2 + 1 + 1 + 1) = some (d (s.2 + 1 + 1 + 1), (im, s.2 + 1 + 1 + 1 + 1)) := by intro im; unfold nxs; rw [if_pos c4]
            simp only [e4, Option.bind_some, w1, w2, w3]
          · have e4 : ∀ im : Im, nxs d n P4 (im, s.2 + 1 + 1 + 1) = none := by intro im; unfold nxs; rw [if_neg c4]
            simp only [e4, Option.bind_none]
        · have e3 : ∀ im : Im, nxs d n P3 (im, s.2 + 1 + 1) = none := by intro im; unfold nxs; rw [if_neg c3]
          simp only [e3, Option.bind_none]
      · have e2 : ∀ im : Im, nxs d n P2 (im, s.2 + 1) = none := by intro im; unfold nxs; rw [if_neg c2]
        simp only [e2, Option.bind_none]
    · have e1 : nxs d n P1 s = none := by unfold nxs; rw [if_neg c1]
      simp only [rs, e1, Option.bind_none]
theorem rd2 (d : Nat → Nat) (n k1 k2 v1 i : Nat) (P1 P2 : Nat → Bool) (o : Option PZ)
    (h1 : ∀ q, o.bind (nxs d n P1) = some q → v1 = q.1) :
    (o.bind fun s => (rs d n P1 k1 i s).bind (rs d n P2 k2 i)) =
    (((o.bind (nxs d n P1)).bind fun q => some q.2).bind (nxs d n P2)).bind fun q => some (u2 (u2 q.2.1 k1 i v1) k2 i q.1, q.2.2) := by
  cases o with
  | none => rfl
  | some s =>
    simp only [Option.bind_some] at h1 ⊢
    by_cases c1 : s.2 < n ∧ P1 (d s.2) = true
    · have e1 : nxs d n P1 s = some (d s.2, (s.1, s.2 + 1)) := by unfold nxs; rw [if_pos c1]
      have w1 := h1 _ e1
      simp only [rs, e1, Option.bind_some]
      by_cases c2 : s.2 + 1 < n ∧ P2 (d (s.2 + 1)) = true
      · have e2 : ∀ im : Im, nxs d n P2 (im, s.2 + 1) = some (d (s.2 + 1), (im, s.2 + 1 + 1)) := by intro im; unfold nxs; rw [if_pos c2]
        simp only [e2, Option.bind_some, w1]
      · have e2 : ∀ im : Im, nxs d n P2 (im, s.2 + 1) = none := by intro im; unfold nxs; rw [if_neg c2]
        simp only [e2, Option.bind_none]
    · have e1 : nxs d n P1 s = none := by unfold nxs; rw [if_neg c1]
      simp only [rs, e1, Option.bind_none]
theorem MdM_v {d : Nat → Nat} {n v : Nat} {K : Bool} {im0 : Im} {σ : SG} {q0 : Option (Nat × PZ)} (h : MdM d n K im0 σ q0 v) : ∀ q, q0 = some q → v = q.1 := by
  intro q e
  subst e
  exact h.2.2.2.2.2.2
theorem m_182 {d : Nat → Nat} {n m cnt : Nat} {K : Bool} {im0 : Im} (hm : m < 6) (hc : cnt ≤ 3) : ∀ (c i fuel : Nat) (σ : SG) (o : Option PZ), i + c = cnt → c < fuel → StM d n K im0 σ o →
    ∃ σ1, F_Mo_scanMethod_182 fuel 0 (Int32.ofNat m) K (Int32.ofNat cnt) (Int32.ofNat i) σ = some σ1 ∧ StM d n K im0 σ1 (o.bind fun s => (lps (sRg d n m) c i s).bind (sC d n m)) ∧ FaM σ σ1 := by
  intro c
  induction c with
  | zero =>
    intro i fuel σ o hi hf hS
    obtain ⟨fuel, rfl⟩ : ∃ x, fuel = x + 1 := ⟨fuel - 1, by omega⟩
    obtain ⟨σ1, hF, hS1, hFr⟩ := m_296 hm hS
    refine ⟨σ1, ?_, hS1, hFr⟩
    simp (disch := omega) only [F_Mo_scanMethod_182, n_le, if_pos, hF, ite_true, ite_false, if_true, if_false, Bool.false_eq_true, and_self, and_true, true_and, and_false, false_and]
  | succ c ih =>
    intro i fuel σ o hi hf hS
    obtain ⟨fuel, rfl⟩ : ∃ x, fuel = x + 1 := ⟨fuel - 1, by omega⟩
    cases o with
    | none =>
      have hb : zb (σ.1 0 3) = true := hS.2.2
      obtain ⟨σ1, hF, hS1, hFr⟩ := m_296 hm hS
      refine ⟨σ1, ?_, hS1, hFr⟩
      simp (disch := omega) only [F_Mo_scanMethod_182, n_le, if_neg, hb, if_pos, hF, ite_true, ite_false, if_true, if_false, Bool.false_eq_true, and_self, and_true, true_and, and_false, false_and]
    | some s =>
      have hb : zb (σ.1 0 3) = false := hS.2.2.1
      obtain ⟨v1, σ1, hF1, hv1, hQ1, hM1⟩ := m_next hS
      obtain ⟨v2, σ2, hF2, hv2, hQ2, hM2⟩ := m_next (fgt hM1)
      obtain ⟨v3, σ3, hF3, hv3, hQ3, hM3⟩ := m_next (fgt hM2)
      obtain ⟨v4, σ4, hF4, -, hv4, hQ4, hM4⟩ := m_btw (lo := 0) (hi := 1) (fgt hM3) (by omega) (by omega)
      have hE := rd4 d n 10 11 12 13 v1 v2 v3 (3 * m + i) (rng 0 255) (rng 0 255) (rng 0 255) (rng 0 1) (some s) (MdM_v hM1) (MdM_v hM2) (MdM_v hM3)
      have hS5 : StM d n K im0 (if K = true then setA (setA (setA (setA σ4 10 (3 * m + i) (Int32.ofNat v1)) 11 (3 * m + i) (Int32.ofNat v2)) 12 (3 * m + i) (Int32.ofNat v3)) 13 (3 * m + i) (Int32.ofNat v4) else σ4) ((some s : Option PZ).bind (sRg d n m i)) := by
        have hE' : (some s : Option PZ).bind (sRg d n m i) = _ := hE
        rw [hE']
        cases K with
        | true => exact stM_g (g := fun im w => u2 (u2 (u2 (u2 im 10 (3 * m + i) v1) 11 (3 * m + i) v2) 12 (3 * m + i) v3) 13 (3 * m + i) w) hM4 (fun z => by cases z) (Drf_setA (Drf_setA (Drf_setA (Drf_setA hM4.1 (by omega)) (by omega)) (by omega)) (by omega)) rfl rfl (fun _ im z => RepM_uA (RepM_uA (RepM_uA (RepM_uA z (by omega) hv1) (by omega) hv2) (by omega) hv3) (by omega) (by omega))
        | false => exact stM_g (g := fun im w => u2 (u2 (u2 (u2 im 10 (3 * m + i) v1) 11 (3 * m + i) v2) 12 (3 * m + i) v3) 13 (3 * m + i) w) hM4 hM4.2.1 hM4.1 rfl rfl (fun z => by cases z)
      obtain ⟨σ5, hF5, hS6, hFr⟩ := ih (i + 1) fuel _ _ (by omega) (by omega) hS5
      refine ⟨σ5, ?_, ?_, FaM_trans (QtM_FaM (QtM_trans hQ1 (QtM_trans hQ2 (QtM_trans hQ3 hQ4)))) (FaM_trans ?_ hFr)⟩
      · cases K with
        | true =>
          simp only [if_true] at hF5
          by_cases c4 : v4 = 1
          · subst c4
            simp (disch := omega) only [F_Mo_scanMethod_182, F_Mo_scanMethod_289, F_Mo_scanMethod_290, n_le, if_neg, hb, if_pos, hF1, hF2, hF3, hF4, lit32, n_mul, n_add, n_cl, n_nl0, false_or, cm_14, cm_15, cm_16, cm_17, stl_e, bzt, hF5, Bool.false_eq_true, ite_true, ite_false, if_true, if_false, Bool.false_eq_true, and_self, and_true, true_and, and_false, false_and]
          · have c5 : v4 = 0 := by omega
            subst c5
            simp (disch := omega) only [F_Mo_scanMethod_182, F_Mo_scanMethod_289, F_Mo_scanMethod_290, n_le, n_eq, if_neg, hb, if_pos, hF1, hF2, hF3, hF4, lit32, n_mul, n_add, n_cl, n_nl0, false_or, cm_14, cm_15, cm_16, cm_17, stl_e, bzf, hF5, Bool.false_eq_true, ite_true, ite_false, if_true, if_false, Bool.false_eq_true, and_self, and_true, true_and, and_false, false_and]
        | false =>
          simp only [Bool.false_eq_true, if_false] at hF5
          simp (disch := omega) only [F_Mo_scanMethod_182, F_Mo_scanMethod_290, n_le, if_neg, hb, hF1, hF2, hF3, hF4, lit32, n_add, hF5, Bool.false_eq_true, ite_true, ite_false, if_true, if_false, Bool.false_eq_true, and_self, and_true, true_and, and_false, false_and]
      · have e : (fun s => (lps (sRg d n m) (c + 1) i s).bind (sC d n m)) = (fun s => (sRg d n m i s).bind fun s => (lps (sRg d n m) c (i + 1) s).bind (sC d n m)) := by
          funext s
          exact obb _ _ _
        rw [obb] at hS6
        rw [e]
        exact hS6
      · cases K with
        | true => exact FaM_trans (FaM_setA (by omega) (by omega)) (FaM_trans (FaM_setA (by omega) (by omega)) (FaM_trans (FaM_setA (by omega) (by omega)) (FaM_setA (by omega) (by omega))))
        | false => exact FaM_refl _
theorem m_159 {d : Nat → Nat} {n m : Nat} {K : Bool} {im0 : Im} {σ : SG} {o : Option PZ} (hm : m < 6) (hS : StM d n K im0 σ o) :
    ∃ σ1, F_Mo_scanMethod_159 0 (Int32.ofNat m) K σ = some σ1 ∧ StM d n K im0 σ1 (o.bind (sR d n m)) ∧ FaM σ σ1 := by
  obtain ⟨v, σ1, hF, h1, h2, hQ, hM⟩ := m_btw (lo := 0) (hi := 3) hS (by omega) (by omega)
  have hS2 := st1 (a := 9) (i := m) hM (by omega) (by omega)
  obtain ⟨σ2, hF2, hS3, hFr⟩ := m_182 hm (cnt := v) (by omega) v 0 5000 _ _ (by omega) (by omega) hS2
  refine ⟨σ2, ?_, ?_, FaM_trans (QtM_FaM hQ) (FaM_trans (FaM_if (by omega) (by omega)) hFr)⟩
  · cases K with
    | true =>
      simp only [if_true] at hF2
      simp (disch := omega) only [F_Mo_scanMethod_159, F_Mo_scanMethod_179, if_neg, if_pos, hF, lit32, n_cl, n_nl0, false_or, cm_13, stl_e, hF2, ite_true, ite_false, if_true, if_false, Bool.false_eq_true, and_self, and_true, true_and, and_false, false_and]
    | false =>
      simp only [Bool.false_eq_true, if_false] at hF2
      simp (disch := omega) only [F_Mo_scanMethod_159, F_Mo_scanMethod_179, if_neg, hF, lit32, hF2, Bool.false_eq_true, ite_true, ite_false, if_true, if_false, Bool.false_eq_true, and_self, and_true, true_and, and_false, false_and]
  · have e := ob_eq (o := o.bind (rs d n (rng 0 3) 9 m)) (f := fun s => (lps (sRg d n m) v 0 s).bind (sC d n m)) (g := fun s => (lps (sRg d n m) (s.1 9 m) 0 s).bind (sC d n m)) (fun s hs => by rw [cnt_eqM hM s hs])
    rw [e, obb] at hS3
    exact hS3
theorem m_113 {d : Nat → Nat} {n m cnt many : Nat} {K : Bool} {im0 : Im} (hm : m < 6) (hc : cnt ≤ 4) (hmany : many ≤ 4) : ∀ (c i fuel : Nat) (σ : SG) (o : Option PZ), i + c = cnt → c < fuel → StM d n K im0 σ o →
    ∃ σ1, F_Mo_scanMethod_113 fuel 0 (Int32.ofNat m) (Int32.ofNat many) K (Int32.ofNat cnt) (Int32.ofNat i) σ = some σ1 ∧ StM d n K im0 σ1 (o.bind fun s => (lps (fun i => rs d n (tyP many false false) 8 (4 * m + i)) c i s).bind (sR d n m)) ∧ FaM σ σ1 := by
  intro c
  induction c with
  | zero =>
    intro i fuel σ o hi hf hS
    obtain ⟨fuel, rfl⟩ : ∃ x, fuel = x + 1 := ⟨fuel - 1, by omega⟩
    obtain ⟨σ1, hF, hS1, hFr⟩ := m_159 hm hS
    refine ⟨σ1, ?_, hS1, hFr⟩
    simp (disch := omega) only [F_Mo_scanMethod_113, n_le, if_pos, hF, ite_true, ite_false, if_true, if_false, Bool.false_eq_true, and_self, and_true, true_and, and_false, false_and]
  | succ c ih =>
    intro i fuel σ o hi hf hS
    obtain ⟨fuel, rfl⟩ : ∃ x, fuel = x + 1 := ⟨fuel - 1, by omega⟩
    cases o with
    | none =>
      have hb : zb (σ.1 0 3) = true := hS.2.2
      obtain ⟨σ1, hF, hS1, hFr⟩ := m_159 hm hS
      refine ⟨σ1, ?_, hS1, hFr⟩
      simp (disch := omega) only [F_Mo_scanMethod_113, n_le, if_neg, hb, if_pos, hF, ite_true, ite_false, if_true, if_false, Bool.false_eq_true, and_self, and_true, true_and, and_false, false_and]
    | some s =>
      have hb : zb (σ.1 0 3) = false := hS.2.2.1
      obtain ⟨v, σ1, hF, hv, hQ, hM⟩ := m_typ (pl := false) (no := false) hS hmany
      have hS2 := st1 (a := 8) (i := 4 * m + i) hM hv (by omega)
      obtain ⟨σ2, hF2, hS3, hFr⟩ := ih (i + 1) fuel _ _ (by omega) (by omega) hS2
      refine ⟨σ2, ?_, ?_, FaM_trans (QtM_FaM hQ) (FaM_trans (FaM_if (by omega) (by omega)) hFr)⟩
      · cases K with
        | true =>
          simp only [if_true] at hF2
          simp (disch := omega) only [F_Mo_scanMethod_113, F_Mo_scanMethod_153, n_le, if_neg, hb, if_pos, hF, lit32, n_mul, n_add, n_cl, n_nl0, false_or, cm_12, stl_e, hF2, Bool.false_eq_true, ite_true, ite_false, if_true, if_false, Bool.false_eq_true, and_self, and_true, true_and, and_false, false_and]
        | false =>
          simp only [Bool.false_eq_true, if_false] at hF2
          simp (disch := omega) only [F_Mo_scanMethod_113, F_Mo_scanMethod_153, n_le, if_neg, hb, hF, lit32, n_add, hF2, Bool.false_eq_true, ite_true, ite_false, if_true, if_false, Bool.false_eq_true, and_self, and_true, true_and, and_false, false_and]
      · have e : (fun s => (lps (fun i => rs d n (tyP many false false) 8 (4 * m + i)) (c + 1) i s).bind (sR d n m)) = (fun s => (rs d n (tyP many false false) 8 (4 * m + i) s).bind fun s => (lps (fun i => rs d n (tyP many false false) 8 (4 * m + i)) c (i + 1) s).bind (sR d n m)) := by
          funext s
          exact obb _ _ _
        rw [obb] at hS3
        rw [e]
        exact hS3
theorem m_90 {d : Nat → Nat} {n m many : Nat} {K : Bool} {im0 : Im} {σ : SG} {o : Option PZ} (hm : m < 6) (hmany : many ≤ 4) (hS : StM d n K im0 σ o) :
    ∃ σ1, F_Mo_scanMethod_90 0 (Int32.ofNat m) (Int32.ofNat many) K σ = some σ1 ∧ StM d n K im0 σ1 (o.bind (sL d n many m)) ∧ FaM σ σ1 := by
  obtain ⟨v, σ1, hF, h1, h2, hQ, hM⟩ := m_btw (lo := 0) (hi := 4) hS (by omega) (by omega)
  have hS2 := st1 (a := 7) (i := m) hM (by omega) (by omega)
  obtain ⟨σ2, hF2, hS3, hFr⟩ := m_113 hm (cnt := v) (by omega) hmany v 0 5000 _ _ (by omega) (by omega) hS2
  refine ⟨σ2, ?_, ?_, FaM_trans (QtM_FaM hQ) (FaM_trans (FaM_if (by omega) (by omega)) hFr)⟩
  · cases K with
    | true =>
      simp only [if_true] at hF2
      simp (disch := omega) only [F_Mo_scanMethod_90, F_Mo_scanMethod_110, if_neg, if_pos, hF, lit32, n_cl, n_nl0, false_or, cm_11, stl_e, hF2, ite_true, ite_false, if_true, if_false, Bool.false_eq_true, and_self, and_true, true_and, and_false, false_and]
    | false =>
      simp only [Bool.false_eq_true, if_false] at hF2
      simp (disch := omega) only [F_Mo_scanMethod_90, F_Mo_scanMethod_110, if_neg, hF, lit32, hF2, Bool.false_eq_true, ite_true, ite_false, if_true, if_false, Bool.false_eq_true, and_self, and_true, true_and, and_false, false_and]
  · have e := ob_eq (o := o.bind (rs d n (rng 0 4) 7 m)) (f := fun s => (lps (fun i => rs d n (tyP many false false) 8 (4 * m + i)) v 0 s).bind (sR d n m)) (g := fun s => (lps (fun i => rs d n (tyP many false false) 8 (4 * m + i)) (s.1 7 m) 0 s).bind (sR d n m)) (fun s hs => by rw [cnt_eqM hM s hs])
    rw [e, obb] at hS3
    exact hS3
theorem m_44 {d : Nat → Nat} {n m cnt many : Nat} {K : Bool} {im0 : Im} (hm : m < 6) (hc : cnt ≤ 3) (hmany : many ≤ 4) : ∀ (c i fuel : Nat) (σ : SG) (o : Option PZ), i + c = cnt → c < fuel → StM d n K im0 σ o →
    ∃ σ1, F_Mo_scanMethod_44 fuel 0 (Int32.ofNat m) (Int32.ofNat many) K (Int32.ofNat cnt) (Int32.ofNat i) σ = some σ1 ∧ StM d n K im0 σ1 (o.bind fun s => (lps (fun i => rs d n (tyP many true false) 6 (3 * m + i)) c i s).bind (sL d n many m)) ∧ FaM σ σ1 := by
  intro c
  induction c with
  | zero =>
    intro i fuel σ o hi hf hS
    obtain ⟨fuel, rfl⟩ : ∃ x, fuel = x + 1 := ⟨fuel - 1, by omega⟩
    obtain ⟨σ1, hF, hS1, hFr⟩ := m_90 hm hmany hS
    refine ⟨σ1, ?_, hS1, hFr⟩
    simp (disch := omega) only [F_Mo_scanMethod_44, n_le, if_pos, hF, ite_true, ite_false, if_true, if_false, Bool.false_eq_true, and_self, and_true, true_and, and_false, false_and]
  | succ c ih =>
    intro i fuel σ o hi hf hS
    obtain ⟨fuel, rfl⟩ : ∃ x, fuel = x + 1 := ⟨fuel - 1, by omega⟩
    cases o with
    | none =>
      have hb : zb (σ.1 0 3) = true := hS.2.2
      obtain ⟨σ1, hF, hS1, hFr⟩ := m_90 hm hmany hS
      refine ⟨σ1, ?_, hS1, hFr⟩
      simp (disch := omega) only [F_Mo_scanMethod_44, n_le, if_neg, hb, if_pos, hF, ite_true, ite_false, if_true, if_false, Bool.false_eq_true, and_self, and_true, true_and, and_false, false_and]
    | some s =>
      have hb : zb (σ.1 0 3) = false := hS.2.2.1
      obtain ⟨v, σ1, hF, hv, hQ, hM⟩ := m_typ (pl := true) (no := false) hS hmany
      have hS2 := st1 (a := 6) (i := 3 * m + i) hM hv (by omega)
      obtain ⟨σ2, hF2, hS3, hFr⟩ := ih (i + 1) fuel _ _ (by omega) (by omega) hS2
      refine ⟨σ2, ?_, ?_, FaM_trans (QtM_FaM hQ) (FaM_trans (FaM_if (by omega) (by omega)) hFr)⟩
      · cases K with
        | true =>
          simp only [if_true] at hF2
          simp (disch := omega) only [F_Mo_scanMethod_44, F_Mo_scanMethod_84, n_le, if_neg, hb, if_pos, hF, lit32, n_mul, n_add, n_cl, n_nl0, false_or, cm_10, stl_e, hF2, Bool.false_eq_true, ite_true, ite_false, if_true, if_false, Bool.false_eq_true, and_self, and_true, true_and, and_false, false_and]
        | false =>
          simp only [Bool.false_eq_true, if_false] at hF2
          simp (disch := omega) only [F_Mo_scanMethod_44, F_Mo_scanMethod_84, n_le, if_neg, hb, hF, lit32, n_add, hF2, Bool.false_eq_true, ite_true, ite_false, if_true, if_false, Bool.false_eq_true, and_self, and_true, true_and, and_false, false_and]
      · have e : (fun s => (lps (fun i => rs d n (tyP many true false) 6 (3 * m + i)) (c + 1) i s).bind (sL d n many m)) = (fun s => (rs d n (tyP many true false) 6 (3 * m + i) s).bind fun s => (lps (fun i => rs d n (tyP many true false) 6 (3 * m + i)) c (i + 1) s).bind (sL d n many m)) := by
          funext s
          exact obb _ _ _
        rw [obb] at hS3
        rw [e]
        exact hS3
theorem m_method {d : Nat → Nat} {n m many : Nat} {K : Bool} {im0 : Im} {σ : SG} {o : Option PZ} (hm : m < 6) (hmany : many ≤ 4) (hS : StM d n K im0 σ o) :
    ∃ σ1, F_Mo_scanMethod 0 (Int32.ofNat m) (Int32.ofNat many) K σ = some σ1 ∧ StM d n K im0 σ1 (o.bind (sM d n many m)) ∧ FaM σ σ1 := by
  obtain ⟨v1, σ1, hF1, hv1, hQ1, hM1⟩ := m_typ (pl := false) (no := true) hS hmany
  obtain ⟨v, σ2, hF2, h1, h2, hQ2, hM⟩ := m_btw (lo := 0) (hi := 3) (fgt hM1) (by omega) (by omega)
  have hE := rd2 d n 4 5 v1 m (tyP many false true) (rng 0 3) o (MdM_v hM1)
  have hS5 : StM d n K im0 (if K = true then setA (setA σ2 4 m (Int32.ofNat v1)) 5 m (Int32.ofNat v) else σ2) (o.bind fun s => (rs d n (tyP many false true) 4 m s).bind (rs d n (rng 0 3) 5 m)) := by
    rw [hE]
    cases K with
    | true => exact stM_g (g := fun im w => u2 (u2 im 4 m v1) 5 m w) hM (fun z => by cases z) (Drf_setA (Drf_setA hM.1 (by omega)) (by omega)) rfl rfl (fun _ im z => RepM_uA (RepM_uA z (by omega) hv1) (by omega) (by omega))
    | false => exact stM_g (g := fun im w => u2 (u2 im 4 m v1) 5 m w) hM hM.2.1 hM.1 rfl rfl (fun z => by cases z)
  obtain ⟨σ5, hF5, hS6, hFr⟩ := m_44 hm (cnt := v) (by omega) hmany v 0 5000 _ _ (by omega) (by omega) hS5
  have hcnt : ∀ s, (o.bind fun s => (rs d n (tyP many false true) 4 m s).bind (rs d n (rng 0 3) 5 m)) = some s → s.1 5 m = v := by
    intro s hs
    rw [hE] at hs
    generalize ((o.bind (nxs d n (tyP many false true))).bind fun q => some q.2).bind (nxs d n (rng 0 3)) = q at hs hM
    cases q with
    | none => cases hs
    | some q =>
      have e : v = q.1 := hM.2.2.2.2.2.2
      cases hs
      rw [e]
      exact u2_same _ _ _ _
  refine ⟨σ5, ?_, ?_, FaM_trans (QtM_FaM (QtM_trans hQ1 hQ2)) (FaM_trans ?_ hFr)⟩
  · cases K with
    | true =>
      simp only [if_true] at hF5
      simp (disch := omega) only [F_Mo_scanMethod, F_Mo_scanMethod_29, F_Mo_scanMethod_41, if_neg, if_pos, hF1, hF2, lit32, n_cl, n_nl0, false_or, cm_8, cm_9, stl_e, hF5, ite_true, ite_false, if_true, if_false, Bool.false_eq_true, and_self, and_true, true_and, and_false, false_and]
    | false =>
      simp only [Bool.false_eq_true, if_false] at hF5
      simp (disch := omega) only [F_Mo_scanMethod, F_Mo_scanMethod_29, F_Mo_scanMethod_41, if_neg, hF1, hF2, lit32, hF5, Bool.false_eq_true, ite_true, ite_false, if_true, if_false, Bool.false_eq_true, and_self, and_true, true_and, and_false, false_and]
  · have e := ob_eq (o := o.bind fun s => (rs d n (tyP many false true) 4 m s).bind (rs d n (rng 0 3) 5 m)) (f := fun s => (lps (fun i => rs d n (tyP many true false) 6 (3 * m + i)) v 0 s).bind (sL d n many m)) (g := fun s => (lps (fun i => rs d n (tyP many true false) 6 (3 * m + i)) (s.1 5 m) 0 s).bind (sL d n many m)) (fun s hs => by rw [hcnt s hs])
    rw [e, obb] at hS6
    have e2 : (fun s => ((rs d n (tyP many false true) 4 m s).bind (rs d n (rng 0 3) 5 m)).bind fun s => (lps (fun i => rs d n (tyP many true false) 6 (3 * m + i)) (s.1 5 m) 0 s).bind (sL d n many m)) = sM d n many m := by
      funext s
      rw [obb]
      rfl
    rw [e2] at hS6
    exact hS6
  · cases K with
    | true => exact FaM_trans (FaM_setA (by omega) (by omega)) (FaM_setA (by omega) (by omega))
    | false => exact FaM_refl _
def fin (n : Nat) (s : PZ) : Option PZ := if s.2 = n then some s else none
theorem m_194 {d : Nat → Nat} {n : Nat} {K : Bool} {im0 : Im} {σ : SG} {o : Option PZ} (hS : StM d n K im0 σ o) :
    ∃ σ1, F_Mo_scan_194 0 σ = some σ1 ∧ StM d n K im0 σ1 (o.bind (fin n)) ∧ FaM σ σ1 := by
  obtain ⟨hD, hK, hS⟩ := hS
  have hqt : QtM σ (setI σ 0 3 (bz true)) := QtM_set (Or.inr rfl)
  have hqf : QtM σ (setI σ 0 3 (bz false)) := QtM_set (Or.inr rfl)
  have zt : zb ((setI σ 0 3 (bz true)).1 0 3) = true := by rw [rI, if_pos (by omega), zbz]
  have zf : zb ((setI σ 0 3 (bz false)).1 0 3) = false := by rw [rI, if_pos (by omega), zbz]
  cases o with
  | none =>
    have hb : zb (σ.1 0 3) = true := hS
    refine ⟨setI σ 0 3 (bz true), ?_, ⟨Drf_q hD hqt, fun k => RepM_q (hK k) hqt, zt⟩, QtM_FaM hqt⟩
    simp (disch := omega) only [F_Mo_scan_194, F_Mo_scan_213, F_Mo_scan_218, hb, if_pos, stl_e, ite_true, ite_false, if_true, if_false, Bool.false_eq_true, and_self, and_true, true_and, and_false, false_and]
  | some s =>
    obtain ⟨h1, h2, h3, h4⟩ := hS
    have hn := hD.2.1
    by_cases c : s.2 = n
    · refine ⟨setI σ 0 3 (bz false), ?_, ?_, QtM_FaM hqf⟩
      · simp (disch := omega) only [F_Mo_scan_194, F_Mo_scan_213, F_Mo_scan_218, h1, if_neg, Bool.false_eq_true, h2, hD.1, n_eq, if_pos, stl_e, ite_true, ite_false, if_true, if_false, Bool.false_eq_true, and_self, and_true, true_and, and_false, false_and]
      · have e : (some s : Option PZ).bind (fin n) = some s := by
          show fin n s = _
          unfold fin
          rw [if_pos c]
        rw [e]
        refine ⟨Drf_q hD hqf, fun k => RepM_q (hK k) hqf, zf, ?_, h3, fun k => RepM_q (h4 k) hqf⟩
        rw [rI, if_neg (by omega)]
        exact h2
    · refine ⟨setI σ 0 3 (bz true), ?_, ?_, QtM_FaM hqt⟩
      · have hn := hD.2.1
        simp (disch := omega) only [F_Mo_scan_194, F_Mo_scan_213, F_Mo_scan_218, h1, if_neg, Bool.false_eq_true, h2, hD.1, n_eq, stl_e, ite_true, ite_false, if_true, if_false, Bool.false_eq_true, and_self, and_true, true_and, and_false, false_and]
      · have e : (some s : Option PZ).bind (fin n) = none := by
          show fin n s = _
          unfold fin
          rw [if_neg c]
        rw [e]
        exact ⟨Drf_q hD hqt, fun k => RepM_q (hK k) hqt, zt⟩
theorem m_167 {d : Nat → Nat} {n cnt many : Nat} {K : Bool} {im0 : Im} (hc : cnt ≤ 6) (hmany : many ≤ 4) : ∀ (c i fuel : Nat) (σ : SG) (o : Option PZ), i + c = cnt → c < fuel → StM d n K im0 σ o →
    ∃ σ1, F_Mo_scan_167 fuel 0 K (Int32.ofNat many) (Int32.ofNat cnt) (Int32.ofNat i) σ = some σ1 ∧ StM d n K im0 σ1 (o.bind fun s => (lps (sM d n many) c i s).bind (fin n)) ∧ FaM σ σ1 := by
  intro c
  induction c with
  | zero =>
    intro i fuel σ o hi hf hS
    obtain ⟨fuel, rfl⟩ : ∃ x, fuel = x + 1 := ⟨fuel - 1, by omega⟩
    obtain ⟨σ1, hF, hS1, hFr⟩ := m_194 hS
    refine ⟨σ1, ?_, hS1, hFr⟩
    simp (disch := omega) only [F_Mo_scan_167, n_le, if_pos, hF, ite_true, ite_false, if_true, if_false, Bool.false_eq_true, and_self, and_true, true_and, and_false, false_and]
  | succ c ih =>
    intro i fuel σ o hi hf hS
    obtain ⟨fuel, rfl⟩ : ∃ x, fuel = x + 1 := ⟨fuel - 1, by omega⟩
    cases o with
    | none =>
      have hb : zb (σ.1 0 3) = true := hS.2.2
      obtain ⟨σ1, hF, hS1, hFr⟩ := m_194 hS
      refine ⟨σ1, ?_, hS1, hFr⟩
      simp (disch := omega) only [F_Mo_scan_167, n_le, if_neg, hb, if_pos, hF, ite_true, ite_false, if_true, if_false, Bool.false_eq_true, and_self, and_true, true_and, and_false, false_and]
    | some s =>
      have hb : zb (σ.1 0 3) = false := hS.2.2.1
      obtain ⟨σ1, hF, hS2, hFr1⟩ := m_method (m := i) (by omega) hmany hS
      obtain ⟨σ2, hF2, hS3, hFr⟩ := ih (i + 1) fuel _ _ (by omega) (by omega) hS2
      refine ⟨σ2, ?_, ?_, FaM_trans hFr1 hFr⟩
      · simp (disch := omega) only [F_Mo_scan_167, n_le, if_neg, hb, hF, lit32, n_add, hF2, Bool.false_eq_true, ite_true, ite_false, if_true, if_false, Bool.false_eq_true, and_self, and_true, true_and, and_false, false_and]
      · have e : (fun s => (lps (sM d n many) (c + 1) i s).bind (fin n)) = (fun s => (sM d n many i s).bind fun s => (lps (sM d n many) c (i + 1) s).bind (fin n)) := by
          funext s
          exact obb _ _ _
        rw [obb] at hS3
        rw [e]
        exact hS3
theorem m_140 {d : Nat → Nat} {n many : Nat} {K : Bool} {im0 : Im} {σ : SG} {o : Option PZ} (hmany : many ≤ 4) (hS : StM d n K im0 σ o) :
    ∃ σ1, F_Mo_scan_140 0 K (Int32.ofNat many) σ = some σ1 ∧ StM d n K im0 σ1 (o.bind fun s => (sMs d n many s).bind (fin n)) ∧ FaM σ σ1 := by
  obtain ⟨v, σ1, hF, h1, h2, hQ, hM⟩ := m_btw (lo := 1) (hi := 6) hS (by omega) (by omega)
  have hS2 : StM d n K im0 (setI σ1 0 7 (if K = true then Int32.ofNat v else σ1.1 0 7)) (o.bind (rs d n (rng 1 6) 0 1)) := by
    rw [rs_g]
    cases K with
    | true => exact stM_g (g := fun im w => u2 im 0 1 w) hM (fun z => by cases z) (Drf_setI hM.1 (by omega)) (by rw [rI, if_neg (by omega)]) (by rw [rI, if_neg (by omega)]) (fun _ im z => RepM_u7 z (by omega))
    | false => exact stM_g (g := fun im w => u2 im 0 1 w) hM (fun z => RepM_same (hM.2.1 z)) (Drf_setI hM.1 (by omega)) (by rw [rI, if_neg (by omega)]) (by rw [rI, if_neg (by omega)]) (fun z => by cases z)
  obtain ⟨σ2, hF2, hS3, hFr⟩ := m_167 (cnt := v) (by omega) hmany v 0 5000 _ _ (by omega) (by omega) hS2
  refine ⟨σ2, ?_, ?_, FaM_trans (QtM_FaM hQ) (FaM_trans (FaM_setI (by omega)) hFr)⟩
  · cases K with
    | true =>
      simp only [if_true] at hF2
      simp (disch := omega) only [F_Mo_scan_140, F_Mo_scan_161, if_pos, hF, lit32, stl_e, hF2, ite_true, ite_false, if_true, if_false, Bool.false_eq_true, and_self, and_true, true_and, and_false, false_and]
    | false =>
      simp only [Bool.false_eq_true, if_false] at hF2
      simp (disch := omega) only [F_Mo_scan_140, F_Mo_scan_161, if_neg, hF, lit32, stl_e, hF2, Bool.false_eq_true, ite_true, ite_false, if_true, if_false, Bool.false_eq_true, and_self, and_true, true_and, and_false, false_and]
  · have e := ob_eq (o := o.bind (rs d n (rng 1 6) 0 1)) (f := fun s => (lps (sM d n many) v 0 s).bind (fin n)) (g := fun s => (lps (sM d n many) (s.1 0 1) 0 s).bind (fin n)) (fun s hs => by rw [cnt_eqM hM s hs])
    rw [e, obb] at hS3
    have e2 : (fun s => (sMs d n many s).bind (fin n)) = fun s => (rs d n (rng 1 6) 0 1 s).bind fun s => (lps (sM d n many) (s.1 0 1) 0 s).bind (fin n) := by
      funext s
      unfold sMs
      rw [obb]
    rw [e2]
    exact hS3
theorem m_88 {d : Nat → Nat} {n cl cnt many : Nat} {K : Bool} {im0 : Im} {rec53 : Nat → Bool → Int32 → Int32 → SG → Option SG} {T : PZ → Option PZ} (hcl : cl < 4) (hc : cnt ≤ 4) (hmany : many ≤ 4)
    (hrec : ∀ σ o, StM d n K im0 σ o → ∃ σ1, rec53 0 K (Int32.ofNat many) (Int32.ofNat (cl + 1)) σ = some σ1 ∧ StM d n K im0 σ1 (o.bind T) ∧ FaM σ σ1) : ∀ (c i fuel : Nat) (σ : SG) (o : Option PZ), i + c = cnt → c < fuel → StM d n K im0 σ o →
    ∃ σ1, F_Mo_scan_88 rec53 fuel 0 K (Int32.ofNat many) (Int32.ofNat cl) (Int32.ofNat cnt) (Int32.ofNat i) σ = some σ1 ∧ StM d n K im0 σ1 (o.bind fun s => (lps (fun f => rs d n (tyP many false false) 3 (4 * cl + f)) c i s).bind T) ∧ FaM σ σ1 := by
  intro c
  induction c with
  | zero =>
    intro i fuel σ o hi hf hS
    obtain ⟨fuel, rfl⟩ : ∃ x, fuel = x + 1 := ⟨fuel - 1, by omega⟩
    obtain ⟨σ1, hF, hS1, hFr⟩ := hrec σ o hS
    refine ⟨σ1, ?_, hS1, hFr⟩
    simp (disch := omega) only [F_Mo_scan_88, F_Mo_scan_134, n_le, if_pos, lit32, n_add, hF, ite_true, ite_false, if_true, if_false, Bool.false_eq_true, and_self, and_true, true_and, and_false, false_and]
  | succ c ih =>
    intro i fuel σ o hi hf hS
    obtain ⟨fuel, rfl⟩ : ∃ x, fuel = x + 1 := ⟨fuel - 1, by omega⟩
    cases o with
    | none =>
      have hb : zb (σ.1 0 3) = true := hS.2.2
      obtain ⟨σ1, hF, hS1, hFr⟩ := hrec σ none hS
      refine ⟨σ1, ?_, hS1, hFr⟩
      simp (disch := omega) only [F_Mo_scan_88, F_Mo_scan_134, n_le, if_neg, hb, if_pos, lit32, n_add, hF, ite_true, ite_false, if_true, if_false, Bool.false_eq_true, and_self, and_true, true_and, and_false, false_and]
    | some s =>
      have hb : zb (σ.1 0 3) = false := hS.2.2.1
      obtain ⟨v, σ1, hF, hv, hQ, hM⟩ := m_typ (pl := false) (no := false) hS hmany
      have hS2 := st1 (a := 3) (i := 4 * cl + i) hM hv (by omega)
      obtain ⟨σ2, hF2, hS3, hFr⟩ := ih (i + 1) fuel _ _ (by omega) (by omega) hS2
      refine ⟨σ2, ?_, ?_, FaM_trans (QtM_FaM hQ) (FaM_trans (FaM_if (by omega) (by omega)) hFr)⟩
      · cases K with
        | true =>
          simp only [if_true] at hF2
          simp (disch := omega) only [F_Mo_scan_88, F_Mo_scan_128, n_le, if_neg, hb, if_pos, hF, lit32, n_mul, n_add, n_cl, n_nl0, false_or, cm_6, stl_e, hF2, Bool.false_eq_true, ite_true, ite_false, if_true, if_false, Bool.false_eq_true, and_self, and_true, true_and, and_false, false_and]
        | false =>
          simp only [Bool.false_eq_true, if_false] at hF2
          simp (disch := omega) only [F_Mo_scan_88, F_Mo_scan_128, n_le, if_neg, hb, hF, lit32, n_add, hF2, Bool.false_eq_true, ite_true, ite_false, if_true, if_false, Bool.false_eq_true, and_self, and_true, true_and, and_false, false_and]
      · have e : (fun s => (lps (fun f => rs d n (tyP many false false) 3 (4 * cl + f)) (c + 1) i s).bind T) = (fun s => (rs d n (tyP many false false) 3 (4 * cl + i) s).bind fun s => (lps (fun f => rs d n (tyP many false false) 3 (4 * cl + f)) c (i + 1) s).bind T) := by
          funext s
          exact obb _ _ _
        rw [obb] at hS3
        rw [e]
        exact hS3
theorem m_53 {d : Nat → Nat} {n many : Nat} {K : Bool} {im0 : Im} (hmany : many ≤ 4) : ∀ (c i fuel : Nat) (σ : SG) (o : Option PZ), i + c = many → c < fuel → StM d n K im0 σ o →
    ∃ σ1, F_Mo_scan_53 fuel 0 K (Int32.ofNat many) (Int32.ofNat i) σ = some σ1 ∧ StM d n K im0 σ1 (o.bind fun s => (lps (sF d n many) c i s).bind fun s => (sMs d n many s).bind (fin n)) ∧ FaM σ σ1 := by
  intro c
  induction c with
  | zero =>
    intro i fuel σ o hi hf hS
    obtain ⟨fuel, rfl⟩ : ∃ x, fuel = x + 1 := ⟨fuel - 1, by omega⟩
    obtain ⟨σ1, hF, hS1, hFr⟩ := m_140 hmany hS
    refine ⟨σ1, ?_, hS1, hFr⟩
    simp (disch := omega) only [F_Mo_scan_53, n_le, if_pos, hF, ite_true, ite_false, if_true, if_false, Bool.false_eq_true, and_self, and_true, true_and, and_false, false_and]
  | succ c ih =>
    intro i fuel σ o hi hf hS
    obtain ⟨fuel, rfl⟩ : ∃ x, fuel = x + 1 := ⟨fuel - 1, by omega⟩
    cases o with
    | none =>
      have hb : zb (σ.1 0 3) = true := hS.2.2
      obtain ⟨σ1, hF, hS1, hFr⟩ := m_140 hmany hS
      refine ⟨σ1, ?_, hS1, hFr⟩
      simp (disch := omega) only [F_Mo_scan_53, n_le, if_neg, hb, if_pos, hF, ite_true, ite_false, if_true, if_false, Bool.false_eq_true, and_self, and_true, true_and, and_false, false_and]
    | some s =>
      have hb : zb (σ.1 0 3) = false := hS.2.2.1
      obtain ⟨v, σ1, hF, h1, h2, hQ, hM⟩ := m_btw (lo := 0) (hi := 4) hS (by omega) (by omega)
      have hS2 := st1 (a := 2) (i := i) hM (by omega) (by omega)
      obtain ⟨σ2, hF2, hS3, hFr⟩ := m_88 (rec53 := F_Mo_scan_53 fuel) (cl := i) (cnt := v) (by omega) (by omega) hmany (fun σ o a => ih (i + 1) fuel σ o (by omega) (by omega) a) v 0 5000 _ _ (by omega) (by omega) hS2
      refine ⟨σ2, ?_, ?_, FaM_trans (QtM_FaM hQ) (FaM_trans (FaM_if (by omega) (by omega)) hFr)⟩
      · cases K with
        | true =>
          simp only [if_true] at hF2
          simp (disch := omega) only [F_Mo_scan_53, F_Mo_scan_85, n_le, if_neg, hb, if_pos, hF, lit32, n_cl, n_nl0, false_or, cm_5, stl_e, hF2, Bool.false_eq_true, ite_true, ite_false, if_true, if_false, Bool.false_eq_true, and_self, and_true, true_and, and_false, false_and]
        | false =>
          simp only [Bool.false_eq_true, if_false] at hF2
          simp (disch := omega) only [F_Mo_scan_53, F_Mo_scan_85, n_le, if_neg, hb, hF, lit32, hF2, Bool.false_eq_true, ite_true, ite_false, if_true, if_false, Bool.false_eq_true, and_self, and_true, true_and, and_false, false_and]
      · have e := ob_eq (o := (some s : Option PZ).bind (rs d n (rng 0 4) 2 i)) (f := fun s => (lps (fun f => rs d n (tyP many false false) 3 (4 * i + f)) v 0 s).bind fun s => (lps (sF d n many) c (i + 1) s).bind fun s => (sMs d n many s).bind (fin n)) (g := fun s => (lps (fun f => rs d n (tyP many false false) 3 (4 * i + f)) (s.1 2 i) 0 s).bind fun s => (lps (sF d n many) c (i + 1) s).bind fun s => (sMs d n many s).bind (fin n)) (fun s hs => by rw [cnt_eqM hM s hs])
        rw [e, obb] at hS3
        have e2 : (fun s => (lps (sF d n many) (c + 1) i s).bind fun s => (sMs d n many s).bind (fin n)) = (fun s => (rs d n (rng 0 4) 2 i s).bind fun s => (lps (fun f => rs d n (tyP many false false) 3 (4 * i + f)) (s.1 2 i) 0 s).bind fun s => (lps (sF d n many) c (i + 1) s).bind fun s => (sMs d n many s).bind (fin n)) := by
          funext s
          show ((sF d n many i s).bind _).bind _ = _
          unfold sF
          simp only [obb]
        rw [e2]
        exact hS3
/-- the scan -/
theorem m_scan {d : Nat → Nat} {n : Nat} {K : Bool} {im0 : Im} {σ : SG} (hD : Drf d n σ) (hR : RepM σ im0) :
    ∃ σ1, F_Mo_scan 0 K σ = some σ1 ∧ StM d n K im0 σ1 (sAll d n (im0, 0)) ∧ FaM σ σ1 := by
  have hq0 : QtM σ (setI (setI σ 0 2 (Int32.ofNat 0)) 0 3 (bz false)) := QtM_trans (QtM_set (Or.inl rfl)) (QtM_set (Or.inr rfl))
  have hS0 : StM d n K im0 (setI (setI σ 0 2 (Int32.ofNat 0)) 0 3 (bz false)) (some (im0, 0)) := by
    refine ⟨Drf_q hD hq0, fun _ => RepM_q hR hq0, ?_, ?_, by simp, fun _ => RepM_q hR hq0⟩
    · rw [rI, if_pos (by omega), zbz]
    · rw [rI, if_neg (by omega), rI, if_pos (by omega)]
  obtain ⟨v0, σ1, hF1, hv0, hQ1, hM1⟩ := m_next hS0
  have hS1 : StM d n K im0 (setI σ1 0 3 (bz (!decide (v0 = 77)))) ((some (im0, 0) : Option PZ).bind (rs d n (rng 77 77) 1 0)) := by
    rw [rs_g]
    by_cases c : 0 < n
    · have e1 : (some (im0, 0) : Option PZ).bind (nxs d n (rng 0 255)) = some (d 0, (im0, 0 + 1)) := by
        show nxs d n (rng 0 255) (im0, 0) = _
        unfold nxs
        rw [if_pos ⟨c, r255 _ (hD.2.2 0 c).2⟩]
      have hb : zb (σ1.1 0 3) = false := by
        rw [e1] at hM1
        exact hM1.2.2.1
      obtain ⟨g1, g2⟩ := MdM_sub (Q := rng 77 77) hM1 r255 hb
      by_cases c7 : v0 = 77
      · obtain ⟨q, e, h⟩ := g1 (decide_eq_true (by omega))
        rw [e, decide_eq_true c7]
        exact stM_g (g := fun im w => u2 im 1 0 w) (MdM_f h) (MdM_f h).2.1 (MdM_f h).1 rfl rfl (fun _ im z => RepM_ud z (by omega))
      · rw [g2 (fun z => by have z' := of_decide_eq_true z; omega), decide_eq_false c7]
        exact fgt (MdM_t (v := 0) hM1.1 hM1.2.1)
    · have e1 : (some (im0, 0) : Option PZ).bind (nxs d n (rng 77 77)) = none := by
        show nxs d n (rng 77 77) (im0, 0) = _
        unfold nxs
        rw [if_neg (fun z => c z.1)]
      obtain ⟨σ9, h9⟩ := m_next_end hS0 c
      rw [hF1] at h9
      have h8 : Int32.ofNat v0 = Int32.ofNat 0 := by
        injection h9 with h9
        exact congrArg Prod.fst h9
      have h7 : v0 = 0 := (n_eq (by omega) (by omega)).mp h8
      rw [e1, decide_eq_false (by omega : ¬ v0 = 77)]
      exact fgt (MdM_t (v := 0) hM1.1 hM1.2.1)
  obtain ⟨v, σ2, hF2, h1, h2, hQ2, hM2⟩ := m_btw (lo := 0) (hi := 4) hS1 (by omega) (by omega)
  have hS2 : StM d n K im0 (setI σ2 0 4 (if K = true then Int32.ofNat v else σ2.1 0 4)) (((some (im0, 0) : Option PZ).bind (rs d n (rng 77 77) 1 0)).bind (rs d n (rng 0 4) 0 0)) := by
    rw [rs_g d n (rng 0 4)]
    cases K with
    | true => exact stM_g (g := fun im w => u2 im 0 0 w) hM2 (fun z => by cases z) (Drf_setI hM2.1 (by omega)) (by rw [rI, if_neg (by omega)]) (by rw [rI, if_neg (by omega)]) (fun _ im z => RepM_u4 z (by omega))
    | false => exact stM_g (g := fun im w => u2 im 0 0 w) hM2 (fun z => RepM_same (hM2.2.1 z)) (Drf_setI hM2.1 (by omega)) (by rw [rI, if_neg (by omega)]) (by rw [rI, if_neg (by omega)]) (fun z => by cases z)
  obtain ⟨σ3, hF3, hS3, hFr⟩ := m_53 (many := v) (by omega) v 0 5000 _ _ (by omega) (by omega) hS2
  refine ⟨σ3, ?_, ?_, FaM_trans (QtM_FaM hq0) (FaM_trans (QtM_FaM hQ1) (FaM_trans (QtM_FaM (QtM_set (Or.inr rfl))) (FaM_trans (QtM_FaM hQ2) (FaM_trans (FaM_setI (by omega)) hFr))))⟩
  · have hF25 : F_Mo_scan_25 0 K 0 (!decide (v0 = 77)) σ1 = some σ3 := by
      cases K with
      | true =>
        simp only [if_true] at hF3
        simp (disch := omega) only [F_Mo_scan_25, F_Mo_scan_48, stl_e, lit32, hF2, if_pos, hF3, ite_true, ite_false, if_true, if_false, Bool.false_eq_true, and_self, and_true, true_and, and_false, false_and]
      | false =>
        simp only [Bool.false_eq_true, if_false] at hF3
        simp (disch := omega) only [F_Mo_scan_25, F_Mo_scan_48, stl_e, lit32, hF2, if_neg, hF3, Bool.false_eq_true, ite_true, ite_false, if_true, if_false, Bool.false_eq_true, and_self, and_true, true_and, and_false, false_and]
    by_cases c : v0 = 77
    · rw [decide_eq_true c] at hF25
      simp (disch := omega) only [F_Mo_scan, stl_e, lit32, hF1, n_eq, if_pos, ite_true, ite_false, if_true, if_false, Bool.false_eq_true, and_self, and_true, true_and, and_false, false_and]
      exact hF25
    · rw [decide_eq_false c] at hF25
      simp (disch := omega) only [F_Mo_scan, stl_e, lit32, hF1, n_eq, if_neg, ite_true, ite_false, if_true, if_false, Bool.false_eq_true, and_self, and_true, true_and, and_false, false_and]
      exact hF25
  · have e := ob_eq (o := ((some (im0, 0) : Option PZ).bind (rs d n (rng 77 77) 1 0)).bind (rs d n (rng 0 4) 0 0)) (f := fun s => (lps (sF d n v) v 0 s).bind fun s => (sMs d n v s).bind (fin n)) (g := fun s0 => (lps (sF d n (s0.1 0 0)) (s0.1 0 0) 0 s0).bind fun s => (sMs d n (s0.1 0 0) s).bind (fin n)) (fun s hs => by rw [cnt_eqM hM2 s hs])
    rw [e, obb] at hS3
    have e2 : sAll d n (im0, 0) = ((some (im0, 0) : Option PZ).bind (rs d n (rng 77 77) 1 0)).bind fun s => (rs d n (rng 0 4) 0 0 s).bind fun s0 => (lps (sF d n (s0.1 0 0)) (s0.1 0 0) 0 s0).bind fun s => (sMs d n (s0.1 0 0) s).bind (fin n) := by
      show ((rs d n (rng 77 77) 1 0 (im0, 0)).bind (sCl d n)).bind (fin n) = (rs d n (rng 77 77) 1 0 (im0, 0)).bind _
      rw [obb]
      congr 1
      funext s
      unfold sCl
      simp only [obb]
    rw [e2]
    exact hS3
