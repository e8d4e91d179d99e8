/-! A method becomes active. -/
def AcC (IA A k : Nat) (σ s : SG) : Prop := (∀ x g, s.1 x g = if x = 123 ∧ g = 11 then Int32.ofNat (A + 1) else if x = 125 + 6 * A ∧ g = 2 then Int32.ofNat k else if x = 125 + 6 * A ∧ (g = 3 ∨ g = 4) then Int32.ofNat 0 else σ.1 x g) ∧ (∀ x g, s.2.2.1 x g = if x = 125 + 6 * A ∧ g = 1 then IA + 4 + 9 * k else σ.2.2.1 x g) ∧ (∀ x g, x ≠ 128 + 6 * A → s.2.2.2.1 x g = σ.2.2.2.1 x g) ∧ (∀ x g, ¬ (x = 173 ∧ 4 * A ≤ g ∧ g < 4 * A + 4) → s.2.2.2.2 x g = σ.2.2.2.2 x g) ∧ ∀ g, 4 * A ≤ g → g < 4 * A + 4 → s.2.2.2.2 173 g = 0
theorem fb_l {A : Nat} (hA : A < 8) : ∀ c i fuel σ, i + c = 3 → c < fuel → ∃ s, F_Fr_begin_22 fuel (125 + 6 * A) (Int32.ofNat i) σ = some s ∧ s.1 = σ.1 ∧ s.2.2.1 = σ.2.2.1 ∧ s.2.2.2.2 = σ.2.2.2.2 ∧ ∀ x g, x ≠ 128 + 6 * A → s.2.2.2.1 x g = σ.2.2.2.1 x g := by
  obtain ⟨c1, c2, c3, c4, c5, c6, c7⟩ := cF hA
  intro c
  induction c with
  | zero =>
    intro i fuel σ hi hf
    obtain ⟨fuel, rfl⟩ : ∃ x, fuel = x + 1 := ⟨fuel - 1, by omega⟩
    refine ⟨σ, ?_, rfl, rfl, rfl, fun _ _ _ => rfl⟩
    simp (disch := omega) only [F_Fr_begin_22, lit32, n_le, if_pos, ite_true, ite_false, if_true, if_false, Bool.false_eq_true, and_self, and_true, true_and, and_false, false_and]
  | succ c ih =>
    intro i fuel σ hi hf
    obtain ⟨fuel, rfl⟩ : ∃ x, fuel = x + 1 := ⟨fuel - 1, by omega⟩
    obtain ⟨s, g1, g2, g3, g4, g5⟩ := ih (i + 1) fuel (setA σ (128 + 6 * A) i (Int32.ofNat 0)) (by omega) (by omega)
    refine ⟨s, ?_, g2, g3, g4, fun x g hx => by rw [g5 x g hx, rA, if_neg (by omega)]⟩
    rw [← g1]
    simp (disch := omega) only [F_Fr_begin_22, lit32, n_le, if_neg, n_nl0, n_cl, false_or, c4, stl_e, n_add, ite_true, ite_false, if_true, if_false, Bool.false_eq_true, and_self, and_true, true_and, and_false, false_and]
theorem ac_l {A : Nat} (hA : A < 8) : ∀ c i fuel σ, i + c = 4 → c < fuel → σ.1 (125 + 6 * A) 0 = Int32.ofNat (4 * A) → ∃ s, F_Ru_activate_51 fuel 123 (some (125 + 6 * A)) (Int32.ofNat i) σ = some (some (125 + 6 * A), s) ∧ s.1 = σ.1 ∧ s.2.2.1 = σ.2.2.1 ∧ s.2.2.2.1 = σ.2.2.2.1 ∧ (∀ x g, ¬ (x = 173 ∧ 4 * A + i ≤ g ∧ g < 4 * A + 4) → s.2.2.2.2 x g = σ.2.2.2.2 x g) ∧ ∀ g, 4 * A + i ≤ g → g < 4 * A + 4 → s.2.2.2.2 173 g = 0 := by
  have hFr := (cF hA).1
  intro c
  induction c with
  | zero =>
    intro i fuel σ hi hf h0
    obtain ⟨fuel, rfl⟩ : ∃ x, fuel = x + 1 := ⟨fuel - 1, by omega⟩
    refine ⟨σ, ?_, rfl, rfl, rfl, fun _ _ _ => rfl, fun g h1 h2 => by omega⟩
    simp (disch := omega) only [F_Ru_activate_51, lit32, n_le, if_pos, ite_true, ite_false, if_true, if_false, Bool.false_eq_true, and_self, and_true, true_and, and_false, false_and]
  | succ c ih =>
    intro i fuel σ hi hf h0
    obtain ⟨fuel, rfl⟩ : ∃ x, fuel = x + 1 := ⟨fuel - 1, by omega⟩
    obtain ⟨s, g1, g2, g3, g4, g5, g6⟩ := ih (i + 1) fuel (setL σ 173 (4 * A + i) 0) (by omega) (by omega) h0
    refine ⟨s, ?_, g2, g3, g4, fun x g hx => by rw [g5 x g (by omega), rL, if_neg (by omega)], fun g h1 h2 => ?_⟩
    · have hsc := ru_setCell (σ := σ) (x := 4 * A + i) (v := 0) (by omega)
      rw [← g1]
      simp (disch := omega) only [F_Ru_activate_51, lit32, n_le, if_neg, hFr, if_pos, h0, n_add, hsc, ite_true, ite_false, if_true, if_false, Bool.false_eq_true, and_self, and_true, true_and, and_false, false_and]
    · by_cases c : g = 4 * A + i
      · rw [g5 _ _ (by omega), rL, if_pos ⟨rfl, c⟩]
      · exact g6 g (by omega) h2
theorem ru_act {im : Im} {IA A k : Nat} {σ : SG} (h : ImC σ IA im) (hA : A < 8) (hk : k < im 0 1) (h11 : σ.1 123 11 = Int32.ofNat A) (hP : σ.2.2.1 123 0 = IA) (h0 : σ.1 (125 + 6 * A) 0 = Int32.ofNat (4 * A)) : ∃ s, F_Ru_activate 123 (Int32.ofNat k) σ = some (some (125 + 6 * A), s) ∧ AcC IA A k σ s := by
  have hIA := h.1
  have hI1 := h.2.1
  have hFr := (cF hA).1
  have hMc := d_Mc h hk
  have h6 := (IC_nm h).2.2
  have hI : ImC (setI σ 123 11 (Int32.ofNat (A + 1))) IA im := ImC_congr h (fun x f _ _ _ => by rw [rI, if_neg (by omega)]) (fun x g _ _ _ => rfl)
  have hl := ru_latest (σ := setI σ 123 11 (Int32.ofNat (A + 1))) (A := A + 1) (by rw [rI, if_pos ⟨rfl, rfl⟩]) (by omega) (by omega)
  rw [Nat.add_sub_cancel] at hl
  have hme := a_meth (k := k) hI (by omega)
  rw [if_pos hk] at hme
  have hP' : (setI σ 123 11 (Int32.ofNat (A + 1))).2.2.1 123 0 = IA := hP
  obtain ⟨s1, g1, g2, g3, g4, g5⟩ := fb_l hA 3 0 5000 (setI (setI (setI (setP (setI σ 123 11 (Int32.ofNat (A + 1))) (125 + 6 * A) 1 (IA + 4 + 9 * k)) (125 + 6 * A) 2 (Int32.ofNat k)) (125 + 6 * A) 3 (Int32.ofNat 0)) (125 + 6 * A) 4 (Int32.ofNat 0)) (by omega) (by omega)
  obtain ⟨s2, k1, k2, k3, k4, k5, k6⟩ := ac_l hA 4 0 5000 s1 (by omega) (by omega) (by
    rw [g2, rI, if_neg (by omega), rI, if_neg (by omega), rI, if_neg (by omega)]
    show (setI σ 123 11 (Int32.ofNat (A + 1))).1 _ _ = _
    rw [rI, if_neg (by omega)]; exact h0)
  refine ⟨s2, ?_, fun x g => ?_, fun x g => ?_, fun x g hx => ?_, fun x g hx => ?_, fun g h1 h2 => k6 g (by omega) h2⟩
  · simp (disch := omega) only [F_Ru_activate, F_Ru_activate_21, F_Ru_activate_48, lit32, h11, n_le, if_neg, n_add, stl_e, hl, hP', hI1, if_pos, hme, hMc, hFr, F_Fr_begin, g1, k1, ite_true, ite_false, if_true, if_false, Bool.false_eq_true, and_self, and_true, true_and, and_false, false_and]
  · rw [k2, g2, rI, rI, rI]
    show (if x = 125 + 6 * A ∧ g = 4 then _ else if x = 125 + 6 * A ∧ g = 3 then _ else if x = 125 + 6 * A ∧ g = 2 then _ else (setI σ 123 11 (Int32.ofNat (A + 1))).1 x g) = _
    rw [rI]
    by_cases c1 : x = 123 ∧ g = 11
    · have n2 : ¬ (x = 125 + 6 * A ∧ g = 2) := by omega
      have n3 : ¬ (x = 125 + 6 * A ∧ g = 3) := by omega
      have n4 : ¬ (x = 125 + 6 * A ∧ g = 4) := by omega
      simp only [if_neg n2, if_neg n3, if_neg n4, if_pos c1]
    · by_cases c2 : x = 125 + 6 * A ∧ g = 2
      · have n3 : ¬ (x = 125 + 6 * A ∧ g = 3) := by omega
        have n4 : ¬ (x = 125 + 6 * A ∧ g = 4) := by omega
        simp only [if_neg c1, if_pos c2, if_neg n3, if_neg n4]
      · by_cases c4 : x = 125 + 6 * A ∧ g = 4
        · have n34 : x = 125 + 6 * A ∧ (g = 3 ∨ g = 4) := by omega
          simp only [if_neg c1, if_neg c2, if_pos c4, if_pos n34]
        · by_cases c3 : x = 125 + 6 * A ∧ g = 3
          · have n34 : x = 125 + 6 * A ∧ (g = 3 ∨ g = 4) := by omega
            simp only [if_neg c1, if_neg c2, if_neg c4, if_pos c3, if_pos n34]
          · have n34 : ¬ (x = 125 + 6 * A ∧ (g = 3 ∨ g = 4)) := by omega
            simp only [if_neg c1, if_neg c2, if_neg c4, if_neg c3, if_neg n34]
  · rw [k3, g3]
    show (setP (setI σ 123 11 (Int32.ofNat (A + 1))) (125 + 6 * A) 1 (IA + 4 + 9 * k)).2.2.1 x g = _
    rw [rP]
    rfl
  · rw [k4, g5 x g hx]
    rfl
  · rw [k5 x g (by omega), g4]
    rfl
/-- the reference -/
def EnM (im : Im) (A k : Nat) (σ s : SG) : Prop := (∀ g, s.1 0 g = if g = 31 then Int32.ofNat (A + 1) else σ.1 0 g) ∧ s.2.2.2.2 = σ.2.2.2.2 ∧ (∀ x g, ¬ ((20 ≤ x ∧ x ≤ 22) ∧ g = A) → ¬ ((x = 25 ∨ x = 26) ∧ 4 * A ≤ g ∧ g < 4 * A + 4) → ¬ (x = 28 ∧ 3 * A ≤ g ∧ g < 3 * A + 3) → s.2.2.2.1 x g = σ.2.2.2.1 x g) ∧ (s.2.2.2.1 20 A = Int32.ofNat k ∧ s.2.2.2.1 21 A = Int32.ofNat 0 ∧ s.2.2.2.1 22 A = Int32.ofNat 0) ∧ ∀ i, i < im 7 k → s.2.2.2.1 25 (4 * A + i) = (if 3 < im 8 (4 * k + i) then -Int32.ofNat 1 else Int32.ofNat 0) ∧ s.2.2.2.1 26 (4 * A + i) = Int32.ofNat 0
theorem en_103 {A : Nat} (hA : A < 8) : ∀ c i fuel σ, i + c = 3 → c < fuel → ∃ s, F_Mo_enter_103 fuel 0 (Int32.ofNat A) (Int32.ofNat i) σ = some s ∧ s.1 = σ.1 ∧ s.2.2.2.2 = σ.2.2.2.2 ∧ ∀ x g, ¬ (x = 28 ∧ 3 * A ≤ g ∧ g < 3 * A + 3) → s.2.2.2.1 x g = σ.2.2.2.1 x g := by
  intro c
  induction c with
  | zero =>
    intro i fuel σ hi hf
    obtain ⟨fuel, rfl⟩ : ∃ x, fuel = x + 1 := ⟨fuel - 1, by omega⟩
    refine ⟨σ, ?_, rfl, rfl, fun _ _ _ => rfl⟩
    simp (disch := omega) only [F_Mo_enter_103, lit32, n_le, if_pos, ite_true, ite_false, if_true, if_false, Bool.false_eq_true, and_self, and_true, true_and, and_false, false_and]
  | succ c ih =>
    intro i fuel σ hi hf
    obtain ⟨fuel, rfl⟩ : ∃ x, fuel = x + 1 := ⟨fuel - 1, by omega⟩
    obtain ⟨s, g1, g2, g3, g4⟩ := ih (i + 1) fuel (setA σ 28 (3 * A + i) (Int32.ofNat 0)) (by omega) (by omega)
    refine ⟨s, ?_, g2, g3, fun x g hx => by rw [g4 x g hx, rA, if_neg (by omega)]⟩
    rw [← g1]
    simp (disch := omega) only [F_Mo_enter_103, lit32, n_le, if_neg, n_nl0, n_cl, false_or, n_mul, n_add, cm_40, stl_e, ite_true, ite_false, if_true, if_false, Bool.false_eq_true, and_self, and_true, true_and, and_false, false_and]
theorem en_38z {A k i fuel : Nat} {σ s : SG} (hi : i + 0 = 4) (g1 : F_Mo_enter_103 5000 0 (Int32.ofNat A) (Int32.ofNat 0) σ = some s) : F_Mo_enter_38 (fuel + 1) 0 (Int32.ofNat k) (Int32.ofNat A) (Int32.ofNat i) σ = some s := by
  simp (disch := omega) only [↓reduceIte, Nat.reduceEqDiff, F_Mo_enter_38, lit32, n_le, if_pos, g1, ite_true, ite_false, if_true, if_false, Bool.false_eq_true, and_self, and_true, true_and, and_false, false_and]
theorem en_38 {im : Im} {A k : Nat} (hw : WfI im) (hk : k < im 0 1) (hA : A < 8) : ∀ c i fuel σ, i + c = 4 → c < fuel → RepM σ im → ∃ s, F_Mo_enter_38 fuel 0 (Int32.ofNat k) (Int32.ofNat A) (Int32.ofNat i) σ = some s ∧ s.1 = σ.1 ∧ s.2.2.2.2 = σ.2.2.2.2 ∧ (∀ x g, ¬ ((x = 25 ∨ x = 26) ∧ 4 * A + i ≤ g ∧ g < 4 * A + 4) → ¬ (x = 28 ∧ 3 * A ≤ g ∧ g < 3 * A + 3) → s.2.2.2.1 x g = σ.2.2.2.1 x g) ∧ ∀ j, i ≤ j → j < im 7 k → s.2.2.2.1 25 (4 * A + j) = (if 3 < im 8 (4 * k + j) then -Int32.ofNat 1 else Int32.ofNat 0) ∧ s.2.2.2.1 26 (4 * A + j) = Int32.ofNat 0 := by
  have w := wf_m hw hk
  have h7 := w.2.2.2.2.1
  have h6 := w.1
  intro c
  induction c with
  | zero =>
    intro i fuel σ hi hf hM
    obtain ⟨fuel, rfl⟩ : ∃ x, fuel = x + 1 := ⟨fuel - 1, by omega⟩
    obtain ⟨s, g1, g2, g3, g4⟩ := en_103 hA 3 0 5000 σ (by omega) (by omega)
    exact ⟨s, en_38z hi g1, g2, g3, fun x g _ hx => g4 x g hx, fun j j1 j2 => by omega⟩
  | succ c ih =>
    intro i fuel σ hi hf hM
    obtain ⟨fuel, rfl⟩ : ∃ x, fuel = x + 1 := ⟨fuel - 1, by omega⟩
    have m7 := hM.2.2.2 7 k (by omega) (by omega)
    have m8 := hM.2.2.2 8 (4 * k + i) (by omega) (by omega)
    have h256 := hM.1 8 (4 * k + i)
    have hgo : ∀ v : Int32, ∃ s, F_Mo_enter_83 (F_Mo_enter_38 fuel) 0 (Int32.ofNat k) (Int32.ofNat A) (Int32.ofNat i) 25 (Int32.ofNat (4 * A + i)) v σ = some s ∧ s.1 = σ.1 ∧ s.2.2.2.2 = σ.2.2.2.2 ∧ (∀ x g, ¬ ((x = 25 ∨ x = 26) ∧ 4 * A + i ≤ g ∧ g < 4 * A + 4) → ¬ (x = 28 ∧ 3 * A ≤ g ∧ g < 3 * A + 3) → s.2.2.2.1 x g = σ.2.2.2.1 x g) ∧ (s.2.2.2.1 25 (4 * A + i) = v ∧ s.2.2.2.1 26 (4 * A + i) = Int32.ofNat 0) ∧ ∀ j, i + 1 ≤ j → j < im 7 k → s.2.2.2.1 25 (4 * A + j) = (if 3 < im 8 (4 * k + j) then -Int32.ofNat 1 else Int32.ofNat 0) ∧ s.2.2.2.1 26 (4 * A + j) = Int32.ofNat 0 := fun v => by
      have hM' : RepM (setA (setA σ 25 (4 * A + i) v) 26 (4 * A + i) (Int32.ofNat 0)) im := ⟨hM.1, hM.2.1, hM.2.2.1, fun a g p q => by rw [rA, if_neg (by omega), rA, if_neg (by omega)]; exact hM.2.2.2 a g p q⟩
      obtain ⟨s, g1, g2, g3, g4, g5⟩ := ih (i + 1) fuel _ (by omega) (by omega) hM'
      refine ⟨s, ?_, g2, g3, fun x g h1 h2 => by rw [g4 x g (by omega) h2, rA, if_neg (by omega), rA, if_neg (by omega)], ⟨?_, ?_⟩, g5⟩
      · rw [← g1]
        simp (disch := omega) only [F_Mo_enter_83, lit32, n_nl0, n_cl, false_or, if_neg, stl_e, n_mul, n_add, cm_38, ite_true, ite_false, if_true, if_false, Bool.false_eq_true, and_self, and_true, true_and, and_false, false_and]
      · rw [g4 _ _ (by omega) (by omega), rA, if_neg (by omega), rA, if_pos ⟨rfl, rfl⟩]
      · rw [g4 _ _ (by omega) (by omega), rA, if_pos ⟨rfl, rfl⟩]
    by_cases c7 : i < im 7 k
    · have hir := mo_isRef h256 σ
      by_cases c3 : 3 < im 8 (4 * k + i)
      · obtain ⟨s, g1, g2, g3, g4, g5, g6⟩ := hgo (-Int32.ofNat 1)
        rw [decide_eq_true c3] at hir
        refine ⟨s, ?_, g2, g3, g4, fun j j1 j2 => ?_⟩
        · rw [← g1]
          simp (disch := omega) only [↓reduceIte, Nat.reduceEqDiff, F_Mo_enter_38, F_Mo_enter_82, lit32, n_le, if_neg, if_pos, n_nl0, n_cl, false_or, cm_11, m7, n_mul, n_add, cm_12, m8, hir, cm_37, ite_true, ite_false, if_true, if_false, Bool.false_eq_true, and_self, and_true, true_and, and_false, false_and]
        · by_cases cj : j = i
          · rw [cj, if_pos c3]; exact g5
          · exact g6 j (by omega) j2
      · obtain ⟨s, g1, g2, g3, g4, g5, g6⟩ := hgo (Int32.ofNat 0)
        rw [decide_eq_false c3] at hir
        refine ⟨s, ?_, g2, g3, g4, fun j j1 j2 => ?_⟩
        · rw [← g1]
          simp (disch := omega) only [↓reduceIte, Nat.reduceEqDiff, F_Mo_enter_38, F_Mo_enter_82, lit32, n_le, if_neg, if_pos, n_nl0, n_cl, false_or, cm_11, m7, n_mul, n_add, cm_12, m8, hir, cm_37, ite_true, ite_false, if_true, if_false, Bool.false_eq_true, and_self, and_true, true_and, and_false, false_and]
        · by_cases cj : j = i
          · rw [cj, if_neg c3]; exact g5
          · exact g6 j (by omega) j2
    · obtain ⟨s, g1, g2, g3, g4, g5, g6⟩ := hgo (Int32.ofNat 0)
      refine ⟨s, ?_, g2, g3, g4, fun j j1 j2 => by omega⟩
      rw [← g1]
      simp (disch := omega) only [↓reduceIte, Nat.reduceEqDiff, F_Mo_enter_38, F_Mo_enter_82, lit32, n_le, if_neg, if_pos, n_nl0, n_cl, false_or, cm_11, m7, n_mul, n_add, cm_37, ite_true, ite_false, if_true, if_false, Bool.false_eq_true, and_self, and_true, true_and, and_false, false_and]
theorem mo_enter {im : Im} {A k : Nat} {σ : SG} (hw : WfI im) (hk : k < im 0 1) (hA : A < 8) (hM : RepM σ im) (h31 : σ.1 0 31 = Int32.ofNat A) : ∃ s, F_Mo_enter 0 (Int32.ofNat k) σ = some s ∧ EnM im A k σ s := by
  have hM' : RepM (setA (setA (setA (setI σ 0 31 (Int32.ofNat (A + 1))) 20 A (Int32.ofNat k)) 21 A (Int32.ofNat 0)) 22 A (Int32.ofNat 0)) im := ⟨hM.1, by
    show (setI σ 0 31 (Int32.ofNat (A + 1))).1 0 4 = _
    rw [rI, if_neg (by omega)]; exact hM.2.1, by
    show (setI σ 0 31 (Int32.ofNat (A + 1))).1 0 7 = _
    rw [rI, if_neg (by omega)]; exact hM.2.2.1, fun a g p q => by rw [rA, if_neg (by omega), rA, if_neg (by omega), rA, if_neg (by omega)]; exact hM.2.2.2 a g p q⟩
  obtain ⟨s, g1, g2, g3, g4, g5⟩ := en_38 hw hk hA 4 0 5000 _ (by omega) (by omega) hM'
  refine ⟨s, ?_, fun g => ?_, g3, fun x g h1 h2 h3 => ?_, ⟨?_, ?_, ?_⟩, fun i hi => g5 i (Nat.zero_le _) hi⟩
  · simp (disch := omega) only [F_Mo_enter, lit32, h31, n_add, stl_e, n_nl0, n_cl, false_or, if_neg, cm_32, cm_33, cm_34, g1, ite_true, ite_false, if_true, if_false, Bool.false_eq_true, and_self, and_true, true_and, and_false, false_and]
  · rw [g2]
    show (setI σ 0 31 (Int32.ofNat (A + 1))).1 0 g = _
    rw [rI]
    by_cases c : g = 31
    · rw [if_pos ⟨rfl, c⟩, if_pos c]
    · rw [if_neg (by omega), if_neg c]
  · rw [g4 x g (by omega) h3, rA, if_neg (by omega), rA, if_neg (by omega), rA, if_neg (by omega)]
    rfl
  · rw [g4 _ _ (by omega) (by omega), rA, if_neg (by omega), rA, if_neg (by omega), rA, if_pos ⟨rfl, rfl⟩]
  · rw [g4 _ _ (by omega) (by omega), rA, if_neg (by omega), rA, if_pos ⟨rfl, rfl⟩]
  · rw [g4 _ _ (by omega) (by omega), rA, if_pos ⟨rfl, rfl⟩]
