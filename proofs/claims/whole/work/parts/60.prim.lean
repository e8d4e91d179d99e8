/-! The run's small steps, in class and reference. -/
theorem cF {f : Nat} (hf : f < 8) : isC SHc (125 + 6 * f) 0 = true ∧ cref SHc (125 + 6 * f) 5 = 126 + 6 * f ∧ cref SHc (125 + 6 * f) 6 = 127 + 6 * f ∧ cref SHc (125 + 6 * f) 7 = 128 + 6 * f ∧ cref SHc (125 + 6 * f) 8 = 129 + 6 * f ∧ cref SHc (125 + 6 * f) 9 = 130 + 6 * f ∧ relem SHc 124 f = 125 + 6 * f := by
  have h : ∀ f, f < 8 → isC SHc (125 + 6 * f) 0 = true ∧ cref SHc (125 + 6 * f) 5 = 126 + 6 * f ∧ cref SHc (125 + 6 * f) 6 = 127 + 6 * f ∧ cref SHc (125 + 6 * f) 7 = 128 + 6 * f ∧ cref SHc (125 + 6 * f) 8 = 129 + 6 * f ∧ cref SHc (125 + 6 * f) 9 = 130 + 6 * f ∧ relem SHc 124 f = 125 + 6 * f := by decide +kernel
  exact h f hf
theorem cR1 : cref SHc 123 1 = 124 := by decide
theorem cR2 : cref SHc 123 2 = 173 := by decide
theorem cR3 : cref SHc 123 3 = 174 := by decide
theorem cR4 : cref SHc 123 4 = 175 := by decide
theorem fr_push {σ : SG} {f h : Nat} {v : Int64} (hf : f < 8) (hh : σ.1 (125 + 6 * f) 4 = Int32.ofNat h) (h8 : h < 8) : F_Fr_push (125 + 6 * f) v σ = some (setI (setL σ (126 + 6 * f) h v) (125 + 6 * f) 4 (Int32.ofNat (h + 1))) := by
  obtain ⟨c1, c2, c3, c4, c5, c6, c7⟩ := cF hf
  simp (disch := omega) only [F_Fr_push, F_Fr_push_36, hh, lit32, n_nl0, n_le, n_cl, false_or, if_neg, c2, stl_e, rL1, n_add, ite_true, ite_false, if_true, if_false, Bool.false_eq_true, and_self, and_true, true_and, and_false, false_and]
theorem fr_pop {σ : SG} {f h : Nat} (hf : f < 8) (hh : σ.1 (125 + 6 * f) 4 = Int32.ofNat (h + 1)) (h8 : h < 8) : F_Fr_pop (125 + 6 * f) σ = some (σ.2.2.2.2 (126 + 6 * f) h, setI σ (125 + 6 * f) 4 (Int32.ofNat h)) := by
  obtain ⟨c1, c2, c3, c4, c5, c6, c7⟩ := cF hf
  simp (disch := omega) only [F_Fr_pop, hh, lit32, n_le, if_neg, if_pos, n_sub, Nat.add_sub_cancel, stl_e, rI, rI2, n_nl0, n_cl, false_or, c2, ite_true, ite_false, if_true, if_false, Bool.false_eq_true, and_self, and_true, true_and, and_false, false_and]
theorem fr_popInt {σ : SG} {f h : Nat} (hf : f < 8) (hh : σ.1 (125 + 6 * f) 4 = Int32.ofNat (h + 1)) (h8 : h < 8) : F_Fr_popInt (125 + 6 * f) σ = some ((σ.2.2.2.2 (126 + 6 * f) h).toInt32, setI σ (125 + 6 * f) 4 (Int32.ofNat h)) := by
  simp (disch := omega) only [F_Fr_popInt, fr_pop hf hh h8, ite_true, ite_false, if_true, if_false, Bool.false_eq_true, and_self, and_true, true_and, and_false, false_and]
theorem fr_val {σ : SG} {f h i : Nat} (hf : f < 8) (hh : σ.1 (125 + 6 * f) 4 = Int32.ofNat h) (h8 : h ≤ 8) (hi : i < h) : F_Fr_valueAt (125 + 6 * f) (Int32.ofNat i) σ = some (σ.2.2.2.2 (126 + 6 * f) i, σ) := by
  obtain ⟨c1, c2, c3, c4, c5, c6, c7⟩ := cF hf
  simp (disch := omega) only [F_Fr_valueAt, F_Fr_valueAt_28, hh, lit32, n_nl0, n_le, n_lt, n_cl, false_or, if_neg, if_pos, c2, ite_true, ite_false, if_true, if_false, Bool.false_eq_true, and_self, and_true, true_and, and_false, false_and]
theorem fr_arg {σ : SG} {f k : Nat} (hf : f < 8) (hk : k < 3) : F_Fr_argument (125 + 6 * f) (Int32.ofNat k) σ = some (σ.2.2.2.2 (127 + 6 * f) k, σ) := by
  obtain ⟨c1, c2, c3, c4, c5, c6, c7⟩ := cF hf
  simp (disch := omega) only [F_Fr_argument, F_Fr_argument_19, lit32, n_nl0, n_lt, n_cl, false_or, if_neg, if_pos, c3, ite_true, ite_false, if_true, if_false, Bool.false_eq_true, and_self, and_true, true_and, and_false, false_and]
theorem fr_setArg {σ : SG} {f k : Nat} {v : Int64} (hf : f < 8) (hk : k < 3) : F_Fr_setArgument (125 + 6 * f) (Int32.ofNat k) v σ = some (setL σ (127 + 6 * f) k v) := by
  obtain ⟨c1, c2, c3, c4, c5, c6, c7⟩ := cF hf
  simp (disch := omega) only [F_Fr_setArgument, F_Fr_setArgument_16, lit32, n_nl0, n_le, n_cl, false_or, if_neg, c3, stl_e, ite_true, ite_false, if_true, if_false, Bool.false_eq_true, and_self, and_true, true_and, and_false, false_and]
theorem ru_latest {σ : SG} {A : Nat} (hA : σ.1 123 11 = Int32.ofNat A) (h1 : 1 ≤ A) (h8 : A ≤ 8) : F_Ru_latest 123 σ = some (some (125 + 6 * (A - 1)), σ) := by
  obtain ⟨c1, c2, c3, c4, c5, c6, c7⟩ := cF (f := A - 1) (by omega)
  simp (disch := omega) only [F_Ru_latest, F_Ru_latest_31, hA, lit32, n_lt, if_neg, cR1, n_sub, n_nl0, n_cl, false_or, c7, ite_true, ite_false, if_true, if_false, Bool.false_eq_true, and_self, and_true, true_and, and_false, false_and]
theorem ru_cell {σ : SG} {x : Nat} (hx : x < 832) : F_Ru_cell 123 (Int32.ofNat x) σ = some (σ.2.2.2.2 173 x, σ) := by
  simp (disch := omega) only [F_Ru_cell, F_Ru_cell_23, lit32, n_nl0, n_lt, n_cl, false_or, if_neg, if_pos, cR2, ite_true, ite_false, if_true, if_false, Bool.false_eq_true, and_self, and_true, true_and, and_false, false_and]
theorem ru_setCell {σ : SG} {x : Nat} {v : Int64} (hx : x < 832) : F_Ru_setCell 123 (Int32.ofNat x) v σ = some (setL σ 173 x v) := by
  simp (disch := omega) only [F_Ru_setCell, F_Ru_setCell_20, lit32, n_nl0, n_le, n_cl, false_or, if_neg, cR2, stl_e, ite_true, ite_false, if_true, if_false, Bool.false_eq_true, and_self, and_true, true_and, and_false, false_and]
theorem ru_addr {σ : SG} {k i : Nat} : F_Ru_addressIn (Int32.ofNat (k + 1)) (Int32.ofNat i) σ = some (Int32.ofNat (32 + k * 20 + i), σ) := by
  simp (disch := omega) only [F_Ru_addressIn, lit32, n_sub, Nat.add_sub_cancel, n_mul, n_add, ite_true, ite_false, if_true, if_false, Bool.false_eq_true, and_self, and_true, true_and, and_false, false_and]
theorem ru_count {σ : SG} {k : Nat} (hk : k < 40) : F_Ru_itemCount 123 (Int32.ofNat (k + 1)) σ = some (σ.2.2.2.1 174 k, σ) := by
  simp (disch := omega) only [F_Ru_itemCount, F_Ru_itemCount_23, lit32, n_lt, n_le, if_neg, if_pos, n_sub, Nat.add_sub_cancel, n_nl0, n_cl, false_or, cR3, ite_true, ite_false, if_true, if_false, Bool.false_eq_true, and_self, and_true, true_and, and_false, false_and]
theorem ru_raiseFrom {σ : SG} {e p r : Int32} : F_Ru_raiseFrom 123 e p r σ = some (false, setI (setI (setI (setI σ 123 5 (bz true)) 123 6 e) 123 7 p) 123 8 r) := by
  simp (disch := omega) only [F_Ru_raiseFrom, stl_e, ite_true, ite_false, if_true, if_false, Bool.false_eq_true, and_self, and_true, true_and, and_false, false_and]
theorem ru_raise {σ : SG} {A : Nat} {e : Int32} (hA : σ.1 123 11 = Int32.ofNat A) (h1 : 1 ≤ A) (h8 : A ≤ 8) : F_Ru_raise 123 e σ = some (false, setI (setI (setI (setI σ 123 5 (bz true)) 123 6 e) 123 7 (σ.1 (125 + 6 * (A - 1)) 3)) 123 8 (Int32.ofNat 0)) := by
  obtain ⟨c1, c2, c3, c4, c5, c6, c7⟩ := cF (f := A - 1) (by omega)
  simp (disch := omega) only [F_Ru_raise, ru_latest hA h1 h8, c1, if_pos, ru_raiseFrom, lit32, ite_true, ite_false, if_true, if_false, Bool.false_eq_true, and_self, and_true, true_and, and_false, false_and]
/-- a thing is made: its cells are 0 -/
theorem ru_make_l {σ0 : SG} {f md : Nat} (hf : f < 8) (hm : md < 40) : ∀ c i fuel σ, i + c = 20 → c < fuel → σ.1 = σ0.1 → σ.2.1 = σ0.2.1 → σ.2.2.1 = σ0.2.2.1 → σ.2.2.2.1 = σ0.2.2.2.1 → σ0.1 123 12 = Int32.ofNat (md + 1) → (∀ x g, σ.2.2.2.2 x g = if x = 173 ∧ 32 + md * 20 ≤ g ∧ g < 32 + md * 20 + i then 0 else σ0.2.2.2.2 x g) →
    ∃ s, F_Ru_make_44 fuel 123 (125 + 6 * f) (Int32.ofNat i) σ = (match F_Fr_push (125 + 6 * f) ((Int32.ofNat (md + 1)).toInt64) s with | none => none | some q2 => some (true, q2)) ∧ s.1 = σ0.1 ∧ s.2.1 = σ0.2.1 ∧ s.2.2.1 = σ0.2.2.1 ∧ s.2.2.2.1 = σ0.2.2.2.1 ∧ ∀ x g, s.2.2.2.2 x g = if x = 173 ∧ 32 + md * 20 ≤ g ∧ g < 32 + md * 20 + 20 then 0 else σ0.2.2.2.2 x g := by
  intro c
  induction c with
  | zero =>
    intro i fuel σ hi hfu e1 e2 e3 e4 hmd hL
    obtain ⟨fuel, rfl⟩ : ∃ x, fuel = x + 1 := ⟨fuel - 1, by omega⟩
    refine ⟨σ, ?_, e1, e2, e3, e4, fun x g => ?_⟩
    · have hmd' : σ.1 123 12 = Int32.ofNat (md + 1) := by rw [e1]; exact hmd
      simp (disch := omega) only [F_Ru_make_44, lit32, n_le, if_pos, hmd', ite_true, ite_false, if_true, if_false, Bool.false_eq_true, and_self, and_true, true_and, and_false, false_and]
      rfl
    · rw [hL x g, show i = 20 by omega]
  | succ c ih =>
    intro i fuel σ hi hfu e1 e2 e3 e4 hmd hL
    obtain ⟨fuel, rfl⟩ : ∃ x, fuel = x + 1 := ⟨fuel - 1, by omega⟩
    have hmd' : σ.1 123 12 = Int32.ofNat (md + 1) := by rw [e1]; exact hmd
    have hsc := ru_setCell (σ := σ) (x := 32 + md * 20 + i) (v := 0) (by omega)
    obtain ⟨s, g1, g2⟩ := ih (i + 1) fuel (setL σ 173 (32 + md * 20 + i) 0) (by omega) (by omega) e1 e2 e3 e4 hmd (fun x g => by
      rw [rL]
      by_cases cx : x = 173 ∧ g = 32 + md * 20 + i
      · rw [if_pos cx, if_pos (by omega)]
      · rw [if_neg cx, hL x g]
        by_cases c2 : x = 173 ∧ 32 + md * 20 ≤ g ∧ g < 32 + md * 20 + i
        · rw [if_pos c2, if_pos (by omega)]
        · rw [if_neg c2, if_neg (by omega)])
    refine ⟨s, ?_, g2⟩
    rw [← g1]
    simp (disch := omega) only [F_Ru_make_44, lit32, n_le, if_neg, hmd', ru_addr, hsc, n_add, ite_true, ite_false, if_true, if_false, Bool.false_eq_true, and_self, and_true, true_and, and_false, false_and]
/-- the reference -/
theorem mo_put {σ : SG} {f h : Nat} {a b : Int32} (hA : σ.1 0 31 = Int32.ofNat (f + 1)) (hf : f < 8) (hh : σ.2.2.2.1 22 f = Int32.ofNat h) (h8 : h < 8) : F_Mo_put 0 a b σ = some (setA (setA (setA σ 23 (8 * f + h) a) 24 (8 * f + h) b) 22 f (Int32.ofNat (h + 1))) := by
  simp (disch := omega) only [F_Mo_put, hA, lit32, n_sub, Nat.add_sub_cancel, n_nl0, n_cl, false_or, if_neg, cm_34, hh, n_mul, n_add, cm_35, cm_36, stl_e, rA, ite_true, ite_false, if_true, if_false, Bool.false_eq_true, and_self, and_true, true_and, and_false, false_and]
theorem mo_get {σ : SG} {f h : Nat} (hA : σ.1 0 31 = Int32.ofNat (f + 1)) (hf : f < 8) (hh : σ.2.2.2.1 22 f = Int32.ofNat (h + 1)) (h8 : h < 8) : F_Mo_get 0 σ = some (σ.2.2.2.1 23 (8 * f + h), setI (setA σ 22 f (Int32.ofNat h)) 0 46 (σ.2.2.2.1 24 (8 * f + h))) := by
  simp (disch := omega) only [F_Mo_get, hA, lit32, n_sub, Nat.add_sub_cancel, n_nl0, n_cl, false_or, if_neg, if_pos, cm_34, hh, n_mul, n_add, cm_35, cm_36, stl_e, rA, rI2, ite_true, ite_false, if_true, if_false, Bool.false_eq_true, and_self, and_true, true_and, and_false, false_and]
theorem mo_putCell {σ : SG} {f h x : Nat} (hA : σ.1 0 31 = Int32.ofNat (f + 1)) (hf : f < 8) (hh : σ.2.2.2.1 22 f = Int32.ofNat h) (h8 : h < 8) (hx : x < 856) : F_Mo_putCell 0 (Int32.ofNat x) σ = some (setA (setA (setA σ 23 (8 * f + h) (σ.2.2.2.1 25 x)) 24 (8 * f + h) (σ.2.2.2.1 26 x)) 22 f (Int32.ofNat (h + 1))) := by
  simp (disch := omega) only [F_Mo_putCell, F_Mo_putCell_20, lit32, n_nl0, n_cl, false_or, if_neg, cm_37, cm_38, mo_put hA hf hh h8, ite_true, ite_false, if_true, if_false, Bool.false_eq_true, and_self, and_true, true_and, and_false, false_and]
theorem mo_setCell {σ : SG} {x : Nat} {a b : Int32} (hx : x < 856) : F_Mo_setCell 0 (Int32.ofNat x) a b σ = some (setA (setA σ 25 x a) 26 x b) := by
  simp (disch := omega) only [F_Mo_setCell, lit32, n_le, Nat.zero_le, n_nl0, n_cl, false_or, if_neg, if_pos, cm_37, cm_38, stl_e, ite_true, ite_false, if_true, if_false, Bool.false_eq_true, and_self, and_true, true_and, and_false, false_and]
