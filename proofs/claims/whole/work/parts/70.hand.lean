/-! A handler is entered. -/
def Fg (f : Nat) (K : Nat → Prop) (σ σ1 : SG) : Prop := σ1.1 = σ.1 ∧ σ1.2.1 = σ.2.1 ∧ σ1.2.2.1 = σ.2.2.1 ∧ σ1.2.2.2.2 = σ.2.2.2.2 ∧ (∀ a g, a ≠ 128 + 6 * f → σ1.2.2.2.1 a g = σ.2.2.2.1 a g) ∧ ∀ g, K g → σ1.2.2.2.1 (128 + 6 * f) g = σ.2.2.2.1 (128 + 6 * f) g
theorem Fg_refl (f : Nat) (K : Nat → Prop) (σ : SG) : Fg f K σ σ := ⟨rfl, rfl, rfl, rfl, fun _ _ _ => rfl, fun _ _ => rfl⟩
theorem fp_l {f d : Nat} {σ0 : SG} (hf : f < 8) (hd : d < 8) : ∀ c i fuel σ, i + c = 3 → c < fuel → Fg f (fun g => ¬ (g < 3 ∧ bt d g)) σ0 σ → ∃ σ1, F_Fr_forgetPending_23 fuel (125 + 6 * f) (Int32.ofNat d) (Int32.ofNat i) σ = some σ1 ∧ Fg f (fun g => ¬ (g < 3 ∧ bt d g)) σ0 σ1 := by
  obtain ⟨c1, c2, c3, c4, c5, c6, c7⟩ := cF hf
  intro c
  induction c with
  | zero =>
    intro i fuel σ hi hfu h
    obtain ⟨fuel, rfl⟩ : ∃ x, fuel = x + 1 := ⟨fuel - 1, by omega⟩
    refine ⟨σ, ?_, h⟩
    simp (disch := omega) only [F_Fr_forgetPending_23, lit32, n_le, if_pos, ite_true, ite_false, if_true, if_false, Bool.false_eq_true, and_self, and_true, true_and, and_false, false_and]
  | succ c ih =>
    intro i fuel σ hi hfu h
    obtain ⟨fuel, rfl⟩ : ∃ x, fuel = x + 1 := ⟨fuel - 1, by omega⟩
    have hb := k_bit (a := d) (r := i) hd (by omega)
    by_cases cb : bt d i
    · obtain ⟨σ1, g1, g2⟩ := ih (i + 1) fuel (setA σ (128 + 6 * f) i (Int32.ofNat 0)) (by omega) (by omega) ⟨h.1, h.2.1, h.2.2.1, h.2.2.2.1, fun a g ha => by rw [rA, if_neg (by omega)]; exact h.2.2.2.2.1 a g ha, fun g hg => by
        have hne : g ≠ i := fun z => hg ⟨by omega, by rw [z]; exact cb⟩
        rw [rA, if_neg (by omega)]; exact h.2.2.2.2.2 g hg⟩
      refine ⟨σ1, ?_, g2⟩
      rw [← g1]
      simp (disch := omega) only [F_Fr_forgetPending_23, F_Fr_forgetPending_47, lit32, n_le, if_neg, hb.mpr cb, if_pos, n_nl0, n_cl, false_or, c4, stl_e, n_add, ite_true, ite_false, if_true, if_false, Bool.false_eq_true, and_self, and_true, true_and, and_false, false_and]
    · obtain ⟨σ1, g1, g2⟩ := ih (i + 1) fuel σ (by omega) (by omega) h
      refine ⟨σ1, ?_, g2⟩
      rw [← g1]
      have hb2 : ¬ ((Int32.ofNat d >>> (Int32.ofNat i &&& Int32.ofNat 31)) &&& Int32.ofNat 1) = Int32.ofNat 1 := fun z => cb (hb.mp z)
      simp (disch := omega) only [F_Fr_forgetPending_23, F_Fr_forgetPending_47, lit32, n_le, if_neg, hb2, n_add, ite_true, ite_false, if_true, if_false, Bool.false_eq_true, and_self, and_true, true_and, and_false, false_and]
theorem c_forget {im : Im} {IA m f : Nat} {σ : SG} {x y : Int32} {zx zy : Int} (h : ImC σ IA im) (hm : m < im 0 1) (hf : f < 8) (hP : σ.2.2.1 (125 + 6 * f) 1 = IA + 4 + 9 * m) (hx : x.toInt = zx) (hy : y.toInt = zy) : ∃ σ1, F_Fr_forgetPending (125 + 6 * f) x y σ = some σ1 ∧ Fg f (fun g => g < im 9 m ∧ iH im m g zy) σ σ1 := by
  have hM := d_Mc h hm
  have h3 := (IC_rc h hm).2
  obtain ⟨a, e1, m1⟩ := a_hand h hm hx
  obtain ⟨b, e2, m2⟩ := a_hand h hm hy
  obtain ⟨d, d1, d2, d3⟩ := k_dif (Msk_8 m1 h3) (Msk_8 m2 h3)
  obtain ⟨σ1, g1, g2⟩ := fp_l hf d1 3 0 5000 σ (by omega) (by omega) (Fg_refl _ _ _)
  refine ⟨σ1, ?_, g2.1, g2.2.1, g2.2.2.1, g2.2.2.2.1, g2.2.2.2.2.1, fun g hg => g2.2.2.2.2.2 g (fun z => ?_)⟩
  · simp (disch := omega) only [F_Fr_forgetPending, hP, hM, if_pos, e1, e2, lit32, d2, g1, ite_true, ite_false, if_true, if_false, Bool.false_eq_true, and_self, and_true, true_and, and_false, false_and]
  · exact ((d3 g z.1).mp z.2).2 ((m2.2 g z.1).mpr hg)
theorem c_enter {im : Im} {IA m f r : Nat} {σ : SG} (h : ImC σ IA im) (hm : m < im 0 1) (hf : f < 8) (hr : r < im 9 m) (hP : σ.2.2.1 (125 + 6 * f) 1 = IA + 4 + 9 * m) (hN : σ.1 (125 + 6 * f) 2 = Int32.ofNat m) : F_Ru_enter 123 (125 + 6 * f) (Int32.ofNat r) σ = some (setA (setI (setI σ (125 + 6 * f) 4 (Int32.ofNat 0)) (125 + 6 * f) 3 (Int32.ofNat (im 11 (3 * m + r)))) 175 (3 * m + r) (σ.2.2.2.1 175 (3 * m + r) + Int32.ofNat 1)) := by
  have hM := d_Mc h hm
  have h3 := (IC_rc h hm).2
  have hg := IC_rg h hm hr
  have hIA := h.1
  have h6 := (IC_nm h).2.2
  have e1 : (setI σ (125 + 6 * f) 4 (Int32.ofNat 0)).2.2.1 (125 + 6 * f) 1 = IA + 4 + 9 * m := hP
  have e2 : (setI σ (125 + 6 * f) 4 (Int32.ofNat 0)).1 (IA + 4 + 9 * m + 4 + r) 1 = Int32.ofNat (im 11 (3 * m + r)) := by rw [rI, if_neg (by omega)]; exact hg.2.1
  have e3 : (setI (setI σ (125 + 6 * f) 4 (Int32.ofNat 0)) (125 + 6 * f) 3 (Int32.ofNat (im 11 (3 * m + r)))).1 (125 + 6 * f) 2 = Int32.ofNat m := by rw [rI, if_neg (by omega), rI, if_neg (by omega)]; exact hN
  have e4 : ∀ k, (setI (setI σ (125 + 6 * f) 4 (Int32.ofNat 0)) (125 + 6 * f) 3 (Int32.ofNat (im 11 (3 * m + r)))).2.2.2.1 175 k = σ.2.2.2.1 175 k := fun _ => rfl
  simp (disch := omega) only [F_Ru_enter, F_Ru_enter_50, lit32, stl_e, e1, hM, if_pos, n_nl0, n_cl, false_or, if_neg, cM7 hM, cMr hM, e2, e3, n_le, n_mul, n_add, cR4, e4, Nat.mul_comm m 3, ite_true, ite_false, if_true, if_false, Bool.false_eq_true, and_self, and_true, true_and, and_false, false_and]
theorem c_keep {f r : Nat} {σ : SG} {a b c : Int32} (hf : f < 8) (hr : r < 3) : F_Fr_keepPending (125 + 6 * f) (Int32.ofNat r) a b c σ = some (setA (setA (setA σ (128 + 6 * f) r a) (129 + 6 * f) r b) (130 + 6 * f) r c) := by
  obtain ⟨c1, c2, c3, c4, c5, c6, c7⟩ := cF hf
  simp (disch := omega) only [F_Fr_keepPending, n_nl0, n_cl, false_or, if_neg, c4, c5, c6, stl_e, lit32, ite_true, ite_false, if_true, if_false, Bool.false_eq_true, and_self, and_true, true_and, and_false, false_and]
/-- the reference -/
def Dg (f : Nat) (K : Nat → Prop) (σ σ1 : SG) : Prop := σ1.1 = σ.1 ∧ σ1.2.1 = σ.2.1 ∧ σ1.2.2.1 = σ.2.2.1 ∧ σ1.2.2.2.2 = σ.2.2.2.2 ∧ (∀ a g, ¬ (a = 28 ∧ 3 * f ≤ g ∧ g < 3 * f + 3) → σ1.2.2.2.1 a g = σ.2.2.2.1 a g) ∧ ∀ g, K g → σ1.2.2.2.1 28 (3 * f + g) = σ.2.2.2.1 28 (3 * f + g)
theorem Dg_refl (f : Nat) (K : Nat → Prop) (σ : SG) : Dg f K σ σ := ⟨rfl, rfl, rfl, rfl, fun _ _ _ => rfl, fun _ _ => rfl⟩
theorem RepM_Dg {im : Im} {f : Nat} {K : Nat → Prop} {σ σ1 : SG} (h : RepM σ im) (hd : Dg f K σ σ1) : RepM σ1 im := by
  obtain ⟨r0, r1, r2, r3⟩ := h
  refine ⟨r0, by rw [hd.1]; exact r1, by rw [hd.1]; exact r2, fun a k p q => ?_⟩
  rw [hd.2.2.2.2.1 _ _ (by omega)]; exact r3 a k p q
theorem dp_l {im : Im} {m f : Nat} {σ0 : SG} {x y : Int32} {zx zy : Int} (hw : WfI im) (hm : m < im 0 1) (hM : RepM σ0 im) (hf : f < 8) (h20 : σ0.2.2.2.1 20 f = Int32.ofNat m) (hx : x.toInt = zx) (hy : y.toInt = zy) : ∀ c i fuel σ, i + c = im 9 m → c < fuel → Dg f (fun g => g < im 9 m ∧ iH im m g zy) σ0 σ → ∃ σ1, F_Mo_drop_13 fuel 0 (Int32.ofNat f) x y (Int32.ofNat (3 * m)) (Int32.ofNat i) σ = some σ1 ∧ Dg f (fun g => g < im 9 m ∧ iH im m g zy) σ0 σ1 := by
  have w := wf_m hw hm
  have h9 := w.2.2.2.2.2.2.1
  have h6 := w.1
  intro c
  induction c with
  | zero =>
    intro i fuel σ hi hfu h
    obtain ⟨fuel, rfl⟩ : ∃ x, fuel = x + 1 := ⟨fuel - 1, by omega⟩
    have hMs := RepM_Dg hM h
    have h20' : σ.2.2.2.1 20 f = Int32.ofNat m := by rw [h.2.2.2.2.1 _ _ (by omega)]; exact h20
    have h9' := hMs.2.2.2 9 m (by omega) (by omega)
    refine ⟨σ, ?_, h⟩
    simp (disch := omega) only [F_Mo_drop_13, n_nl0, n_cl, false_or, if_neg, cm_32, h20', cm_13, h9', n_le, if_pos, lit32, ite_true, ite_false, if_true, if_false, Bool.false_eq_true, and_self, and_true, true_and, and_false, false_and]
  | succ c ih =>
    intro i fuel σ hi hfu h
    obtain ⟨fuel, rfl⟩ : ∃ x, fuel = x + 1 := ⟨fuel - 1, by omega⟩
    have hMs := RepM_Dg hM h
    have h20' : σ.2.2.2.1 20 f = Int32.ofNat m := by rw [h.2.2.2.2.1 _ _ (by omega)]; exact h20
    have h9' := hMs.2.2.2 9 m (by omega) (by omega)
    obtain ⟨b, e1, e2⟩ := m_inHand (r := i) hw hm hMs (by omega) hx
    obtain ⟨b', e3, e4⟩ := m_inHand (r := i) hw hm hMs (by omega) hy
    cases b with
    | false =>
      obtain ⟨σ1, g1, g2⟩ := ih (i + 1) fuel σ (by omega) (by omega) h
      refine ⟨σ1, ?_, g2⟩
      rw [← g1]
      simp (disch := omega) only [F_Mo_drop_13, F_Mo_drop_67, lit32, n_nl0, n_cl, false_or, if_neg, cm_32, h20', cm_13, h9', n_le, n_add, e1, ite_true, ite_false, if_true, if_false, Bool.false_eq_true, and_self, and_true, true_and, and_false, false_and]
    | true =>
      cases b' with
      | true =>
        obtain ⟨σ1, g1, g2⟩ := ih (i + 1) fuel σ (by omega) (by omega) h
        refine ⟨σ1, ?_, g2⟩
        rw [← g1]
        simp (disch := omega) only [F_Mo_drop_13, F_Mo_drop_67, lit32, n_nl0, n_cl, false_or, if_neg, cm_32, h20', cm_13, h9', n_le, n_add, e1, e3, ite_true, ite_false, if_true, if_false, Bool.false_eq_true, and_self, and_true, true_and, and_false, false_and]
      | false =>
        obtain ⟨σ1, g1, g2⟩ := ih (i + 1) fuel (setA σ 28 (3 * f + i) (Int32.ofNat 0)) (by omega) (by omega) ⟨h.1, h.2.1, h.2.2.1, h.2.2.2.1, fun a g ha => by rw [rA, if_neg (by omega)]; exact h.2.2.2.2.1 a g ha, fun g hg => by
          have hne : g ≠ i := fun z => by
            rw [z] at hg
            have := e4.mpr hg.2
            cases this
          rw [rA, if_neg (by omega)]; exact h.2.2.2.2.2 g hg⟩
        refine ⟨σ1, ?_, g2⟩
        rw [← g1]
        simp (disch := omega) only [F_Mo_drop_13, F_Mo_drop_67, lit32, n_nl0, n_cl, false_or, if_neg, cm_32, h20', cm_13, h9', n_le, n_add, n_mul, e1, e3, cm_40, stl_e, ite_true, ite_false, if_true, if_false, Bool.false_eq_true, and_self, and_true, true_and, and_false, false_and]
theorem m_drop {im : Im} {m f : Nat} {σ : SG} {x y : Int32} {zx zy : Int} (hw : WfI im) (hm : m < im 0 1) (hM : RepM σ im) (hf : f < 8) (h20 : σ.2.2.2.1 20 f = Int32.ofNat m) (hx : x.toInt = zx) (hy : y.toInt = zy) : ∃ σ1, F_Mo_drop 0 (Int32.ofNat f) x y σ = some σ1 ∧ Dg f (fun g => g < im 9 m ∧ iH im m g zy) σ σ1 := by
  have w := wf_m hw hm
  have h9 := w.2.2.2.2.2.2.1
  obtain ⟨σ1, g1, g2⟩ := dp_l hw hm hM hf h20 hx hy (im 9 m) 0 5000 σ (by omega) (by omega) (Dg_refl _ _ _)
  refine ⟨σ1, ?_, g2⟩
  simp (disch := omega) only [F_Mo_drop, n_nl0, n_cl, false_or, if_neg, cm_32, h20, lit32, n_mul, g1, ite_true, ite_false, if_true, if_false, Bool.false_eq_true, and_self, and_true, true_and, and_false, false_and]
/-- the reference comes to a handler -/
def hdS (im : Im) (m f r : Nat) (σ : SG) : SG := setA (setA (setA σ 31 (3 * m + r) (σ.2.2.2.1 31 (3 * m + r) + Int32.ofNat 1)) 21 f (Int32.ofNat (im 11 (3 * m + r)))) 22 f (Int32.ofNat 0)
theorem m_hand {im : Im} {m f r : Nat} {σ σ1 : SG} {K : Nat → Prop} {x kd e o : Int32} (hw : WfI im) (hm : m < im 0 1) (hM : RepM σ im) (hf : f < 8) (hr : r < im 9 m) (h20 : σ.2.2.2.1 20 f = Int32.ofNat m) (hd : F_Mo_drop 0 (Int32.ofNat f) x (Int32.ofNat (im 11 (3 * m + r))) σ = some σ1) (hK : Dg f K σ σ1) :
    (im 13 (3 * m + r) = 1 → F_Mo_handle 0 (Int32.ofNat f) (Int32.ofNat r) x kd e o σ = some (setA (setA (setA (hdS im m f r σ1) 28 (3 * f + r) kd) 29 (3 * f + r) e) 30 (3 * f + r) o)) ∧ (im 13 (3 * m + r) = 0 → ∀ s, F_Mo_put 0 e (Int32.ofNat 0) (hdS im m f r σ1) = some s → F_Mo_handle 0 (Int32.ofNat f) (Int32.ofNat r) x kd e o σ = some s) := by
  have w := wf_m hw hm
  have h9 := w.2.2.2.2.2.2.1
  have h6 := w.1
  have hM1 := RepM_Dg hM hK
  have m11 := hM.2.2.2 11 (3 * m + r) (by omega) (by omega)
  have n11 : (setA σ1 31 (3 * m + r) (σ1.2.2.2.1 31 (3 * m + r) + Int32.ofNat 1)).2.2.2.1 11 (3 * m + r) = Int32.ofNat (im 11 (3 * m + r)) := by rw [rA, if_neg (by omega)]; exact hM1.2.2.2 11 _ (by omega) (by omega)
  have n13 : (hdS im m f r σ1).2.2.2.1 13 (3 * m + r) = Int32.ofNat (im 13 (3 * m + r)) := by
    unfold hdS
    rw [rA, if_neg (by omega), rA, if_neg (by omega), rA, if_neg (by omega)]; exact hM1.2.2.2 13 _ (by omega) (by omega)
  refine ⟨fun e1 => ?_, fun e1 s hs => ?_⟩
  · rw [e1] at n13
    unfold hdS at n13 ⊢
    simp (disch := omega) only [F_Mo_handle, n_nl0, n_cl, false_or, if_neg, cm_32, h20, lit32, n_mul, n_add, cm_15, m11, hd, cm_43, stl_e, n11, cm_33, cm_34, cm_17, n13, zb1, if_pos, cm_40, cm_41, cm_42, ite_true, ite_false, if_true, if_false, Bool.false_eq_true, and_self, and_true, true_and, and_false, false_and]
  · rw [e1] at n13
    unfold hdS at n13 hs
    simp (disch := omega) only [F_Mo_handle, n_nl0, n_cl, false_or, if_neg, cm_32, h20, lit32, n_mul, n_add, cm_15, m11, hd, cm_43, stl_e, n11, cm_33, cm_34, cm_17, n13, zb0, hs, ite_true, ite_false, if_true, if_false, Bool.false_eq_true, and_self, and_true, true_and, and_false, false_and]
