/-! A thing is made. -/
theorem mo_make_l {σ0 : SG} {md : Nat} (hm : md < 40) (h0 : σ0.1 0 30 = Int32.ofNat md) : ∀ c i fuel σ, i + c = 20 → c < fuel → σ.1 = σ0.1 → σ.2.1 = σ0.2.1 → σ.2.2.1 = σ0.2.2.1 → σ.2.2.2.2 = σ0.2.2.2.2 → (∀ x g, σ.2.2.2.1 x g = if (x = 25 ∨ x = 26) ∧ 56 + 20 * md ≤ g ∧ g < 56 + 20 * md + i then 0 else σ0.2.2.2.1 x g) →
    ∃ s, F_Mo_make_28 fuel 0 (Int32.ofNat i) σ = some (Int32.ofNat md, s) ∧ s.1 = (setI σ0 0 30 (Int32.ofNat (md + 1))).1 ∧ s.2.2.2.2 = σ0.2.2.2.2 ∧ ∀ x g, s.2.2.2.1 x g = if (x = 25 ∨ x = 26) ∧ 56 + 20 * md ≤ g ∧ g < 56 + 20 * md + 20 then 0 else σ0.2.2.2.1 x g := by
  intro c
  induction c with
  | zero =>
    intro i fuel σ hi hfu e1 e2 e3 e4 hA
    obtain ⟨fuel, rfl⟩ : ∃ x, fuel = x + 1 := ⟨fuel - 1, by omega⟩
    have h0' : σ.1 0 30 = Int32.ofNat md := by rw [e1]; exact h0
    refine ⟨setI σ 0 30 (Int32.ofNat (md + 1)), ?_, ?_, e4, fun x g => ?_⟩
    · simp (disch := omega) only [↓reduceIte, Nat.reduceEqDiff, F_Mo_make_28, lit32, n_le, if_pos, h0', n_add, stl_e, rI, n_sub, Nat.add_sub_cancel, ite_true, ite_false, if_true, if_false, Bool.false_eq_true, and_self, and_true, true_and, and_false, false_and]
    · funext x g
      rw [rI, rI, e1]
    · rw [rI2, hA x g, show i = 20 by omega]
  | succ c ih =>
    intro i fuel σ hi hfu e1 e2 e3 e4 hA
    obtain ⟨fuel, rfl⟩ : ∃ x, fuel = x + 1 := ⟨fuel - 1, by omega⟩
    have h0' : σ.1 0 30 = Int32.ofNat md := by rw [e1]; exact h0
    obtain ⟨s, g1, g2⟩ := ih (i + 1) fuel (setA (setA σ 25 (56 + 20 * md + i) 0) 26 (56 + 20 * md + i) 0) (by omega) (by omega) e1 e2 e3 e4 (fun x g => by
      rw [rA, rA]
      by_cases c1 : x = 26 ∧ g = 56 + 20 * md + i
      · rw [if_pos c1, if_pos (by omega)]
      · rw [if_neg c1]
        by_cases c2 : x = 25 ∧ g = 56 + 20 * md + i
        · rw [if_pos c2, if_pos (by omega)]
        · rw [if_neg c2, hA x g]
          by_cases c3 : (x = 25 ∨ x = 26) ∧ 56 + 20 * md ≤ g ∧ g < 56 + 20 * md + i
          · rw [if_pos c3, if_pos (by omega)]
          · rw [if_neg c3, if_neg (by omega)])
    refine ⟨s, ?_, g2⟩
    rw [← g1]
    simp (disch := omega) only [F_Mo_make_28, lit32, n_le, if_neg, h0', n_add, n_mul, n_nl0, n_cl, false_or, cm_37, cm_38, stl_e, rA1, ite_true, ite_false, if_true, if_false, Bool.false_eq_true, and_self, and_true, true_and, and_false, false_and]
theorem mo_make {σ : SG} {md : Nat} {n : Int32} (hm : md < 40) (h0 : σ.1 0 30 = Int32.ofNat md) : ∃ s, F_Mo_make 0 n σ = some (Int32.ofNat md, s) ∧ s.1 = (setI σ 0 30 (Int32.ofNat (md + 1))).1 ∧ s.2.2.2.2 = σ.2.2.2.2 ∧ ∀ x g, s.2.2.2.1 x g = if (x = 25 ∨ x = 26) ∧ 56 + 20 * md ≤ g ∧ g < 56 + 20 * md + 20 then 0 else if x = 27 ∧ g = md then n else σ.2.2.2.1 x g := by
  obtain ⟨s, g1, g2, g3, g4⟩ := mo_make_l (σ0 := setA σ 27 md n) hm h0 20 0 5000 (setA σ 27 md n) (by omega) (by omega) rfl rfl rfl rfl (fun x g => by rw [if_neg (by omega)])
  refine ⟨s, ?_, g2, g3, g4⟩
  simp (disch := omega) only [F_Mo_make, lit32, h0, n_eq, if_neg, n_nl0, n_cl, false_or, cm_39, stl_e, g1, ite_true, ite_false, if_true, if_false, Bool.false_eq_true, and_self, and_true, true_and, and_false, false_and]
theorem mo_make40 {σ : SG} {n : Int32} (h0 : σ.1 0 30 = Int32.ofNat 40) : F_Mo_make 0 n σ = some (-Int32.ofNat 1, setI σ 0 44 (Int32.ofNat 4)) := by
  simp (disch := omega) only [↓reduceIte, Nat.reduceEqDiff, F_Mo_make, lit32, h0, n_eq, if_pos, stl_e, ite_true, ite_false, if_true, if_false, Bool.false_eq_true, and_self, and_true, true_and, and_false, false_and]
theorem ru_make {σ : SG} {f md : Nat} {n : Int32} (hf : f < 8) (hm : md < 40) (h0 : σ.1 123 12 = Int32.ofNat md) :
    ∃ s, F_Ru_make 123 (125 + 6 * f) n σ = (match F_Fr_push (125 + 6 * f) (Int64.ofNat (md + 1)) s with | none => none | some q2 => some (true, q2)) ∧ s.1 = (setI σ 123 12 (Int32.ofNat (md + 1))).1 ∧ s.2.2.1 = σ.2.2.1 ∧ s.2.2.2.1 = (setA σ 174 md n).2.2.2.1 ∧ ∀ x g, s.2.2.2.2 x g = if x = 173 ∧ 32 + md * 20 ≤ g ∧ g < 32 + md * 20 + 20 then 0 else σ.2.2.2.2 x g := by
  obtain ⟨s, g1, g2, g3, g4, g5, g6⟩ := ru_make_l (σ0 := setI (setA σ 174 md n) 123 12 (Int32.ofNat (md + 1))) hf hm 20 0 5000 (setI (setA σ 174 md n) 123 12 (Int32.ofNat (md + 1))) (by omega) (by omega) rfl rfl rfl rfl (by rw [rI, if_pos ⟨rfl, rfl⟩]) (fun x g => by rw [if_neg (by omega)])
  rw [n64 (by omega)] at g1
  refine ⟨s, Eq.trans ?_ g1, g2, g4, g5, g6⟩
  simp (disch := omega) only [F_Ru_make, lit32, h0, n_lt, if_pos, if_neg, n_nl0, n_cl, false_or, cR3, stl_e, rA1, n_add, ite_true, ite_false, if_true, if_false, Bool.false_eq_true, and_self, and_true, true_and, and_false, false_and]
theorem ru_make40 {σ : SG} {f : Nat} {n : Int32} {s : SG} (h0 : σ.1 123 12 = Int32.ofNat 40) (hr : F_Ru_raise 123 (Int32.ofNat 4) σ = some (false, s)) : F_Ru_make 123 (125 + 6 * f) n σ = some (false, s) := by
  simp (disch := omega) only [F_Ru_make, F_Ru_make_16, lit32, h0, n_lt, if_neg, n_nl0, hr, ite_true, ite_false, if_true, if_false, Bool.false_eq_true, and_self, and_true, true_and, and_false, false_and]
def upT (T : Nat → Nat) (k t : Nat) : Nat → Nat := fun j => if j = k then t else T j
theorem TyC_up {im : Im} {A : Nat} {ms T : Nat → Nat} {md t x : Nat} : TyC im A ms (upT T md t) (md + 1) x = if 32 + 20 * md ≤ x ∧ x < 52 + 20 * md then cty im t ((x - 32) % 20) else TyC im A ms T md x := by
  unfold TyC upT
  by_cases c : x < 32
  · rw [if_pos c, if_pos c, if_neg (show ¬ (32 + 20 * md ≤ x ∧ x < 52 + 20 * md) by omega)]
  · rw [if_neg c, if_neg c]
    by_cases d : 32 + 20 * md ≤ x ∧ x < 52 + 20 * md
    · rw [if_pos d, if_pos (by omega), if_pos (by omega)]
    · rw [if_neg d]
      by_cases e : (x - 32) / 20 < md
      · rw [if_pos e, if_pos (by omega), if_neg (by omega)]
      · rw [if_neg e, if_neg (by omega)]
theorem Mono_up (im : Im) (A : Nat) (ms T : Nat → Nat) (md t f : Nat) : Mono im A ms T md A ms (upT T md t) (md + 1) f := by
  refine ⟨fun x hx h1 _ => ?_, by omega, fun k hk => by unfold upT; rw [if_neg (by omega)]⟩
  rw [TyC_up]
  by_cases d : 32 + 20 * md ≤ x ∧ x < 52 + 20 * md
  · exfalso
    unfold TyC at h1
    rw [if_neg (by omega), if_neg (by omega)] at h1
    omega
  · rw [if_neg d]; exact h1
theorem mi_made {im : Im} {IA A : Nat} {ms ps : Nat → Nat} {ls : Nat → List Nat} {T : Nat → Nat} {md : Nat} {σc0 σm0 σc σm : SG} {L : List Nat} {t : Nat} {c1 m1 : SG} (h : Mi im IA A ms ps ls T md σc0 σm0 L σc σm) (hmd : md < 40) (ht : t = 4 ∨ t = 5 ∨ (8 ≤ t ∧ t < 8 + im 0 0))
    (hc1 : ∀ x g, c1.1 x g = if x = 123 ∧ g = 12 then Int32.ofNat (md + 1) else σc.1 x g) (hc2 : c1.2.2.1 = σc.2.2.1) (hc3 : ∀ x g, ¬ (x = 174 ∧ g = md) → c1.2.2.2.1 x g = σc.2.2.2.1 x g) (hc4 : ∀ x g, ¬ (x = 173 ∧ 32 + 20 * md ≤ g ∧ g < 52 + 20 * md) → c1.2.2.2.2 x g = σc.2.2.2.2 x g)
    (hm1 : ∀ g, m1.1 0 g = if g = 30 then Int32.ofNat (md + 1) else σm.1 0 g) (hm2 : m1.2.2.2.2 = σm.2.2.2.2) (hm3 : ∀ x g, ¬ (x = 27 ∧ g = md) → ¬ ((x = 25 ∨ x = 26) ∧ 56 + 20 * md ≤ g ∧ g < 76 + 20 * md) → m1.2.2.2.1 x g = σm.2.2.2.1 x g)
    (hv : ∀ i, i < 20 → cty im t i ≠ 0 → VR im A ms T md 0 (cty im t i) (c1.2.2.2.2 173 (32 + 20 * md + i)) (m1.2.2.2.1 25 (56 + 20 * md + i)) (m1.2.2.2.1 26 (56 + 20 * md + i)))
    (h4 : t = 4 → ∃ n, n ≤ 20 ∧ c1.2.2.2.1 174 md = Int32.ofNat n ∧ m1.2.2.2.1 27 md = Int32.ofNat n) : Mi im IA A ms ps ls (upT T md t) (md + 1) σc0 σm0 L c1 m1 := by
  obtain ⟨⟨⟨a1, a2, a3⟩, b0, ⟨k1, k2, k3, k4, k5⟩, d, e, g, q⟩, ⟨w1, w2, w3⟩, ⟨p1, p2, p3, p4⟩, q1, q2⟩ := h
  have hI : ∀ x g, ¬ (x = 123 ∧ g = 12) → c1.1 x g = σc.1 x g := fun x g hx => by rw [hc1, if_neg hx]
  have hJ : ∀ g, g ≠ 30 → m1.1 0 g = σm.1 0 g := fun g hx => by rw [hm1, if_neg hx]
  have hwc : Wc σc c1 := ⟨fun x g _ => hI x g (by omega), fun x g _ => by rw [hc2], fun x g _ => hc3 x g (by omega), fun f _ => hI _ _ (by omega)⟩
  have hwm : Wm σm m1 := ⟨fun g _ _ _ h30 _ _ _ => hJ g h30, fun x g _ => hm3 x g (by omega) (by omega), hm2⟩
  refine ⟨⟨⟨a1, a2, by omega⟩, Img_congr b0 hwc hwm, ⟨?_, ?_, ?_, ?_, ?_⟩, fun f hf => ?_, fun f hf => ?_, ⟨fun y hy hty => ?_, fun j hj => ?_⟩, fun j hj => ?_⟩, ⟨Wc_trans w1 hwc, Wm_trans w2 hwm, fun x j hx => ?_⟩, ⟨?_, ?_, ?_, ?_⟩, ?_, ?_⟩
  · rw [hI _ _ (by omega)]; exact k1
  · rw [hJ _ (by omega)]; exact k2
  · rw [hc1, if_pos ⟨rfl, rfl⟩]
  · rw [hm1, if_pos rfl]
  · rw [hc2]; exact k5
  · rw [hI _ _ (by omega)]; exact d f hf
  · exact FrI_congr b0.2.2.1 (e f hf) ⟨fun g => hI _ _ (by omega), by rw [hc2], fun y g hy => hc4 _ _ (by omega), fun y g _ _ => hc3 _ _ (by omega)⟩ ⟨fun y hy => hm3 _ _ (by omega) (by omega), fun y g hy _ _ => hm3 _ _ (by omega) (by omega), fun y g hy h1 h2 => hm3 _ _ (by omega) (by omega), fun y g hy _ _ => hm3 _ _ (by omega) (by omega)⟩ (Mono_up _ _ _ _ _ _ _) rfl rfl rfl
  · rw [TyC_up] at hty ⊢
    by_cases c : 32 + 20 * md ≤ y ∧ y < 52 + 20 * md
    · rw [if_pos c] at hty ⊢
      have e1 : (y - 32) % 20 = y - 32 - 20 * md := by omega
      have hi := hv (y - 32 - 20 * md) (by omega) (by rw [← e1]; exact hty)
      have e2 : ra y = 56 + 20 * md + (y - 32 - 20 * md) := by unfold ra; rw [if_neg (by omega)]; omega
      rw [e1, e2]
      rw [show 32 + 20 * md + (y - 32 - 20 * md) = y by omega] at hi
      exact VR_mono hi (Mono_up _ _ _ _ _ _ _) (Nat.le_refl _)
    · rw [if_neg c] at hty ⊢
      have hra : ¬ (56 + 20 * md ≤ ra y ∧ ra y < 76 + 20 * md) := by
        unfold ra
        by_cases c3 : y < 32
        · rw [if_pos c3]; omega
        · rw [if_neg c3]; omega
      rw [hc4 _ _ (by omega), hm3 _ _ (by omega) (by omega), hm3 _ _ (by omega) (by omega)]
      exact VR_mono (g.1 y hy hty) (Mono_up _ _ _ _ _ _ _) (Nat.le_refl _)
  · by_cases c : j = md
    · have e1 : upT T md t j = t := by unfold upT; rw [if_pos c]
      rw [e1, c]
      exact ⟨ht, h4⟩
    · have e1 : upT T md t j = T j := by unfold upT; rw [if_neg c]
      rw [e1, hc3 _ _ (by omega), hm3 _ _ (by omega) (by omega)]
      exact g.2 j (by omega)
  · rw [hc3 _ _ (by omega), hm3 _ _ (by omega) (by omega)]; exact q j hj
  · rw [hm3 _ _ (by omega) (by omega)]; exact w3 x j hx
  · rw [hI _ _ (by omega)]; exact p1
  · rw [hI _ _ (by omega)]; exact p2
  · rw [hJ _ (by omega)]; exact p3
  · rw [hJ _ (by omega)]; exact p4
  · rw [hI _ _ (by omega)]; exact q1
  · rw [hJ _ (by omega)]; exact q2
/-- all zero, or null -/
theorem VR_zero {im : Im} {A : Nat} {ms T : Nat → Nat} {md f t : Nat} (ht : t ≠ 0) (h3 : t ≠ 3) : VR im A ms T md f t 0 (if 3 < t then -Int32.ofNat 1 else Int32.ofNat 0) 0 := by
  by_cases c : 3 < t
  · rw [if_pos c]; exact VR_nul _ (by omega)
  · rw [if_neg c]
    by_cases c1 : t = 1
    · rw [c1]; exact Or.inl ⟨rfl, by decide⟩
    · have c2 : t = 2 := by omega
      rw [c2]; exact Or.inr (Or.inl ⟨rfl, by decide⟩)
theorem mo_isRef {t : Nat} (h : t < 256) (σ : SG) : F_Mo_isReference (Int32.ofNat t) σ = some (decide (3 < t), σ) := by
  by_cases c : 3 < t
  · simp (disch := omega) only [F_Mo_isReference, F_Mo_isReference_10, lit32, n_le, if_neg, c, decide_true, ite_true, ite_false, if_true, if_false, Bool.false_eq_true, and_self, and_true, true_and, and_false, false_and]
  · simp (disch := omega) only [F_Mo_isReference, F_Mo_isReference_10, lit32, n_le, if_pos, c, decide_false, ite_true, ite_false, if_true, if_false, Bool.false_eq_true, and_self, and_true, true_and, and_false, false_and]
