/-! A call. -/
theorem popA_spec {im : Im} {A : Nat} {ms T : Nat → Nat} {md f k : Nat} {σc σm : SG} {L' : List Nat} : ∀ (n : Nat) (L : List Nat), popA im k n (some L) = some L' → StR im A ms T md σc σm f L → L.length = L'.length + n ∧ StR im A ms T md σc σm f L' ∧ ∀ i, i < n → VR im A ms T md f (im 6 (3 * k + i)) (σc.2.2.2.2 (126 + 6 * f) (L'.length + i)) (σm.2.2.2.1 23 (8 * f + (L'.length + i))) (σm.2.2.2.1 24 (8 * f + (L'.length + i)))
  | 0, L, h, hs => by
    have e : L = L' := Option.some.inj h
    rw [← e]
    exact ⟨rfl, hs, fun i hi => by omega⟩
  | n + 1, L, h, hs => by
    have h' : popA im k n ((some L).bind (wot (im 6 (3 * k + n)))) = some L' := h
    cases e : (some L).bind (wot (im 6 (3 * k + n))) with
    | none => rw [e, popA_none] at h'; cases h'
    | some L1 =>
      rw [e] at h'
      obtain ⟨e1, e2⟩ := b_ot e
      have e3 : L = im 6 (3 * k + n) :: L1 := Option.some.inj e1
      rw [e3] at hs
      obtain ⟨g1, g2, g3⟩ := popA_spec n L1 h' hs.2
      refine ⟨by rw [e3, List.length_cons, g1]; omega, g2, fun i hi => ?_⟩
      by_cases c : i = n
      · rw [c, ← g1]
        exact hs.1
      · exact g3 i (by omega)
theorem cl_pop {f A H : Nat} (hf : f < 8) (hA : A < 8) (hne : f ≠ A) : ∀ n fuel σ, n < fuel → n ≤ 3 → H + n ≤ 8 → σ.1 (125 + 6 * f) 4 = Int32.ofNat (H + n) → ∃ s, F_Ru_call_32 fuel (125 + 6 * f) (some (125 + 6 * A)) (Int32.ofNat n - Int32.ofNat 1) σ = some (false, s) ∧ (∀ x g, s.1 x g = if x = 125 + 6 * f ∧ g = 4 then Int32.ofNat H else σ.1 x g) ∧ s.2.2.1 = σ.2.2.1 ∧ s.2.2.2.1 = σ.2.2.2.1 ∧ ∀ x g, s.2.2.2.2 x g = if x = 127 + 6 * A ∧ g < n then σ.2.2.2.2 (126 + 6 * f) (H + g) else σ.2.2.2.2 x g := by
  have hFr := (cF hA).1
  intro n
  induction n with
  | zero =>
    intro fuel σ hfu h3 h8 h4
    obtain ⟨fuel, rfl⟩ : ∃ x, fuel = x + 1 := ⟨fuel - 1, by omega⟩
    have hneg : Int32.ofNat 0 - Int32.ofNat 1 < Int32.ofNat 0 := by decide
    refine ⟨σ, ?_, fun x g => ?_, rfl, rfl, fun x g => by rw [if_neg (by omega)]⟩
    · simp (disch := omega) only [↓reduceIte, Nat.reduceEqDiff, F_Ru_call_32, lit32, hneg, ite_true, ite_false, if_true, if_false, Bool.false_eq_true, and_self, and_true, true_and, and_false, false_and]
    · by_cases c : x = 125 + 6 * f ∧ g = 4
      · rw [if_pos c, c.1, c.2]; exact h4
      · rw [if_neg c]
  | succ n ih =>
    intro fuel σ hfu h3 h8 h4
    obtain ⟨fuel, rfl⟩ : ∃ x, fuel = x + 1 := ⟨fuel - 1, by omega⟩
    have p1 := fr_pop (σ := σ) (h := H + n) hf h4 (by omega)
    have p2 := fr_setArg (σ := setI σ (125 + 6 * f) 4 (Int32.ofNat (H + n))) (f := A) (k := n) (v := σ.2.2.2.2 (126 + 6 * f) (H + n)) hA (by omega)
    obtain ⟨s, g1, g2, g3, g4, g5⟩ := ih fuel (setL (setI σ (125 + 6 * f) 4 (Int32.ofNat (H + n))) (127 + 6 * A) n (σ.2.2.2.2 (126 + 6 * f) (H + n))) (by omega) (by omega) (by omega) (by
      show (setI σ (125 + 6 * f) 4 (Int32.ofNat (H + n))).1 _ _ = _
      rw [rI, if_pos ⟨rfl, rfl⟩])
    refine ⟨s, ?_, fun x g => ?_, g3, g4, fun x g => ?_⟩
    · have e1 : Int32.ofNat (n + 1) - Int32.ofNat 1 = Int32.ofNat n := by rw [n_sub (by omega), Nat.add_sub_cancel]
      have e2 : Int32.ofNat n + -Int32.ofNat 1 = Int32.ofNat n - Int32.ofNat 1 := (Int32.sub_eq_add_neg _ _).symm
      rw [e1, ← g1]
      simp (disch := omega) only [↓reduceIte, Nat.reduceEqDiff, F_Ru_call_32, lit32, n_nl0, n_lt, if_neg, p1, hFr, if_pos, p2, e2, ite_true, ite_false, if_true, if_false, Bool.false_eq_true, and_self, and_true, true_and, and_false, false_and]
    · rw [g2]
      by_cases c : x = 125 + 6 * f ∧ g = 4
      · rw [if_pos c, if_pos c]
      · rw [if_neg c, if_neg c]
        show (setI σ (125 + 6 * f) 4 (Int32.ofNat (H + n))).1 x g = _
        rw [rI, if_neg c]
    · rw [g5]
      have e3 : ∀ y j, (setL (setI σ (125 + 6 * f) 4 (Int32.ofNat (H + n))) (127 + 6 * A) n (σ.2.2.2.2 (126 + 6 * f) (H + n))).2.2.2.2 y j = if y = 127 + 6 * A ∧ j = n then σ.2.2.2.2 (126 + 6 * f) (H + n) else σ.2.2.2.2 y j := fun y j => by rw [rL]; rfl
      rw [e3, e3]
      by_cases c : x = 127 + 6 * A ∧ g < n
      · rw [if_pos c, if_neg (by omega), if_pos (by omega)]
      · rw [if_neg c]
        by_cases c2 : x = 127 + 6 * A ∧ g = n
        · rw [if_pos c2, if_pos (by omega), c2.2]
        · rw [if_neg c2, if_neg (by omega)]
theorem mo_pop {k f H : Nat} (hf : f + 1 < 8) : ∀ n fuel σ, n < fuel → n ≤ 3 → H + n ≤ 8 → σ.1 0 31 = Int32.ofNat (f + 1) → σ.2.2.2.1 22 f = Int32.ofNat (H + n) → ∃ s, (∀ r, F_Mo_enter 0 (Int32.ofNat k) s = some r → F_Mo_call_24 fuel 0 (Int32.ofNat k) (Int32.ofNat n - Int32.ofNat 1) σ = some r) ∧ (∀ g, g ≠ 46 → s.1 0 g = σ.1 0 g) ∧ s.2.2.2.2 = σ.2.2.2.2 ∧ s.2.2.2.1 22 f = Int32.ofNat H ∧ (∀ x g, ¬ (x = 22 ∧ g = f) → ¬ ((x = 25 ∨ x = 26) ∧ 32 + 3 * (f + 1) ≤ g ∧ g < 32 + 3 * (f + 1) + n) → s.2.2.2.1 x g = σ.2.2.2.1 x g) ∧ ∀ i, i < n → s.2.2.2.1 25 (32 + 3 * (f + 1) + i) = σ.2.2.2.1 23 (8 * f + (H + i)) ∧ s.2.2.2.1 26 (32 + 3 * (f + 1) + i) = σ.2.2.2.1 24 (8 * f + (H + i)) := by
  intro n
  induction n with
  | zero =>
    intro fuel σ hfu h3 h8 h31 h22
    obtain ⟨fuel, rfl⟩ : ∃ x, fuel = x + 1 := ⟨fuel - 1, by omega⟩
    have hneg : Int32.ofNat 0 - Int32.ofNat 1 < Int32.ofNat 0 := by decide
    refine ⟨σ, fun r hr => ?_, fun _ _ => rfl, rfl, h22, fun _ _ _ _ => rfl, fun i hi => by omega⟩
    simp (disch := omega) only [↓reduceIte, Nat.reduceEqDiff, F_Mo_call_24, lit32, hneg, hr, ite_true, ite_false, if_true, if_false, Bool.false_eq_true, and_self, and_true, true_and, and_false, false_and]
  | succ n ih =>
    intro fuel σ hfu h3 h8 h31 h22
    obtain ⟨fuel, rfl⟩ : ∃ x, fuel = x + 1 := ⟨fuel - 1, by omega⟩
    have p1 := mo_get (σ := σ) (f := f) (h := H + n) h31 (by omega) h22 (by omega)
    have r31 : ∀ v w : Int32, (setI (setA σ 22 f v) 0 46 w).1 0 31 = Int32.ofNat (f + 1) := fun v w => by
      rw [rI, if_neg (by omega)]; exact h31
    have r46 : ∀ (u v w : Int32) x g, (setA (setI (setA σ 22 f v) 0 46 w) x g u).1 0 46 = w := fun u v w x g => by
      show (setI (setA σ 22 f v) 0 46 w).1 0 46 = w
      rw [rI, if_pos ⟨rfl, rfl⟩]
    have q31 : ∀ (u v w : Int32) x g, (setA (setI (setA σ 22 f v) 0 46 w) x g u).1 0 31 = Int32.ofNat (f + 1) := fun u v w x g => r31 v w
    obtain ⟨s, g1, g2, g3, g4, g5, g6⟩ := ih fuel (setA (setA (setI (setA σ 22 f (Int32.ofNat (H + n))) 0 46 (σ.2.2.2.1 24 (8 * f + (H + n)))) 25 (32 + 3 * (f + 1) + n) (σ.2.2.2.1 23 (8 * f + (H + n)))) 26 (32 + 3 * (f + 1) + n) (σ.2.2.2.1 24 (8 * f + (H + n)))) (by omega) (by omega) (by omega) (r31 (Int32.ofNat (H + n)) (σ.2.2.2.1 24 (8 * f + (H + n)))) (by
      rw [rA, if_neg (by omega), rA, if_neg (by omega)]
      show (setA σ 22 f (Int32.ofNat (H + n))).2.2.2.1 22 f = _
      rw [rA, if_pos ⟨rfl, rfl⟩])
    have hrd : ∀ x g, ¬ (x = 22 ∧ g = f) → ¬ ((x = 25 ∨ x = 26) ∧ g = 32 + 3 * (f + 1) + n) → (setA (setA (setI (setA σ 22 f (Int32.ofNat (H + n))) 0 46 (σ.2.2.2.1 24 (8 * f + (H + n)))) 25 (32 + 3 * (f + 1) + n) (σ.2.2.2.1 23 (8 * f + (H + n)))) 26 (32 + 3 * (f + 1) + n) (σ.2.2.2.1 24 (8 * f + (H + n)))).2.2.2.1 x g = σ.2.2.2.1 x g := fun x g h1 h2 => by
      rw [rA, if_neg (by omega), rA, if_neg (by omega)]
      show (setA σ 22 f (Int32.ofNat (H + n))).2.2.2.1 x g = _
      rw [rA, if_neg h1]
    refine ⟨s, fun r hr => ?_, fun g hg => ?_, g3, g4, fun x g h1 h2 => ?_, fun i hi => ?_⟩
    · have e1 : Int32.ofNat (n + 1) - Int32.ofNat 1 = Int32.ofNat n := by rw [n_sub (by omega), Nat.add_sub_cancel]
      have e2 : Int32.ofNat n + -Int32.ofNat 1 = Int32.ofNat n - Int32.ofNat 1 := (Int32.sub_eq_add_neg _ _).symm
      rw [e1, ← g1 r hr]
      simp (disch := omega) only [↓reduceIte, Nat.reduceEqDiff, F_Mo_call_24, lit32, n_nl0, n_lt, if_neg, p1, r31, q31, r46, n_mul, n_add, n_cl, false_or, cm_37, cm_38, stl_e, e2, ite_true, ite_false, if_true, if_false, Bool.false_eq_true, and_self, and_true, true_and, and_false, false_and]
    · rw [g2 g hg]
      show (setI (setA σ 22 f (Int32.ofNat (H + n))) 0 46 _).1 0 g = _
      rw [rI, if_neg (by omega)]
      rfl
    · rw [g5 x g h1 (by omega), hrd x g h1 (by omega)]
    · by_cases c : i = n
      · rw [c, g5 _ _ (by omega) (by omega), g5 _ _ (by omega) (by omega), rA, if_neg (by omega), rA, if_pos ⟨rfl, rfl⟩, rA, if_pos ⟨rfl, rfl⟩]
        exact ⟨rfl, rfl⟩
      · obtain ⟨k1, k2⟩ := g6 i (by omega)
        rw [k1, k2, hrd _ _ (by omega) (by omega), hrd _ _ (by omega) (by omega)]
        exact ⟨rfl, rfl⟩
theorem TyC_cl {im : Im} {A k : Nat} {ms T : Nat → Nat} {md x : Nat} (hA : A < 8) : TyC im (A + 1) (upp ms A k) T md x = if x < 32 ∧ x / 4 = A then lty im k (x % 4) else TyC im A ms T md x := by
  unfold TyC
  by_cases c : x < 32
  · rw [if_pos c, if_pos c]
    by_cases d : x / 4 = A
    · rw [if_pos (show x < 32 ∧ x / 4 = A from ⟨c, d⟩), if_pos (by omega), d, upp_s]
    · rw [if_neg (show ¬ (x < 32 ∧ x / 4 = A) by omega), upp_n _ _ d]
      by_cases e : x / 4 < A
      · rw [if_pos e, if_pos (by omega)]
      · rw [if_neg e, if_neg (by omega)]
  · rw [if_neg (show ¬ (x < 32 ∧ x / 4 = A) by omega), if_neg c, if_neg c]
theorem Mono_cl (im : Im) {A k : Nat} (ms T : Nat → Nat) (md f : Nat) (hA : A < 8) : Mono im A ms T md (A + 1) (upp ms A k) T md f := by
  refine ⟨fun x hx h1 _ => ?_, Nat.le_refl _, fun _ _ => rfl⟩
  rw [TyC_cl hA, if_neg (fun z => ?_)]
  · exact h1
  · unfold TyC at h1
    rw [if_pos z.1, if_neg (by omega)] at h1
    omega
/-- a frame more: what the states hold -/
theorem Md_cl {im : Im} {IA A : Nat} {ms ps : Nat → Nat} {ls : Nat → List Nat} {T : Nat → Nat} {md : Nat} {σc σm : SG} {k : Nat} {L' : List Nat} {σc1 σm1 : SG} (h : Md im IA A ms ps ls T md σc σm) (hA8 : A < 8) (hk : k < im 0 1) (hV : VOK im k) (hl' : L'.length ≤ 8) (hst : StR im A ms T md σc σm (A - 1) L')
    (hI : ∀ x g, σc1.1 x g = if x = 125 + 6 * (A - 1) ∧ g = 4 then Int32.ofNat L'.length else if x = 123 ∧ g = 11 then Int32.ofNat (A + 1) else if x = 125 + 6 * A ∧ g = 2 then Int32.ofNat k else if x = 125 + 6 * A ∧ (g = 3 ∨ g = 4) then Int32.ofNat 0 else σc.1 x g)
    (hP : ∀ x g, σc1.2.2.1 x g = if x = 125 + 6 * A ∧ g = 1 then IA + 4 + 9 * k else σc.2.2.1 x g) (hAr : ∀ x g, x ≠ 128 + 6 * A → σc1.2.2.2.1 x g = σc.2.2.2.1 x g) (hL : ∀ x g, ¬ (x = 127 + 6 * A) → ¬ (x = 173 ∧ 4 * A ≤ g ∧ g < 4 * A + 4) → σc1.2.2.2.2 x g = σc.2.2.2.2 x g) (hL0 : ∀ g, 4 * A ≤ g → g < 4 * A + 4 → σc1.2.2.2.2 173 g = 0)
    (mI : ∀ g, g ≠ 46 → σm1.1 0 g = if g = 31 then Int32.ofNat (A + 1) else σm.1 0 g) (mL : σm1.2.2.2.2 = σm.2.2.2.2) (m22 : σm1.2.2.2.1 22 (A - 1) = Int32.ofNat L'.length)
    (mA : ∀ x g, ¬ (x = 22 ∧ g = A - 1) → ¬ ((20 ≤ x ∧ x ≤ 22) ∧ g = A) → ¬ ((x = 25 ∨ x = 26) ∧ 32 + 3 * A ≤ g ∧ g < 35 + 3 * A) → ¬ ((x = 25 ∨ x = 26) ∧ 4 * A ≤ g ∧ g < 4 * A + 4) → ¬ (x = 28 ∧ 3 * A ≤ g ∧ g < 3 * A + 3) → σm1.2.2.2.1 x g = σm.2.2.2.1 x g) (m20 : σm1.2.2.2.1 20 A = Int32.ofNat k) (m22' : σm1.2.2.2.1 22 A = Int32.ofNat 0) (mz : ∀ i, i < im 7 k → σm1.2.2.2.1 25 (4 * A + i) = (if 3 < im 8 (4 * k + i) then -Int32.ofNat 1 else Int32.ofNat 0) ∧ σm1.2.2.2.1 26 (4 * A + i) = Int32.ofNat 0)
    (har : ∀ i, i < im 5 k → VR im A ms T md (A - 1) (im 6 (3 * k + i)) (σc1.2.2.2.2 (127 + 6 * A) i) (σm1.2.2.2.1 25 (32 + 3 * A + i)) (σm1.2.2.2.1 26 (32 + 3 * A + i))) :
    Md im IA (A + 1) (upp ms A k) (upp ps A 0) (upl (upl ls (A - 1) L') A []) T md σc1 σm1 := by
  have hn3 := TyC_n3 (σc0 := σc) (σm0 := σm) h
  have hI' : ∀ x g, σc1.1 x g = if x = 125 + 6 * (A - 1) ∧ g = 4 then Int32.ofNat L'.length else if x = 123 ∧ g = 11 then Int32.ofNat (A + 1) else if x = 125 + 6 * A ∧ g = 2 then Int32.ofNat k else if x = 125 + 6 * A ∧ (g = 3 ∨ g = 4) then Int32.ofNat 0 else σc.1 x g := hI
  have hIo : ∀ x g, ¬ (x = 125 + 6 * (A - 1) ∧ g = 4) → ¬ (x = 123 ∧ g = 11) → ¬ (x = 125 + 6 * A ∧ 2 ≤ g ∧ g ≤ 4) → σc1.1 x g = σc.1 x g := fun x g h1 h2 h3 => by
    rw [hI', if_neg h1, if_neg h2, if_neg (by omega), if_neg (by omega)]
  have mI' : ∀ g, g ≠ 46 → g ≠ 31 → σm1.1 0 g = σm.1 0 g := fun g h1 h2 => by rw [mI g h1, if_neg h2]
  obtain ⟨⟨a1, a2, a3⟩, b0, ⟨c1, c2, c3, c4, c5⟩, d, e, g, q⟩ := h
  have hIA := b0.1.1
  have hwc : Wc σc σc1 := ⟨fun x g hx => hIo x g (by omega) (by omega) (by omega), fun x g hx => by rw [hP, if_neg (by omega)], fun x g hx => hAr x g (by omega), fun f _ => hIo _ _ (by omega) (by omega) (by omega)⟩
  have hwm : Wm σm σm1 := ⟨fun g _ _ _ _ h31 _ h46 => mI' g h46 h31, fun x g hx => mA x g (by omega) (by omega) (by omega) (by omega) (by omega), mL⟩
  have hw := b0.2.2.1
  have wk := wf_m hw hk
  have hMo : ∀ f, Mono im A ms T md (A + 1) (upp ms A k) T md f := fun f => Mono_cl im ms T md f hA8
  refine ⟨⟨by omega, by omega, a3⟩, Img_congr b0 hwc hwm, ⟨?_, ?_, ?_, ?_, ?_⟩, fun f hf => ?_, fun f hf => ?_, ⟨fun x hx ht => ?_, fun j hj => ⟨(g.2 j hj).1, fun e4 => ?_⟩⟩, fun j hj => ?_⟩
  · rw [hI', if_neg (by omega), if_pos ⟨rfl, rfl⟩]
  · rw [mI _ (by omega), if_pos rfl]
  · rw [hIo _ _ (by omega) (by omega) (by omega)]; exact c3
  · rw [mI' _ (by omega) (by omega)]; exact c4
  · rw [hP, if_neg (by omega)]; exact c5
  · rw [hIo _ _ (by omega) (by omega) (by omega)]; exact d f hf
  · by_cases cf : f = A
    · subst cf
      unfold FrI
      rw [upp_s, upp_s, upl_s]
      refine ⟨hk, hV, ?_, ?_, by omega, ?_, by decide, ?_, m20, m22', trivial, fun i hi => ?_, fun r hr _ hh => ?_⟩
      · rw [hP, if_pos ⟨rfl, rfl⟩]
      · rw [hI', if_neg (by omega), if_neg (by omega), if_pos ⟨rfl, rfl⟩]
      · rw [hI', if_neg (by omega), if_neg (by omega), if_neg (by omega), if_pos ⟨rfl, Or.inl rfl⟩]
      · rw [hI', if_neg (by omega), if_neg (by omega), if_neg (by omega), if_pos ⟨rfl, Or.inr rfl⟩]; rfl
      · exact VR_mono (har i hi) (hMo _) (by omega)
      · exfalso
        have h1 := (hV.2.1 r hr).1
        unfold iH at hh
        omega
    · by_cases cf1 : f = A - 1
      · subst cf1
        obtain ⟨f1, f2, f3, f4, f5, f6, f7, f8, f9, f10, f11, f12, f13⟩ := e (A - 1) (by omega)
        have w := wf_m hw f1
        unfold FrI
        rw [upp_n _ _ (by omega), upp_n _ _ (by omega), upl_n _ _ (by omega), upl_s]
        refine ⟨f1, f2, ?_, ?_, f5, ?_, hl', ?_, ?_, m22, StR_mono (hMo _) _ (StR_congr _ hst (fun j hj => ⟨hL _ _ (by omega) (by omega), mA _ _ (by omega) (by omega) (by omega) (by omega) (by omega), mA _ _ (by omega) (by omega) (by omega) (by omega) (by omega)⟩)), fun i hi => ?_, PnR_congr f13 w.2.2.2.2.2.2.1 (fun x g _ _ => hAr _ _ (by omega)) (fun x g _ _ _ => mA _ _ (by omega) (by omega) (by omega) (by omega) (by omega))⟩
        · rw [hP, if_neg (by omega)]; exact f3
        · rw [hIo _ _ (by omega) (by omega) (by omega)]; exact f4
        · rw [hIo _ _ (by omega) (by omega) (by omega)]; exact f6
        · rw [hI', if_pos ⟨rfl, rfl⟩]
        · rw [mA _ _ (by omega) (by omega) (by omega) (by omega) (by omega)]; exact f9
        · have h5 := w.2.2.1
          rw [hL _ _ (by omega) (by omega), mA _ _ (by omega) (by omega) (by omega) (by omega) (by omega), mA _ _ (by omega) (by omega) (by omega) (by omega) (by omega)]
          exact VR_mono (f12 i hi) (hMo _) (Nat.le_refl _)
      · refine FrI_congr hw (e f (by omega)) ⟨fun g => hIo _ _ (by omega) (by omega) (by omega), by rw [hP, if_neg (by omega)], fun y g hy => hL _ _ (by omega) (by omega), fun y g h1 h2 => hAr _ _ (by omega)⟩ ⟨fun y hy => mA _ _ (by omega) (by omega) (by omega) (by omega) (by omega), fun y g hy _ _ => mA _ _ (by omega) (by omega) (by omega) (by omega) (by omega), fun y g hy h1 h2 => mA _ _ (by omega) (by omega) (by omega) (by omega) (by omega), fun y g hy _ _ => mA _ _ (by omega) (by omega) (by omega) (by omega) (by omega)⟩ (hMo _) (upp_n _ _ cf) (upp_n _ _ cf) ?_
        rw [upl_n _ _ cf, upl_n _ _ cf1]
  · rw [TyC_cl hA8] at ht ⊢
    by_cases c : x < 32 ∧ x / 4 = A
    · rw [if_pos c] at ht ⊢
      have h7 := wk.2.2.2.2.1
      have hi7 : x % 4 < im 7 k := by
        unfold lty at ht
        by_cases z : x % 4 < im 7 k
        · exact z
        · rw [if_neg z] at ht; omega
      have el : lty im k (x % 4) = im 8 (4 * k + x % 4) := by unfold lty; rw [if_pos hi7]
      have ex : 4 * A + x % 4 = x := by omega
      obtain ⟨z1, z2⟩ := mz _ hi7
      rw [ex] at z1 z2
      have hl3 := lty_n3 (k := x % 4) hw hk
      rw [hL0 x (by omega) (by omega), ra_loc c.1, z1, z2]
      rw [el] at ht hl3 ⊢
      exact VR_zero ht hl3
    · rw [if_neg c] at ht ⊢
      have hr := ra_lt hx
      have hra : ¬ (4 * A ≤ ra x ∧ ra x < 4 * A + 4) := by
        unfold ra
        by_cases c3 : x < 32
        · rw [if_pos c3]; omega
        · rw [if_neg c3]; omega
      rw [hL _ _ (by omega) (by omega), mA _ _ (by omega) (by omega) (by omega) (by omega) (by omega), mA _ _ (by omega) (by omega) (by omega) (by omega) (by omega)]
      exact VR_n3 (g.1 x hx ht) (hn3 x) (Nat.le_refl _) (fun _ _ => rfl)
  · obtain ⟨n, n1, n2, n3⟩ := (g.2 j hj).2 e4
    exact ⟨n, n1, by rw [hAr _ _ (by omega)]; exact n2, by rw [mA _ _ (by omega) (by omega) (by omega) (by omega) (by omega)]; exact n3⟩
  · rw [hAr _ _ (by omega), mA _ _ (by omega) (by omega) (by omega) (by omega) (by omega)]
    exact q j hj
