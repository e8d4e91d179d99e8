/-! The start of a run. -/
theorem tk_l {im : Im} {IA k : Nat} {σ : SG} (h : ImC σ IA im) (hk : k < im 0 1) : ∀ c i fuel, i + c = im 5 k → c < fuel → ∃ b, F_Me_takesNumbersAlone_2 fuel (IA + 4 + 9 * k) (Int32.ofNat i) σ = some (b, σ) ∧ (b = true ↔ ∀ j, i ≤ j → j < im 5 k → im 6 (3 * k + j) = 1) := by
  have hMc := d_Mc h hk
  obtain ⟨h1, h2⟩ := IC_ac h hk
  intro c
  induction c with
  | zero =>
    intro i fuel hi hf
    obtain ⟨fuel, rfl⟩ : ∃ x, fuel = x + 1 := ⟨fuel - 1, by omega⟩
    refine ⟨true, ?_, fun _ j j1 j2 => by omega, fun _ => rfl⟩
    simp (disch := omega) only [F_Me_takesNumbersAlone_2, h1, n_le, if_pos, ite_true, ite_false, if_true, if_false, Bool.false_eq_true, and_self, and_true, true_and, and_false, false_and]
  | succ c ih =>
    intro i fuel hi hf
    obtain ⟨fuel, rfl⟩ : ∃ x, fuel = x + 1 := ⟨fuel - 1, by omega⟩
    have ha := (IC_at (i := i) h hk (by omega)).1
    have hw := IC_at (i := i) h hk (by omega)
    have h12 : im 6 (3 * k + i) < 256 := by
      have := tyP_lt hw.2 (IC_nc h).2
      omega
    have hc5 : cref SHc (IA + 4 + 9 * k) 5 = IA + 4 + 9 * k + 1 := cM5 hMc
    by_cases c1 : im 6 (3 * k + i) = 1
    · obtain ⟨b, g1, g2⟩ := ih (i + 1) fuel (by omega) (by omega)
      refine ⟨b, ?_, ?_⟩
      · rw [c1] at ha
        simp (disch := omega) only [F_Me_takesNumbersAlone_2, h1, n_le, if_neg, lit32, n_nl0, n_cl, false_or, hc5, ha, if_pos, n_add, g1, ite_true, ite_false, if_true, if_false, Bool.false_eq_true, and_self, and_true, true_and, and_false, false_and]
      · rw [g2]
        refine ⟨fun z j j1 j2 => ?_, fun z j j1 j2 => z j (by omega) j2⟩
        by_cases cj : j = i
        · rw [cj]; exact c1
        · exact z j (by omega) j2
    · refine ⟨false, ?_, ?_⟩
      · simp (disch := omega) only [F_Me_takesNumbersAlone_2, h1, n_le, if_neg, lit32, n_nl0, n_cl, false_or, hc5, ha, n_eq, ite_true, ite_false, if_true, if_false, Bool.false_eq_true, and_self, and_true, true_and, and_false, false_and]
      · exact ⟨(fun z => absurd z (by decide)), fun z => absurd (z i (Nat.le_refl _) (by omega)) c1⟩
def s16 (σ : SG) : SG := setI (setI (setI (setI σ 0 28 (Int32.ofNat 1)) 0 29 (Int32.ofNat 0)) 0 30 (Int32.ofNat 0)) 0 31 (Int32.ofNat 0)
theorem sk_l {im : Im} {k : Nat} {σ : SG} {a b : Int32} (hw : WfI im) (hM : RepM σ im) (hk : k < im 0 1) : ∀ c i fuel, i + c = im 5 k → c < fuel → ((∀ j, i ≤ j → j < im 5 k → im 6 (3 * k + j) = 1) → ∀ r, F_Mo_start_70 5000 0 (Int32.ofNat k) a b (Int32.ofNat 0) (s16 σ) = some r → F_Mo_start_13 fuel 0 (Int32.ofNat k) a b (Int32.ofNat i) σ = some r) ∧ (¬ (∀ j, i ≤ j → j < im 5 k → im 6 (3 * k + j) = 1) → F_Mo_start_13 fuel 0 (Int32.ofNat k) a b (Int32.ofNat i) σ = some (false, σ)) := by
  have w := wf_m hw hk
  have h6 := w.1
  have h5 := w.2.2.1
  have m5 := hM.2.2.2 5 k (by omega) (by omega)
  intro c
  induction c with
  | zero =>
    intro i fuel hi hf
    obtain ⟨fuel, rfl⟩ : ∃ x, fuel = x + 1 := ⟨fuel - 1, by omega⟩
    refine ⟨fun _ r hr => ?_, fun z => absurd (fun j j1 j2 => by omega) z⟩
    unfold s16 at hr
    simp (disch := omega) only [↓reduceIte, Nat.reduceEqDiff, F_Mo_start_13, lit32, n_nl0, n_cl, false_or, if_neg, cm_9, m5, n_le, if_pos, stl_e, hr, ite_true, ite_false, if_true, if_false, Bool.false_eq_true, and_self, and_true, true_and, and_false, false_and]
  | succ c ih =>
    intro i fuel hi hf
    obtain ⟨fuel, rfl⟩ : ∃ x, fuel = x + 1 := ⟨fuel - 1, by omega⟩
    have m6 := hM.2.2.2 6 (3 * k + i) (by omega) (by omega)
    have h256 := hM.1 6 (3 * k + i)
    by_cases c1 : im 6 (3 * k + i) = 1
    · obtain ⟨g1, g2⟩ := ih (i + 1) fuel (by omega) (by omega)
      have e : ∀ r, F_Mo_start_13 fuel 0 (Int32.ofNat k) a b (Int32.ofNat (i + 1)) σ = r → F_Mo_start_13 (fuel + 1) 0 (Int32.ofNat k) a b (Int32.ofNat i) σ = r := fun r hr => by
        rw [c1] at m6
        simp (disch := omega) only [↓reduceIte, Nat.reduceEqDiff, F_Mo_start_13, lit32, n_nl0, n_cl, false_or, if_neg, cm_9, m5, n_le, n_mul, n_add, cm_10, m6, if_pos, hr, ite_true, ite_false, if_true, if_false, Bool.false_eq_true, and_self, and_true, true_and, and_false, false_and]
      refine ⟨fun z r hr => e _ (g1 (fun j j1 j2 => z j (by omega) j2) r hr), fun z => e _ (g2 (fun y => z (fun j j1 j2 => ?_)))⟩
      by_cases cj : j = i
      · rw [cj]; exact c1
      · exact y j (by omega) j2
    · refine ⟨fun z => absurd (z i (Nat.le_refl _) (by omega)) c1, fun _ => ?_⟩
      simp (disch := omega) only [↓reduceIte, Nat.reduceEqDiff, F_Mo_start_13, lit32, n_nl0, n_cl, false_or, if_neg, cm_9, m5, n_le, n_mul, n_add, cm_10, m6, n_eq, ite_true, ite_false, if_true, if_false, Bool.false_eq_true, and_self, and_true, true_and, and_false, false_and]
theorem be_l {k : Nat} {a b : Int32} : ∀ c i fuel σ, i + c = 18 → c < fuel → ∃ s, (∀ s1, F_Ru_activate 123 (Int32.ofNat k) s = some (some (125 + 6 * 0), s1) → F_Ru_begin_28 fuel 123 (Int32.ofNat k) a b (Int32.ofNat i) σ = some (setL (setL (setL s1 (127 + 6 * 0) 0 a.toInt64) (127 + 6 * 0) 1 b.toInt64) (127 + 6 * 0) 2 0)) ∧ s.1 = σ.1 ∧ s.2.2.1 = σ.2.2.1 ∧ s.2.2.2.2 = σ.2.2.2.2 ∧ (∀ x g, ¬ (x = 175 ∧ i ≤ g) → s.2.2.2.1 x g = σ.2.2.2.1 x g) ∧ ∀ g, i ≤ g → g < 18 → s.2.2.2.1 175 g = Int32.ofNat 0 := by
  have hFr := (cF (f := 0) (by omega)).1
  intro c
  induction c with
  | zero =>
    intro i fuel σ hi hf
    obtain ⟨fuel, rfl⟩ : ∃ x, fuel = x + 1 := ⟨fuel - 1, by omega⟩
    refine ⟨σ, fun s1 hs => ?_, rfl, rfl, rfl, fun _ _ _ => rfl, fun g g1 g2 => by omega⟩
    have p0 := fr_setArg (σ := s1) (f := 0) (k := 0) (v := a.toInt64) (by omega) (by omega)
    have p1 := fr_setArg (σ := setL s1 (127 + 6 * 0) 0 a.toInt64) (f := 0) (k := 1) (v := b.toInt64) (by omega) (by omega)
    have p2 := fr_setArg (σ := setL (setL s1 (127 + 6 * 0) 0 a.toInt64) (127 + 6 * 0) 1 b.toInt64) (f := 0) (k := 2) (v := 0) (by omega) (by omega)
    simp (disch := omega) only [↓reduceIte, Nat.reduceEqDiff, F_Ru_begin_28, lit32, n_le, if_pos, hs, hFr, p0, p1, p2, ite_true, ite_false, if_true, if_false, Bool.false_eq_true, and_self, and_true, true_and, and_false, false_and]
  | succ c ih =>
    intro i fuel σ hi hf
    obtain ⟨fuel, rfl⟩ : ∃ x, fuel = x + 1 := ⟨fuel - 1, by omega⟩
    obtain ⟨s, g1, g2, g3, g4, g5, g6⟩ := ih (i + 1) fuel (setA σ 175 i (Int32.ofNat 0)) (by omega) (by omega)
    refine ⟨s, fun s1 hs => ?_, g2, g3, g4, fun x g hx => by rw [g5 x g (by omega), rA, if_neg (by omega)], fun g j1 j2 => ?_⟩
    · have := g1 s1 hs
      simp (disch := omega) only [↓reduceIte, Nat.reduceEqDiff, F_Ru_begin_28, lit32, n_le, if_neg, n_nl0, n_cl, false_or, cR4, stl_e, n_add, this, ite_true, ite_false, if_true, if_false, Bool.false_eq_true, and_self, and_true, true_and, and_false, false_and]
    · by_cases cg : g = i
      · rw [g5 _ _ (by omega), rA, if_pos ⟨rfl, cg⟩]
      · exact g6 g (by omega) j2
theorem bm_l {k : Nat} {a b : Int32} : ∀ c i fuel σ, i + c = 18 → c < fuel → ∃ s, (∀ s1, F_Mo_enter 0 (Int32.ofNat k) s = some s1 → F_Mo_start_70 fuel 0 (Int32.ofNat k) a b (Int32.ofNat i) σ = some (true, setA (setA (setA s1 25 32 a) 25 33 b) 25 34 (Int32.ofNat 0))) ∧ s.1 = σ.1 ∧ s.2.2.2.2 = σ.2.2.2.2 ∧ (∀ x g, ¬ (x = 31 ∧ i ≤ g) → s.2.2.2.1 x g = σ.2.2.2.1 x g) ∧ ∀ g, i ≤ g → g < 18 → s.2.2.2.1 31 g = Int32.ofNat 0 := by
  intro c
  induction c with
  | zero =>
    intro i fuel σ hi hf
    obtain ⟨fuel, rfl⟩ : ∃ x, fuel = x + 1 := ⟨fuel - 1, by omega⟩
    refine ⟨σ, fun s1 hs => ?_, rfl, rfl, fun _ _ _ => rfl, fun g g1 g2 => by omega⟩
    simp (disch := omega) only [↓reduceIte, Nat.reduceEqDiff, F_Mo_start_70, lit32, n_le, if_pos, hs, cm_37, n_cl, stl_e, ite_true, ite_false, if_true, if_false, Bool.false_eq_true, and_self, and_true, true_and, and_false, false_and]
  | succ c ih =>
    intro i fuel σ hi hf
    obtain ⟨fuel, rfl⟩ : ∃ x, fuel = x + 1 := ⟨fuel - 1, by omega⟩
    obtain ⟨s, g1, g2, g3, g4, g5⟩ := ih (i + 1) fuel (setA σ 31 i (Int32.ofNat 0)) (by omega) (by omega)
    refine ⟨s, fun s1 hs => ?_, g2, g3, fun x g hx => by rw [g4 x g (by omega), rA, if_neg (by omega)], fun g j1 j2 => ?_⟩
    · have := g1 s1 hs
      simp (disch := omega) only [↓reduceIte, Nat.reduceEqDiff, F_Mo_start_70, lit32, n_le, if_neg, n_nl0, n_cl, false_or, cm_43, stl_e, n_add, this, ite_true, ite_false, if_true, if_false, Bool.false_eq_true, and_self, and_true, true_and, and_false, false_and]
    · by_cases cg : g = i
      · rw [g4 _ _ (by omega), rA, if_pos ⟨rfl, cg⟩]
      · exact g5 g (by omega) j2
/-- the first frame -/
theorem go_1 {d : Nat → Nat} {n : Nat} {im : Im} {IA IB k : Nat} {σc σm : SG} {a b : Int32} (h1 : DrC d n σc) (h2 : Drf d n σm) (h3 : ImgI σc σm im IA IB) (h4 : ∀ f, f < 8 → σc.1 (125 + 6 * f) 0 = Int32.ofNat (4 * f)) (h5 : σc.1 123 5 = Int32.ofNat 0) (hI : ImC σc IA im) (hw : WfI im) (hV : ∀ m, m < im 0 1 → VerI im m IA σc σm) (hk : k < im 0 1) (hCal : Cal (im 0 1) (VOK im) (Gc im) k) (hnum : ∀ j, j < im 5 k → im 6 (3 * k + j) = 1) :
    ∃ σc1 σm1, F_Ru_begin 123 IA (Int32.ofNat k) a b σc = some σc1 ∧ F_Mo_start_70 5000 0 (Int32.ofNat k) a b (Int32.ofNat 0) (s16 σm) = some (true, σm1) ∧ Inv σc1 σm1 := by
  have hIA := hI.1
  have hM := h3.2.2.2.2.1
  have hn6 := (IC_nm hI).2.2
  have hAB := h3.2.2.1
  obtain ⟨S, hSk, hCl⟩ := hCal
  have hVk : VOK im k := (hCl k hSk).2.1
  have w := wf_m hw hk
  -- the class
  have hb : ∀ x g, (setI (setI (setI (setI (setP σc 123 0 IA) 123 9 (Int32.ofNat 1)) 123 10 (Int32.ofNat 0)) 123 11 (Int32.ofNat 0)) 123 12 (Int32.ofNat 0)).1 x g = if x = 123 ∧ g = 12 then Int32.ofNat 0 else if x = 123 ∧ g = 11 then Int32.ofNat 0 else if x = 123 ∧ g = 10 then Int32.ofNat 0 else if x = 123 ∧ g = 9 then Int32.ofNat 1 else σc.1 x g := fun x g => by rw [rI, rI, rI, rI]; rfl
  obtain ⟨s, u1, u2, u3, u4, u5, u6⟩ := be_l (k := k) (a := a) (b := b) 18 0 5000 (setI (setI (setI (setI (setP σc 123 0 IA) 123 9 (Int32.ofNat 1)) 123 10 (Int32.ofNat 0)) 123 11 (Int32.ofNat 0)) 123 12 (Int32.ofNat 0)) (by omega) (by omega)
  have sI : ∀ x g, s.1 x g = if x = 123 ∧ g = 12 then Int32.ofNat 0 else if x = 123 ∧ g = 11 then Int32.ofNat 0 else if x = 123 ∧ g = 10 then Int32.ofNat 0 else if x = 123 ∧ g = 9 then Int32.ofNat 1 else σc.1 x g := fun x g => by rw [u2]; exact hb x g
  have sIo : ∀ x g, ¬ (x = 123 ∧ 9 ≤ g ∧ g ≤ 12) → s.1 x g = σc.1 x g := fun x g hx => by rw [sI, if_neg (by omega), if_neg (by omega), if_neg (by omega), if_neg (by omega)]
  have sP : ∀ x g, s.2.2.1 x g = if x = 123 ∧ g = 0 then IA else σc.2.2.1 x g := fun x g => by
    rw [u3]
    show (setP σc 123 0 IA).2.2.1 x g = _
    rw [rP]
  have sA : ∀ x g, x ≠ 175 → s.2.2.2.1 x g = σc.2.2.2.1 x g := fun x g hx => u5 x g (by omega)
  have hIs : ImC s IA im := ImC_congr hI (fun x f _ _ _ => sIo x f (by omega)) (fun x f _ _ _ => sA x f (by omega))
  obtain ⟨s1, v1, ⟨v2, v3, v4, v5, v6⟩⟩ := ru_act (A := 0) (k := k) hIs (by omega) hk (by rw [sI, if_neg (by omega), if_pos ⟨rfl, rfl⟩]) (by rw [sP, if_pos ⟨rfl, rfl⟩]) (by rw [sIo _ _ (by omega)]; exact h4 0 (by omega))
  have hc1 := u1 s1 v1
  -- the reference
  obtain ⟨t, x1, x2, x3, x4, x5⟩ := bm_l (k := k) (a := a) (b := b) 18 0 5000 (s16 σm) (by omega) (by omega)
  have tI : ∀ g, t.1 0 g = if g = 31 then Int32.ofNat 0 else if g = 30 then Int32.ofNat 0 else if g = 29 then Int32.ofNat 0 else if g = 28 then Int32.ofNat 1 else σm.1 0 g := fun g => by
    rw [x2]
    unfold s16
    rw [rI, rI, rI, rI]
    simp only [true_and]
  have hMt : RepM t im := ⟨hM.1, by rw [tI, if_neg (by omega), if_neg (by omega), if_neg (by omega), if_neg (by omega)]; exact hM.2.1, by rw [tI, if_neg (by omega), if_neg (by omega), if_neg (by omega), if_neg (by omega)]; exact hM.2.2.1, fun q g p1 p2 => by rw [x4 _ _ (by omega)]; exact hM.2.2.2 q g p1 p2⟩
  obtain ⟨t1, y1, y2, y3, y4, ⟨y5, y6, y7⟩, y8⟩ := mo_enter (A := 0) (k := k) hw hk (by omega) hMt (by rw [tI, if_pos rfl])
  have hm1 := x1 t1 y1
  -- how the last states read
  have cL : ∀ x g, ¬ (x = 127) → (setL (setL (setL s1 (127 + 6 * 0) 0 a.toInt64) (127 + 6 * 0) 1 b.toInt64) (127 + 6 * 0) 2 0).2.2.2.2 x g = s1.2.2.2.2 x g := fun x g hx => by rw [rL, if_neg (by omega), rL, if_neg (by omega), rL, if_neg (by omega)]
  have cI : ∀ x g, (setL (setL (setL s1 (127 + 6 * 0) 0 a.toInt64) (127 + 6 * 0) 1 b.toInt64) (127 + 6 * 0) 2 0).1 x g = s1.1 x g := fun _ _ => rfl
  have cA : ∀ x g, (setL (setL (setL s1 (127 + 6 * 0) 0 a.toInt64) (127 + 6 * 0) 1 b.toInt64) (127 + 6 * 0) 2 0).2.2.2.1 x g = s1.2.2.2.1 x g := fun _ _ => rfl
  have cP : ∀ x g, (setL (setL (setL s1 (127 + 6 * 0) 0 a.toInt64) (127 + 6 * 0) 1 b.toInt64) (127 + 6 * 0) 2 0).2.2.1 x g = s1.2.2.1 x g := fun _ _ => rfl
  have mA : ∀ x g, ¬ (x = 25 ∧ 32 ≤ g ∧ g ≤ 34) → (setA (setA (setA t1 25 32 a) 25 33 b) 25 34 (Int32.ofNat 0)).2.2.2.1 x g = t1.2.2.2.1 x g := fun x g hx => by rw [rA, if_neg (by omega), rA, if_neg (by omega), rA, if_neg (by omega)]
  have mI : ∀ g, (setA (setA (setA t1 25 32 a) 25 33 b) 25 34 (Int32.ofNat 0)).1 0 g = t1.1 0 g := fun _ => rfl


  have ag : ∀ i, i < 3 → ∃ v : Int32, (setL (setL (setL s1 (127 + 6 * 0) 0 a.toInt64) (127 + 6 * 0) 1 b.toInt64) (127 + 6 * 0) 2 0).2.2.2.2 127 i = v.toInt64 ∧ (setA (setA (setA t1 25 32 a) 25 33 b) 25 34 (Int32.ofNat 0)).2.2.2.1 25 (32 + i) = v := fun i hi => by
    have hi3 : i = 0 ∨ i = 1 ∨ i = 2 := by omega
    rcases hi3 with e | e | e
    · subst e
      refine ⟨a, ?_, ?_⟩
      · rw [rL, if_neg (by omega), rL, if_neg (by omega), rL, if_pos ⟨rfl, rfl⟩]
      · rw [rA, if_neg (by omega), rA, if_neg (by omega), rA, if_pos ⟨rfl, rfl⟩]
    · subst e
      refine ⟨b, ?_, ?_⟩
      · rw [rL, if_neg (by omega), rL, if_pos ⟨rfl, rfl⟩]
      · rw [rA, if_neg (by omega), rA, if_pos ⟨rfl, rfl⟩]
    · subst e
      refine ⟨Int32.ofNat 0, ?_, ?_⟩
      · rw [rL, if_pos ⟨rfl, rfl⟩]; rfl
      · rw [rA, if_pos ⟨rfl, rfl⟩]
  obtain ⟨σc1, ec⟩ : ∃ σc1, (setL (setL (setL s1 (127 + 6 * 0) 0 a.toInt64) (127 + 6 * 0) 1 b.toInt64) (127 + 6 * 0) 2 0) = σc1 := ⟨_, rfl⟩
  obtain ⟨σm1, em⟩ : ∃ σm1, (setA (setA (setA t1 25 32 a) 25 33 b) 25 34 (Int32.ofNat 0)) = σm1 := ⟨_, rfl⟩
  have ml : σm1.2.2.2.2 = σm.2.2.2.2 := by
    rw [← em]
    show t1.2.2.2.2 = _
    rw [y3, x3]; rfl
  rw [ec] at cL cI cA cP ag hc1
  rw [em] at mA mI ag hm1
  have zI : ∀ x g, ¬ (x = 123 ∧ 9 ≤ g ∧ g ≤ 12) → ¬ (x = 125 ∧ 2 ≤ g ∧ g ≤ 4) → σc1.1 x g = σc.1 x g := fun x g p q => by
    rw [cI, v2, if_neg (by omega), if_neg (by omega), if_neg (by omega)]; exact sIo x g p
  have zA : ∀ x g, x ≠ 175 → x ≠ 128 → σc1.2.2.2.1 x g = σc.2.2.2.1 x g := fun x g p q => by
    rw [cA, v4 x g (by omega)]; exact sA x g p
  have zP : ∀ x g, ¬ (x = 123 ∧ g = 0) → ¬ (x = 125 ∧ g = 1) → σc1.2.2.1 x g = σc.2.2.1 x g := fun x g p q => by
    rw [cP, v3, if_neg (by omega), sP, if_neg p]
  have zm : ∀ g, ¬ (28 ≤ g ∧ g ≤ 31) → σm1.1 0 g = σm.1 0 g := fun g p => by
    rw [mI, y2, if_neg (by omega), tI, if_neg (by omega), if_neg (by omega), if_neg (by omega), if_neg (by omega)]
  have zmA : ∀ x g, x < 20 → σm1.2.2.2.1 x g = σm.2.2.2.1 x g := fun x g p => by
    rw [mA _ _ (by omega), y4 _ _ (by omega) (by omega) (by omega), x4 _ _ (by omega)]; rfl
  have hMn : RepM σm1 im := ⟨hM.1, by rw [zm _ (by omega)]; exact hM.2.1, by rw [zm _ (by omega)]; exact hM.2.2.1, fun q g p1 p2 => by rw [zmA _ _ (by omega)]; exact hM.2.2.2 q g p1 p2⟩
  obtain ⟨yB, hyB⟩ := h3.2.2.2.1
  have hImg : ImgI σc1 σm1 im IA IB := ImgI_congr h3 (zP _ _ (by omega) (by omega)) (zP _ _ (by omega) (by omega)) (fun x g p q => zI x g (by omega) (by omega)) (fun x g p q => zA x g (by omega) (by omega)) ⟨yB, RelC_congr hyB (fun x g p q => zI x g (by omega) (by omega)) (fun x g p q => zA x g (by omega) (by omega))⟩ hMn (fun x g _ p => zmA x g p) ml
  have hIn : ImC σc1 IA im := ImC_congr hI (fun x f _ _ _ => zI x f (by omega) (by omega)) (fun x f _ _ _ => zA x f (by omega) (by omega))
  have hVn : ∀ m, m < im 0 1 → VerI im m IA σc1 σm1 := fun m hm => VerI_FX (hV m hm) (by omega) (fun x g p q => zI x g (by omega) (by omega)) (fun x g p q => zA x g (by omega) (by omega)) (fun x g _ p => zmA x g p) ml
  have hen : ∀ g, g < 18 → σc1.2.2.2.1 175 g = Int32.ofNat 0 := fun g p => by rw [cA, v4 _ _ (by omega)]; exact u6 g (Nat.zero_le _) p
  have hem : ∀ g, g < 18 → σm1.2.2.2.1 31 g = Int32.ofNat 0 := fun g p => by rw [mA _ _ (by omega), y4 _ _ (by omega) (by omega) (by omega)]; exact x5 g (Nat.zero_le _) p
  have hTy : ∀ x, TyC im 1 (fun _ => k) (fun _ => 0) 0 x = if x < 4 then lty im k x else 0 := fun x => by
    unfold TyC
    by_cases c : x < 32
    · rw [if_pos c]
      by_cases c4 : x < 4
      · rw [if_pos c4, if_pos (by omega), show x % 4 = x by omega]
      · rw [if_neg c4, if_neg (by omega)]
    · rw [if_neg c, if_neg (by omega), if_neg (by omega)]
  have hMd : Md im IA 1 (fun _ => k) (fun _ => 0) (fun _ => []) (fun _ => 0) 0 σc1 σm1 := by
    refine ⟨⟨by omega, by omega, by omega⟩, ⟨hIn, hMn, hw, hVn⟩, ⟨?_, ?_, ?_, ?_, ?_⟩, fun f hf => ?_, fun f hf => ?_, ⟨fun x hx ht => ?_, fun j hj => by omega⟩, fun j hj => ?_⟩
    · rw [cI, v2, if_pos ⟨rfl, rfl⟩]
    · rw [mI, y2, if_pos rfl]
    · rw [cI, v2, if_neg (by omega), if_neg (by omega), if_neg (by omega), sI, if_pos ⟨rfl, rfl⟩]
    · rw [mI, y2, if_neg (by omega), tI, if_neg (by omega), if_pos rfl]
    · rw [cP, v3, if_neg (by omega), sP, if_pos ⟨rfl, rfl⟩]
    · rw [zI _ _ (by omega) (by omega)]; exact h4 f hf
    · have ef : f = 0 := by omega
      subst ef
      refine ⟨hk, hVk, ?_, ?_, (show 0 < 100 by omega), ?_, (show 0 ≤ 8 by omega), ?_, ?_, ?_, trivial, fun i hi => ?_, fun r hr _ hh => ?_⟩
      · rw [cP, v3, if_pos ⟨rfl, rfl⟩]
      · rw [cI, v2, if_neg (by omega), if_pos ⟨rfl, rfl⟩]
      · rw [cI, v2, if_neg (by omega), if_neg (by omega), if_pos ⟨rfl, Or.inl rfl⟩]
      · rw [cI, v2, if_neg (by omega), if_neg (by omega), if_pos ⟨rfl, Or.inr rfl⟩]; rfl
      · rw [mA _ _ (by omega)]; exact y5
      · rw [mA _ _ (by omega)]; exact y7
      · have h53 := w.2.2.1
        have hi' : i < im 5 k := hi
        rw [hnum i hi]
        obtain ⟨v, q1, q2⟩ := ag i (by omega)
        refine Or.inl ⟨rfl, ?_⟩
        show σc1.2.2.2.2 127 i = (σm1.2.2.2.1 25 (32 + i)).toInt64
        rw [q1, q2]
      · exfalso
        have h1 := (hVk.2.1 r hr).1
        have hh' : iH im k r ((0 : Nat) : Int) := hh
        unfold iH at hh'
        omega
    · rw [hTy] at ht ⊢
      by_cases c4 : x < 4
      · rw [if_pos c4] at ht ⊢
        have hi7 : x < im 7 k := by
          unfold lty at ht
          by_cases z : x < im 7 k
          · exact z
          · rw [if_neg z] at ht; omega
        have el : lty im k x = im 8 (4 * k + x) := by unfold lty; rw [if_pos hi7]
        obtain ⟨z1, z2⟩ := y8 x hi7
        rw [show 4 * 0 + x = x by omega] at z1 z2
        have hl3 := lty_n3 (k := x) hw hk
        rw [cL _ _ (by omega), v6 x (by omega) (by omega), ra_loc (by omega), mA _ _ (by omega), mA _ _ (by omega), z1, z2]
        rw [el] at ht hl3 ⊢
        exact VR_zero ht hl3
      · rw [if_neg c4] at ht
        exact absurd rfl ht
    · rw [hen j hj, hem j hj]
  obtain ⟨bb, Rk, q1, q2, q3, q4⟩ := hV k hk
  have hRk := (q4 (q3.mpr hVk)).1
  obtain ⟨q0, j1, j2, j3, j4⟩ := hRk.1.1
  have j0 : q0 = 0 := by omega
  subst j0
  refine ⟨σc1, σm1, ?_, hm1, d, n, im, IA, IB, ⟨?_, h1.2.1, fun j hj => ?_⟩, ⟨?_, h2.2.1, fun j hj => ?_⟩, hImg, fun f hf => ?_, Or.inr (Or.inl ⟨1, fun _ => k, fun _ => 0, fun _ => [], fun _ => 0, 0, hMd, fun f hf => by omega, ⟨Rk, hRk.1, hRk.2.1, j4, ?_⟩, ⟨S, hCl, fun f _ => hSk⟩, fun m r r1 r2 r3 => ?_, ?_, ?_, ?_, ?_⟩)⟩
  · simp (disch := omega) only [F_Ru_begin, lit32, stl_e, hc1, ite_true, ite_false, if_true, if_false, Bool.false_eq_true, and_self, and_true, true_and, and_false, false_and]
  · rw [zI _ _ (by omega) (by omega)]; exact h1.1
  · rw [zA _ _ (by omega) (by omega)]; exact h1.2.2 j hj
  · rw [zm _ (by omega)]; exact h2.1
  · rw [zmA _ _ (by omega)]; exact h2.2.2 j hj
  · rw [zI _ _ (by omega) (by omega)]; exact h4 f hf
  · show σm1.2.2.2.1 21 0 = Int32.ofNat 0
    rw [mA _ _ (by omega)]; exact y6
  · have hm6 := (wf_m hw r1).1
    exact hen _ (by omega)
  · rw [zI _ _ (by omega) (by omega)]; exact h5
  · rw [cI, v2, if_neg (by omega), if_neg (by omega), if_neg (by omega), sI, if_neg (by omega), if_neg (by omega), if_neg (by omega), if_pos ⟨rfl, rfl⟩]
  · rw [cI, v2, if_neg (by omega), if_neg (by omega), if_neg (by omega), sI, if_neg (by omega), if_neg (by omega), if_pos ⟨rfl, rfl⟩]
  · rw [mI, y2, if_neg (by omega), tI, if_neg (by omega), if_neg (by omega), if_neg (by omega), if_pos rfl]
theorem q_start {σc σm : SG} (x a b : Int32) (h : Inv σc σm) : ∃ v σc1 σm1, F_TE_start 0 x a b σc = some (v, σc1) ∧ F_Mo_start 0 x a b σm = some (v, σm1) ∧ Inv σc1 σm1 := by
  have h0 := h
  obtain ⟨d, n, im, IA, IB, h1, h2, h3, h4, h5⟩ := h
  have hP := h3.1
  have hI1 := (ImgI_n h3).2.2.2.2
  obtain ⟨o, e1, e2, e3⟩ := vm_sim x h3
  have h5' : σc.1 123 5 = Int32.ofNat 0 := by
    rcases h5 with ⟨-, -, -, z⟩ | ⟨A, ms, ps, ls, T, md, -, -, -, -, -, z⟩ | ⟨k, -, -, -, -, -, -, -, z⟩
    · exact z
    · exact z.1
    · exact z
  rcases e3 with e | ⟨k, R, c, ex, e, hIm, hw, hvok, hRw, hRS, hbg⟩
  · subst e
    refine ⟨false, σc, σm, ?_, ?_, h0⟩
    · simp (disch := omega) only [F_TE_start, F_TE_start_34, hP, hI1, if_pos, e1, ite_true, ite_false, if_true, if_false, Bool.false_eq_true, and_self, and_true, true_and, and_false, false_and]
    · simp (disch := omega) only [F_Mo_start, F_Mo_allGood, e2, Option.isSome_none, if_neg, ite_true, ite_false, if_true, if_false, Bool.false_eq_true, and_self, and_true, true_and, and_false, false_and]
  · subst ex
    subst e
    have hV : ∀ m, m < im 0 1 → VerI im m IA σc σm := by
      rcases h3.2.2.2.2.2 with ⟨c1, -⟩ | ⟨-, -, c3⟩
      · omega
      · exact c3
    have hMc := d_Mc hIm c
    have hM := h3.2.2.2.2.1
    have hn6 := (IC_nm hIm).2.2
    obtain ⟨bt', t1, t2⟩ := tk_l hIm c (im 5 k) 0 5000 (by omega) (by have := (IC_ac hIm c).2; omega)
    obtain ⟨bc, c1, c2⟩ := c_callsV hIm hV c
    obtain ⟨bg, g1, g2⟩ := mv_19 (m := k) hw hM hV 6 0 5000 (2 ^ k) (by omega) (by omega) (Rd_0 c hn6)
    have ebc : bg = bc := Bool.eq_iff_iff.mpr (g2.trans c2.symm)
    subst ebc
    have hag : F_Mo_allGood 0 (Int32.ofNat k) σm = some (bg, σm) := by
      simp (disch := omega) only [F_Mo_allGood, e2, Option.isSome_some, if_pos, lit32, shl6, g1, ite_true, ite_false, if_true, if_false, Bool.false_eq_true, and_self, and_true, true_and, and_false, false_and]
    obtain ⟨s1, s2⟩ := sk_l (σ := σm) (a := a) (b := b) hw hM c (im 5 k) 0 5000 (by omega) (by have := (IC_ac hIm c).2; omega)
    cases bg with
    | false =>
      refine ⟨false, σc, σm, ?_, ?_, h0⟩
      · cases bt' with
        | false => simp (disch := omega) only [F_TE_start, F_TE_start_34, F_Me_takesNumbersAlone, hP, hI1, if_pos, e1, hMc, lit32, t1, if_neg, ite_true, ite_false, if_true, if_false, Bool.false_eq_true, and_self, and_true, true_and, and_false, false_and]
        | true => simp (disch := omega) only [F_TE_start, F_TE_start_34, F_Me_takesNumbersAlone, hP, hI1, if_pos, e1, hMc, lit32, t1, c1, if_neg, ite_true, ite_false, if_true, if_false, Bool.false_eq_true, and_self, and_true, true_and, and_false, false_and]
      · simp (disch := omega) only [F_Mo_start, hag, if_neg, ite_true, ite_false, if_true, if_false, Bool.false_eq_true, and_self, and_true, true_and, and_false, false_and]
    | true =>
      cases bt' with
      | false =>
        refine ⟨false, σc, σm, ?_, ?_, h0⟩
        · simp (disch := omega) only [F_TE_start, F_TE_start_34, F_Me_takesNumbersAlone, hP, hI1, if_pos, e1, hMc, lit32, t1, if_neg, ite_true, ite_false, if_true, if_false, Bool.false_eq_true, and_self, and_true, true_and, and_false, false_and]
        · have s2' := s2 (fun z => by have := t2.mpr z; cases this)
          simp (disch := omega) only [F_Mo_start, hag, if_pos, lit32, s2', ite_true, ite_false, if_true, if_false, Bool.false_eq_true, and_self, and_true, true_and, and_false, false_and]
      | true =>
        obtain ⟨σc1, σm1, v1, v2, v3⟩ := go_1 (a := a) (b := b) h1 h2 h3 h4 h5' hIm hw hV c (c2.mp rfl) (fun j hj => t2.mp rfl j (Nat.zero_le _) hj)
        refine ⟨true, σc1, σm1, ?_, ?_, v3⟩
        · simp (disch := omega) only [F_TE_start, F_TE_start_34, F_Me_takesNumbersAlone, hP, hI1, if_pos, e1, hMc, lit32, t1, c1, c06, v1, ite_true, ite_false, if_true, if_false, Bool.false_eq_true, and_self, and_true, true_and, and_false, false_and]
        · have s1' := s1 (t2.mp rfl) _ v2
          simp (disch := omega) only [F_Mo_start, hag, if_pos, lit32, s1', ite_true, ite_false, if_true, if_false, Bool.false_eq_true, and_self, and_true, true_and, and_false, false_and]
