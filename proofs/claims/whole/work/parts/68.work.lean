/-! The instructions that work with things, places and pairs. -/
theorem n_mod4 {k : Nat} (h : k < 256) : Int32.ofNat k - Int32.ofNat k / Int32.ofNat 4 * Int32.ofNat 4 = Int32.ofNat (k % 4) := by
  rw [n_div (by omega) (by omega), n_mul, n_sub (by omega)]
  congr 1
  omega
theorem TyC_th {im : Im} {A : Nat} {ms T : Nat → Nat} {md j i : Nat} (hj : j < md) (hi : i < 20) : TyC im A ms T md (32 + j * 20 + i) = cty im (T j) i := by
  unfold TyC
  rw [if_neg (by omega), show (32 + j * 20 + i - 32) / 20 = j by omega, if_pos hj, show (32 + j * 20 + i - 32) % 20 = i by omega]
theorem ra_th {j i : Nat} : ra (32 + j * 20 + i) = 56 + 20 * j + i := by
  unfold ra
  rw [if_neg (by omega)]
  omega
theorem m1_lt : (-Int32.ofNat 1 < Int32.ofNat 0) := by decide
theorem m1_nle : ¬ (Int32.ofNat 0 ≤ -Int32.ofNat 1) := by decide
theorem co_ok {σ : SG} {j i : Nat} (h44 : σ.1 0 44 = Int32.ofNat 0) (hj : j < 40) (hi : i < 20) : F_Mo_cellOf 0 (Int32.ofNat j) (Int32.ofNat i) false σ = some (Int32.ofNat (56 + 20 * j + i), setI σ 0 44 (Int32.ofNat 0)) := by
  simp (disch := omega) only [↓reduceIte, Nat.reduceEqDiff, F_Mo_cellOf, F_Mo_cellOf_31, F_Mo_cellOf_35, F_Mo_cellOf_58, lit32, n_le, Nat.zero_le, Nat.le_refl, h44, stl_e, rI, n_mul, n_add, ite_true, ite_false, if_true, if_false, Bool.false_eq_true, and_self, and_true, true_and, and_false, false_and]
theorem co_in {σ : SG} {j i n : Nat} (h44 : σ.1 0 44 = Int32.ofNat 0) (hj : j < 40) (hr : σ.2.2.2.1 27 j = Int32.ofNat n) (hn : n ≤ 20) (hi : i < n) : F_Mo_cellOf 0 (Int32.ofNat j) (Int32.ofNat i) true σ = some (Int32.ofNat (56 + 20 * j + i), setI σ 0 44 (Int32.ofNat 0)) := by
  simp (disch := omega) only [↓reduceIte, Nat.reduceEqDiff, F_Mo_cellOf, F_Mo_cellOf_31, F_Mo_cellOf_35, F_Mo_cellOf_58, lit32, n_le, n_lt, hi, hr, n_nl0, n_cl, false_or, if_neg, cm_39, Nat.zero_le, Nat.le_refl, h44, stl_e, rI, n_mul, n_add, ite_true, ite_false, if_true, if_false, Bool.false_eq_true, and_self, and_true, true_and, and_false, false_and]
theorem co_nul {σ : SG} {i : Int32} {b : Bool} : F_Mo_cellOf 0 (-Int32.ofNat 1) i b σ = some (-Int32.ofNat 1, setI σ 0 44 (Int32.ofNat 2)) := by
  simp (disch := omega) only [↓reduceIte, Nat.reduceEqDiff, F_Mo_cellOf, F_Mo_cellOf_35, F_Mo_cellOf_58, lit32, m1_nle, stl_e, rI, n_le, if_neg, ite_true, ite_false, if_true, if_false, Bool.false_eq_true, and_self, and_true, true_and, and_false, false_and]
theorem co_neg {σ : SG} {j : Nat} {i : Int32} (hj : j < 40) (hi : i < Int32.ofNat 0) : F_Mo_cellOf 0 (Int32.ofNat j) i true σ = some (-Int32.ofNat 1, setI σ 0 44 (Int32.ofNat 3)) := by
  simp (disch := omega) only [↓reduceIte, Nat.reduceEqDiff, F_Mo_cellOf, F_Mo_cellOf_27, F_Mo_cellOf_35, F_Mo_cellOf_58, lit32, n_le, Nat.zero_le, hi, stl_e, rI, if_neg, ite_true, ite_false, if_true, if_false, Bool.false_eq_true, and_self, and_true, true_and, and_false, false_and]
theorem co_out {σ : SG} {j i n : Nat} (hj : j < 40) (hr : σ.2.2.2.1 27 j = Int32.ofNat n) (hn : n ≤ 20) (hi : n ≤ i) (hi2 : i < 2147483648) : F_Mo_cellOf 0 (Int32.ofNat j) (Int32.ofNat i) true σ = some (-Int32.ofNat 1, setI σ 0 44 (Int32.ofNat 3)) := by
  simp (disch := omega) only [↓reduceIte, Nat.reduceEqDiff, F_Mo_cellOf, F_Mo_cellOf_27, F_Mo_cellOf_35, F_Mo_cellOf_58, lit32, n_le, n_lt, Nat.zero_le, n_nl0, n_cl, false_or, if_neg, cm_39, hr, stl_e, rI, ite_true, ite_false, if_true, if_false, Bool.false_eq_true, and_self, and_true, true_and, and_false, false_and]
theorem pc_m1 {σ : SG} : F_Mo_putCell 0 (-Int32.ofNat 1) σ = some σ := by
  simp (disch := omega) only [↓reduceIte, Nat.reduceEqDiff, F_Mo_putCell, F_Mo_putCell_20, lit32, m1_lt, ite_true, ite_false, if_true, if_false, Bool.false_eq_true, and_self, and_true, true_and, and_false, false_and]
theorem pp_m1 {σ : SG} : F_Mo_putPlace 0 (-Int32.ofNat 1) σ = some σ := by
  simp (disch := omega) only [↓reduceIte, Nat.reduceEqDiff, F_Mo_putPlace, F_Mo_putPlace_10, lit32, m1_lt, ite_true, ite_false, if_true, if_false, Bool.false_eq_true, and_self, and_true, true_and, and_false, false_and]
theorem sc_m1 {σ : SG} {a b : Int32} : F_Mo_setCell 0 (-Int32.ofNat 1) a b σ = some σ := by
  simp (disch := omega) only [↓reduceIte, Nat.reduceEqDiff, F_Mo_setCell, lit32, m1_nle, ite_true, ite_false, if_true, if_false, Bool.false_eq_true, and_self, and_true, true_and, and_false, false_and]
theorem pc_ok {σ s : SG} {x : Nat} (hx : x < 856) (h : F_Mo_put 0 (σ.2.2.2.1 25 x) (σ.2.2.2.1 26 x) σ = some s) : F_Mo_putCell 0 (Int32.ofNat x) σ = some s := by
  simp (disch := omega) only [F_Mo_putCell, F_Mo_putCell_20, lit32, n_nl0, n_cl, false_or, if_neg, cm_37, cm_38, h, ite_true, ite_false, if_true, if_false, Bool.false_eq_true, and_self, and_true, true_and, and_false, false_and]
theorem pp_ok {σ s : SG} {x : Nat} (hx : x < 856) (h : F_Mo_put 0 (Int32.ofNat x) (Int32.ofNat 0) σ = some s) : F_Mo_putPlace 0 (Int32.ofNat x) σ = some s := by
  simp (disch := omega) only [F_Mo_putPlace, F_Mo_putPlace_10, lit32, n_nl0, if_neg, h, ite_true, ite_false, if_true, if_false, Bool.false_eq_true, and_self, and_true, true_and, and_false, false_and]
theorem obj_f {im : Im} {k : Nat} (h : obj im k ≠ 0) : obj im k = 8 + k / 4 ∧ fty im k ≠ 0 ∧ k / 4 < im 0 0 ∧ k % 4 < im 2 (k / 4) ∧ fty im k = im 3 k ∧ cty im (8 + k / 4) (k % 4) = fty im k := by
  unfold obj at h ⊢
  by_cases c : fty im k = 0
  · rw [if_pos c] at h; omega
  · rw [if_neg c]
    refine ⟨rfl, c, ?_⟩
    unfold fty at c ⊢
    by_cases d : k / 4 < im 0 0 ∧ k % 4 < im 2 (k / 4)
    · rw [if_pos d]
      refine ⟨d.1, d.2, rfl, ?_⟩
      unfold cty
      rw [if_neg (by omega), if_neg (by omega), show 8 + k / 4 - 8 = k / 4 by omega, if_pos d.2, show 4 * (k / 4) + k % 4 = k by omega]
    · rw [if_neg d] at c; omega
theorem mo_create_l {im : Im} {c md : Nat} (hc : c < 4) (hmd : md < 40) (h2 : im 2 c ≤ 4) (h3 : ∀ g, im 3 g < 256) : ∀ cc i fuel σ, i + cc = im 2 c → cc < fuel → (∀ g, σ.2.2.2.1 2 g = Int32.ofNat (im 2 g)) → (∀ g, σ.2.2.2.1 3 g = Int32.ofNat (im 3 g)) →
    ∃ s, F_Mo_create_13 fuel 0 (Int32.ofNat c) (Int32.ofNat md) (Int32.ofNat i) σ = F_Mo_create_68 0 (Int32.ofNat md) s ∧ s.1 = σ.1 ∧ s.2.2.2.2 = σ.2.2.2.2 ∧ ∀ x g, s.2.2.2.1 x g = if x = 25 ∧ 56 + 20 * md + i ≤ g ∧ g < 56 + 20 * md + im 2 c then (if 3 < im 3 (4 * c + (g - 56 - 20 * md)) then -Int32.ofNat 1 else Int32.ofNat 0) else σ.2.2.2.1 x g := by
  intro cc
  induction cc with
  | zero =>
    intro i fuel σ hi hfu e2 e3
    obtain ⟨fuel, rfl⟩ : ∃ x, fuel = x + 1 := ⟨fuel - 1, by omega⟩
    refine ⟨σ, ?_, rfl, rfl, fun x g => by rw [if_neg (by omega)]⟩
    simp (disch := omega) only [F_Mo_create_13, lit32, n_nl0, n_cl, false_or, if_neg, cm_5, e2, n_le, if_pos, ite_true, ite_false, if_true, if_false, Bool.false_eq_true, and_self, and_true, true_and, and_false, false_and]
  | succ cc ih =>
    intro i fuel σ hi hfu e2 e3
    obtain ⟨fuel, rfl⟩ : ∃ x, fuel = x + 1 := ⟨fuel - 1, by omega⟩
    have hR := mo_isRef (h3 (4 * c + i)) σ
    have hstep : F_Mo_create_13 (fuel + 1) 0 (Int32.ofNat c) (Int32.ofNat md) (Int32.ofNat i) σ = F_Mo_create_13 fuel 0 (Int32.ofNat c) (Int32.ofNat md) (Int32.ofNat (i + 1)) (setA σ 25 (56 + 20 * md + i) (if 3 < im 3 (4 * c + i) then -Int32.ofNat 1 else Int32.ofNat 0)) := by
      by_cases c3 : 3 < im 3 (4 * c + i)
      · rw [decide_eq_true c3] at hR
        simp (disch := omega) only [F_Mo_create_13, F_Mo_create_61, lit32, n_nl0, n_cl, false_or, if_neg, cm_5, cm_6, cm_37, e2, e3, n_le, n_mul, n_add, hR, if_pos, stl_e, c3, ite_true, ite_false, if_true, if_false, Bool.false_eq_true, and_self, and_true, true_and, and_false, false_and]
      · rw [decide_eq_false c3] at hR
        simp (disch := omega) only [F_Mo_create_13, F_Mo_create_61, lit32, n_nl0, n_cl, false_or, if_neg, cm_5, cm_6, cm_37, e2, e3, n_le, n_mul, n_add, hR, stl_e, c3, ite_true, ite_false, if_true, if_false, Bool.false_eq_true, and_self, and_true, true_and, and_false, false_and]
    obtain ⟨s, g1, g2, g3, g4⟩ := ih (i + 1) fuel (setA σ 25 (56 + 20 * md + i) (if 3 < im 3 (4 * c + i) then -Int32.ofNat 1 else Int32.ofNat 0)) (by omega) (by omega) (fun g => by rw [rA, if_neg (by omega)]; exact e2 g) (fun g => by rw [rA, if_neg (by omega)]; exact e3 g)
    refine ⟨s, by rw [hstep, g1], g2, g3, fun x g => ?_⟩
    rw [g4 x g]
    by_cases c1 : x = 25 ∧ 56 + 20 * md + (i + 1) ≤ g ∧ g < 56 + 20 * md + im 2 c
    · rw [if_pos c1, if_pos (show x = 25 ∧ 56 + 20 * md + i ≤ g ∧ g < 56 + 20 * md + im 2 c by omega)]
    · rw [if_neg c1, rA]
      by_cases c2 : x = 25 ∧ g = 56 + 20 * md + i
      · rw [if_pos c2, if_pos (show x = 25 ∧ 56 + 20 * md + i ≤ g ∧ g < 56 + 20 * md + im 2 c by omega), show g - 56 - 20 * md = i by omega]
      · rw [if_neg c2, if_neg (by omega)]
theorem mo_create40 {c : Nat} {σ : SG} (hc : c < 4) : ∀ fuel, F_Mo_create_13 (fuel + 1) 0 (Int32.ofNat c) (-Int32.ofNat 1) (Int32.ofNat 0) σ = some σ := by
  intro fuel
  by_cases c0 : σ.2.2.2.1 2 c ≤ Int32.ofNat 0
  · simp (disch := omega) only [↓reduceIte, Nat.reduceEqDiff, F_Mo_create_13, F_Mo_create_68, F_Mo_create_78, lit32, n_nl0, n_cl, false_or, if_neg, cm_5, c0, m1_lt, ite_true, ite_false, if_true, if_false, Bool.false_eq_true, and_self, and_true, true_and, and_false, false_and]
  · simp (disch := omega) only [↓reduceIte, Nat.reduceEqDiff, F_Mo_create_13, F_Mo_create_68, F_Mo_create_78, lit32, n_nl0, n_cl, false_or, if_neg, cm_5, c0, m1_lt, ite_true, ite_false, if_true, if_false, Bool.false_eq_true, and_self, and_true, true_and, and_false, false_and]
theorem o_17 {im : Im} {IA A : Nat} {ms ps : Nat → Nat} {ls : Nat → List Nat} {T : Nat → Nat} {md : Nat} {σc0 σm0 σc σm : SG} {L L' : List Nat} {p k : Nat} (h : Mi im IA A ms ps ls T md σc0 σm0 L σc σm) (hp : p + 1 < 100) (hk : im 15 (100 * ms (A - 1) + p + 1) = k) (hT : (some L).bind (wth (neT im k)) = some L') : OpR im IA A ms ps ls σc0 σm0 L' (F_Ru_doThing 123 (125 + 6 * (A - 1)) (Int32.ofNat 17) (Int32.ofNat k) σc) (F_Mo_work 0 (Int32.ofNat p) (Int32.ofNat 17) σm) := by
  obtain ⟨L0, e, g1, g2, g3⟩ := b_th hT
  cases e; subst g3
  obtain ⟨o1, o2, o3, o4, o5, o6, o7, o8, o9, o10, o11, o12, o13, o14, o15, o16, -⟩ := Mi_op h
  have hop := m_opnd o6 o5 hp
  rw [hk] at hop
  have wc := wf_c o8.2.2.1
  have hne : neT im k = 8 + k ∧ k < im 0 0 := by
    unfold neT at g2 ⊢
    by_cases c : k < im 0 0
    · rw [if_pos c]; exact ⟨rfl, c⟩
    · rw [if_neg c] at g2; omega
  have hR := o8.2.1
  have hf2 : σm.2.2.2.1 2 k = Int32.ofNat (im 2 k) := hR.2.2.2 2 k (by omega) (by omega)
  have wf := wf_f o8.2.2.1 hne.2
  rw [hne.1]
  by_cases c40 : md < 40
  · obtain ⟨s, s1, s2, s3, s4, s5⟩ := ru_make (σ := σc) (f := A - 1) (n := Int32.ofNat 0) (by omega) c40 o14
    obtain ⟨t, t1, t2, t3, t4⟩ := mo_make (σ := σm) (n := Int32.ofNat (im 2 k)) c40 o15
    obtain ⟨u, u1, u2, u3, u4⟩ := mo_create_l (im := im) (c := k) (md := md) (by omega) c40 wf.1 (fun g => hR.1 3 g) (im 2 k) 0 5000 t (by omega) (by omega) (fun g => by rw [t4, if_neg (by omega), if_neg (by omega)]; exact hR.2.2.2 2 g (by omega) (by omega)) (fun g => by rw [t4, if_neg (by omega), if_neg (by omega)]; exact hR.2.2.2 3 g (by omega) (by omega))
    have hm := mi_made (t := 8 + k) (c1 := s) (m1 := u) h c40 (by omega) (fun x g => by rw [s2, rI]) s3 (fun x g hx => by rw [s4, rA, if_neg hx]) (fun x g hx => by rw [s5, if_neg (by omega)]) (fun g => by rw [u2, t2, rI]; by_cases c : g = 30 <;> simp [c]) (u3.trans t3) (fun x g h1 h2 => by rw [u4, if_neg (by omega), t4, if_neg (by omega), if_neg h1]) (fun i hi hc => by
      have hn3 := cty_n3 (i := i) o8.2.2.1 (show 8 + k = 4 ∨ 8 + k = 5 ∨ (8 ≤ 8 + k ∧ 8 + k < 8 + im 0 0) by omega)
      have hv := VR_zero (im := im) (A := A) (ms := ms) (T := T) (md := md) (f := 0) hc hn3
      have e1 : cty im (8 + k) i = if i < im 2 k then im 3 (4 * k + i) else 0 := by
        unfold cty
        rw [if_neg (by omega), if_neg (by omega), show 8 + k - 8 = k by omega]
      have z1 : s.2.2.2.2 173 (32 + 20 * md + i) = 0 := by rw [s5, if_pos (by omega)]
      have z2 : u.2.2.2.1 26 (56 + 20 * md + i) = 0 := by rw [u4, if_neg (by omega), t4, if_pos (by omega)]
      by_cases c : i < im 2 k
      · have z3 : u.2.2.2.1 25 (56 + 20 * md + i) = if 3 < im 3 (4 * k + i) then -Int32.ofNat 1 else Int32.ofNat 0 := by
          rw [u4, if_pos (show 25 = 25 ∧ 56 + 20 * md + 0 ≤ 56 + 20 * md + i ∧ 56 + 20 * md + i < 56 + 20 * md + im 2 k by omega), show 56 + 20 * md + i - 56 - 20 * md = i by omega]
        rw [if_pos c] at e1
        rw [e1] at hv
        rw [z1, z2, z3, e1]
        exact hv
      · rw [if_neg c] at e1
        exact absurd e1 hc) (fun e => by omega)
    obtain ⟨c1, m1, r1, r2, r3, -⟩ := mi_push (t := 8 + k) hm g1 (VR_ref (k := md) (Int32.ofNat 0) (by omega) (by omega) (by unfold upT; rw [if_pos rfl]))
    refine OpR_t (σc := c1) (σm := m1) ?_ ?_ r3
    · rw [r1] at s1
      have s1' : F_Ru_make 123 (125 + 6 * (A - 1)) (Int32.ofNat 0) σc = some (true, c1) := s1
      simp (disch := omega) only [↓reduceIte, Nat.reduceEqDiff, F_Ru_doThing, lit32, n_eq, s1', ite_true, ite_false, if_true, if_false, Bool.false_eq_true, and_self, and_true, true_and, and_false, false_and]
    · simp (disch := omega) only [↓reduceIte, Nat.reduceEqDiff, F_Mo_work, F_Mo_work_15, F_Mo_work_30, F_Mo_work_74, F_Mo_work_79, F_Mo_work_94, F_Mo_work_110, F_Mo_work_508, F_Mo_create, F_Mo_create_68, F_Mo_create_78, lit32, n_eq, n_le, n_lt, if_pos, if_neg, n_mul, n_add, n_nl0, n_cl, false_or, Nat.zero_le, hop, cm_5, hf2, t1, u1, r2, ite_true, ite_false, if_true, if_false, Bool.false_eq_true, and_self, and_true, true_and, and_false, false_and]
  · have e40 : md = 40 := by omega
    rw [e40] at o14 o15
    obtain ⟨c1, r1, r2⟩ := mi_raise h (e := 4) (by omega)
    refine OpR_f ?_ ?_ r2
    · simp (disch := omega) only [↓reduceIte, Nat.reduceEqDiff, F_Ru_doThing, lit32, n_eq, ru_make40 o14 r1, ite_true, ite_false, if_true, if_false, Bool.false_eq_true, and_self, and_true, true_and, and_false, false_and]
    · simp (disch := omega) only [↓reduceIte, Nat.reduceEqDiff, F_Mo_work, F_Mo_work_15, F_Mo_work_30, F_Mo_work_74, F_Mo_work_79, F_Mo_work_94, F_Mo_work_110, F_Mo_work_508, F_Mo_create, lit32, n_eq, n_le, n_lt, if_pos, if_neg, n_mul, n_add, n_nl0, n_cl, false_or, Nat.zero_le, hop, cm_5, hf2, mo_make40 o15, mo_create40, ite_true, ite_false, if_true, if_false, Bool.false_eq_true, and_self, and_true, true_and, and_false, false_and]
theorem o_18 {im : Im} {IA A : Nat} {ms ps : Nat → Nat} {ls : Nat → List Nat} {T : Nat → Nat} {md : Nat} {σc0 σm0 σc σm : SG} {L L' : List Nat} {p k : Nat} (h : Mi im IA A ms ps ls T md σc0 σm0 L σc σm) (hp : p + 1 < 100) (hk : im 15 (100 * ms (A - 1) + p + 1) = k) (hT : ((some L).bind (wot (obj im k))).bind (wth (fty im k)) = some L') : OpR im IA A ms ps ls σc0 σm0 L' (F_Ru_doThing 123 (125 + 6 * (A - 1)) (Int32.ofNat 18) (Int32.ofNat k) σc) (F_Mo_work 0 (Int32.ofNat p) (Int32.ofNat 18) σm) := by
  obtain ⟨L0, e, g1, g3, g4⟩ := b_th hT
  subst g4
  obtain ⟨e0, g2⟩ := b_ot e
  cases e0
  obtain ⟨x1, x2, x3, x4, x5, x6⟩ := obj_f g2
  obtain ⟨o1, o2, o3, o4, o5, o6, o7, o8, o9, o10, o11, o12, o13, o14, o15, o16, -⟩ := Mi_op h
  have hop := m_opnd o6 o5 hp
  rw [hk] at hop
  have wc := wf_c o8.2.2.1
  have wf := wf_f o8.2.2.1 x3
  have hk2 : k < 256 := by have := o8.2.1.1 15 (100 * ms (A - 1) + p + 1); omega
  have hmod := n_mod4 hk2
  rw [x1] at h
  obtain ⟨v, a, c1, m1, -, r1, r2, r3, r4⟩ := mi_pop h
  rcases VR_r r3 (by omega) with ⟨v0, a0⟩ | ⟨j, j1, j2, j3, j4⟩
  · rw [v0, n32 (by omega)] at r1
    rw [a0] at r2
    obtain ⟨c2, s1, s2⟩ := mi_raise r4 (e := 2) (by omega)
    refine OpR_f ?_ ?_ s2
    · simp (disch := omega) only [↓reduceIte, Nat.reduceEqDiff, F_Ru_doThing, F_Ru_doThing_70, F_Ru_doField, F_Ru_doField_14, lit32, n_eq, r1, s1, ite_true, ite_false, if_true, if_false, Bool.false_eq_true, and_self, and_true, true_and, and_false, false_and]
    · simp (disch := omega) only [↓reduceIte, Nat.reduceEqDiff, F_Mo_work, F_Mo_work_15, F_Mo_work_30, F_Mo_work_74, F_Mo_work_79, F_Mo_work_94, F_Mo_work_110, F_Mo_work_508, lit32, n_eq, n_le, n_lt, if_pos, if_neg, n_mul, n_add, n_nl0, n_cl, false_or, Nat.zero_le, hop, hmod, r2, co_nul, pc_m1, pp_m1, sc_m1, ite_true, ite_false, if_true, if_false, Bool.false_eq_true, and_self, and_true, true_and, and_false, false_and]
  · rw [j3, n32 (by omega)] at r1
    rw [j4] at r2
    have hty : TyC im A ms T md (32 + j * 20 + k % 4) = fty im k := by rw [TyC_th j1 (by omega), j2]; exact x6
    have r5 := mi_44 r4
    have h44 := r4.2.2.2.2
    have hc := mi_cell (x := 32 + j * 20 + k % 4) r5 (by omega) (by rw [hty]; exact x2)
    rw [hty, ra_th] at hc
    obtain ⟨c2, m2, u1, u2, u3, -⟩ := mi_push r5 g1 hc
    refine OpR_t (σc := c2) (σm := m2) ?_ ?_ u3
    · simp (disch := omega) only [↓reduceIte, Nat.reduceEqDiff, F_Ru_doThing, F_Ru_doThing_70, F_Ru_doField, F_Ru_doField_14, F_Ru_doField_77, F_Ru_doField_80, lit32, n_eq, if_neg, r1, hmod, ru_addr, ru_cell, u1, ite_true, ite_false, if_true, if_false, Bool.false_eq_true, and_self, and_true, true_and, and_false, false_and]
    · have u2' := pc_ok (x := 56 + 20 * j + k % 4) (by omega) u2
      simp (disch := omega) only [↓reduceIte, Nat.reduceEqDiff, F_Mo_work, F_Mo_work_15, F_Mo_work_30, F_Mo_work_74, F_Mo_work_79, F_Mo_work_94, F_Mo_work_110, F_Mo_work_508, lit32, n_eq, n_le, n_lt, if_pos, if_neg, n_mul, n_add, n_nl0, n_cl, false_or, Nat.zero_le, hop, hmod, r2, co_ok h44, u2', ite_true, ite_false, if_true, if_false, Bool.false_eq_true, and_self, and_true, true_and, and_false, false_and]
theorem o_19 {im : Im} {IA A : Nat} {ms ps : Nat → Nat} {ls : Nat → List Nat} {T : Nat → Nat} {md : Nat} {σc0 σm0 σc σm : SG} {L L' : List Nat} {p k : Nat} (h : Mi im IA A ms ps ls T md σc0 σm0 L σc σm) (hp : p + 1 < 100) (hk : im 15 (100 * ms (A - 1) + p + 1) = k) (hT : ((some L).bind (wot (fty im k))).bind (wot (obj im k)) = some L') : OpR im IA A ms ps ls σc0 σm0 L' (F_Ru_doThing 123 (125 + 6 * (A - 1)) (Int32.ofNat 19) (Int32.ofNat k) σc) (F_Mo_work 0 (Int32.ofNat p) (Int32.ofNat 19) σm) := by
  obtain ⟨e, g2⟩ := b_ot hT
  obtain ⟨e0, -⟩ := b_ot e
  cases e0
  obtain ⟨x1, x2, x3, x4, x5, x6⟩ := obj_f g2
  obtain ⟨o1, o2, o3, o4, o5, o6, o7, o8, o9, o10, o11, o12, o13, o14, o15, o16, -⟩ := Mi_op h
  have hop := m_opnd o6 o5 hp
  rw [hk] at hop
  have wc := wf_c o8.2.2.1
  have wf := wf_f o8.2.2.1 x3
  have hk2 : k < 256 := by have := o8.2.1.1 15 (100 * ms (A - 1) + p + 1); omega
  have hmod := n_mod4 hk2
  obtain ⟨w, b, c0, m0, q1, -, q2, q3, q4⟩ := mi_pop h
  rw [x1] at q4
  obtain ⟨v, a, c1, m1, -, r1, r2, r3, r4⟩ := mi_pop q4
  rcases VR_r r3 (by omega) with ⟨v0, a0⟩ | ⟨j, j1, j2, j3, j4⟩
  · rw [v0, n32 (by omega)] at r1
    rw [a0] at r2
    obtain ⟨c2, s1, s2⟩ := mi_raise r4 (e := 2) (by omega)
    refine OpR_f ?_ ?_ s2
    · simp (disch := omega) only [↓reduceIte, Nat.reduceEqDiff, F_Ru_doThing, F_Ru_doThing_70, F_Ru_doField, F_Ru_doField_14, lit32, n_eq, q1, r1, s1, ite_true, ite_false, if_true, if_false, Bool.false_eq_true, and_self, and_true, true_and, and_false, false_and]
    · simp (disch := omega) only [↓reduceIte, Nat.reduceEqDiff, F_Mo_work, F_Mo_work_15, F_Mo_work_30, F_Mo_work_74, F_Mo_work_79, F_Mo_work_94, F_Mo_work_110, F_Mo_work_508, lit32, n_eq, n_le, n_lt, if_pos, if_neg, n_mul, n_add, n_nl0, n_cl, false_or, Nat.zero_le, hop, hmod, q2, r2, co_nul, pc_m1, pp_m1, sc_m1, ite_true, ite_false, if_true, if_false, Bool.false_eq_true, and_self, and_true, true_and, and_false, false_and]
  · rw [j3, n32 (by omega)] at r1
    rw [j4] at r2
    have hty : TyC im A ms T md (32 + j * 20 + k % 4) = fty im k := by rw [TyC_th j1 (by omega), j2]; exact x6
    have r5 := mi_44 r4
    have h44 := r4.2.2.2.2
    have r6 := mi_set (x := 32 + j * 20 + k % 4) (v := w) (a := b) (b := m0.1 0 46) (σm1 := setA (setA (setI m1 0 44 (Int32.ofNat 0)) 25 (56 + 20 * j + k % 4) b) 26 (56 + 20 * j + k % 4) (m0.1 0 46)) r5 (by omega) (by rw [hty]; exact q3) rfl rfl (fun y g hy => by rw [ra_th] at hy; rw [rA, if_neg (by omega), rA, if_neg (by omega)]) (by rw [ra_th, rA, if_neg (by omega), rA, if_pos ⟨rfl, rfl⟩]) (by rw [ra_th, rA, if_pos ⟨rfl, rfl⟩])
    refine OpR_t ?_ ?_ r6
    · simp (disch := omega) only [↓reduceIte, Nat.reduceEqDiff, F_Ru_doThing, F_Ru_doThing_70, F_Ru_doField, F_Ru_doField_14, F_Ru_doField_80, lit32, n_eq, if_neg, q1, r1, hmod, ru_addr, ru_setCell, ite_true, ite_false, if_true, if_false, Bool.false_eq_true, and_self, and_true, true_and, and_false, false_and]
    · simp (disch := omega) only [↓reduceIte, Nat.reduceEqDiff, F_Mo_work, F_Mo_work_15, F_Mo_work_30, F_Mo_work_74, F_Mo_work_79, F_Mo_work_94, F_Mo_work_110, F_Mo_work_508, lit32, n_eq, n_le, n_lt, if_pos, if_neg, n_mul, n_add, n_nl0, n_cl, false_or, Nat.zero_le, hop, hmod, q2, r2, co_ok h44, mo_setCell, ite_true, ite_false, if_true, if_false, Bool.false_eq_true, and_self, and_true, true_and, and_false, false_and]
theorem o_20 {im : Im} {IA A : Nat} {ms ps : Nat → Nat} {ls : Nat → List Nat} {T : Nat → Nat} {md : Nat} {σc0 σm0 σc σm : SG} {L L' : List Nat} {p k : Nat} (h : Mi im IA A ms ps ls T md σc0 σm0 L σc σm) (hp : p + 1 < 100) (hk : im 15 (100 * ms (A - 1) + p + 1) = k) (hT : ((some L).bind (wot (obj im k))).bind (wth (plc (fty im k))) = some L') : OpR im IA A ms ps ls σc0 σm0 L' (F_Ru_doThing 123 (125 + 6 * (A - 1)) (Int32.ofNat 20) (Int32.ofNat k) σc) (F_Mo_work 0 (Int32.ofNat p) (Int32.ofNat 20) σm) := by
  obtain ⟨L0, e, g1, g3, g4⟩ := b_th hT
  subst g4
  obtain ⟨e0, g2⟩ := b_ot e
  cases e0
  obtain ⟨x1, x2, x3, x4, x5, x6⟩ := obj_f g2
  obtain ⟨o1, o2, o3, o4, o5, o6, o7, o8, o9, o10, o11, o12, o13, o14, o15, o16, -⟩ := Mi_op h
  have hop := m_opnd o6 o5 hp
  rw [hk] at hop
  have wc := wf_c o8.2.2.1
  have wf := wf_f o8.2.2.1 x3
  have hk2 : k < 256 := by have := o8.2.1.1 15 (100 * ms (A - 1) + p + 1); omega
  have hmod := n_mod4 hk2
  rw [x1] at h
  obtain ⟨v, a, c1, m1, -, r1, r2, r3, r4⟩ := mi_pop h
  rcases VR_r r3 (by omega) with ⟨v0, a0⟩ | ⟨j, j1, j2, j3, j4⟩
  · rw [v0, n32 (by omega)] at r1
    rw [a0] at r2
    obtain ⟨c2, s1, s2⟩ := mi_raise r4 (e := 2) (by omega)
    refine OpR_f ?_ ?_ s2
    · simp (disch := omega) only [↓reduceIte, Nat.reduceEqDiff, F_Ru_doThing, F_Ru_doThing_70, F_Ru_doField, F_Ru_doField_14, lit32, n_eq, r1, s1, ite_true, ite_false, if_true, if_false, Bool.false_eq_true, and_self, and_true, true_and, and_false, false_and]
    · simp (disch := omega) only [↓reduceIte, Nat.reduceEqDiff, F_Mo_work, F_Mo_work_15, F_Mo_work_30, F_Mo_work_74, F_Mo_work_79, F_Mo_work_94, F_Mo_work_110, F_Mo_work_508, lit32, n_eq, n_le, n_lt, if_pos, if_neg, n_mul, n_add, n_nl0, n_cl, false_or, Nat.zero_le, hop, hmod, r2, co_nul, pc_m1, pp_m1, sc_m1, ite_true, ite_false, if_true, if_false, Bool.false_eq_true, and_self, and_true, true_and, and_false, false_and]
  · rw [j3, n32 (by omega)] at r1
    rw [j4] at r2
    have hty : TyC im A ms T md (32 + j * 20 + k % 4) = fty im k := by rw [TyC_th j1 (by omega), j2]; exact x6
    have r5 := mi_44 r4
    have h44 := r4.2.2.2.2
    obtain ⟨y1, y3⟩ := plc_1 g3
    rw [y3]
    have hv : VR im A ms T md (A - 1) 3 _ _ (Int32.ofNat 0) := VR_pl (x := 32 + j * 20 + k % 4) (Int32.ofNat 0) (by omega) (by rw [hty]; exact y1) (fun z => by omega)
    rw [ra_th] at hv
    obtain ⟨c2, m2, u1, u2, u3, -⟩ := mi_push r5 g1 hv
    refine OpR_t (σc := c2) (σm := m2) ?_ ?_ u3
    · simp (disch := omega) only [↓reduceIte, Nat.reduceEqDiff, F_Ru_doThing, F_Ru_doThing_70, F_Ru_doField, F_Ru_doField_14, F_Ru_doField_77, F_Ru_doField_80, lit32, n_eq, if_neg, r1, hmod, ru_addr, n64, u1, ite_true, ite_false, if_true, if_false, Bool.false_eq_true, and_self, and_true, true_and, and_false, false_and]
    · have u2' := pp_ok (x := 56 + 20 * j + k % 4) (by omega) u2
      simp (disch := omega) only [↓reduceIte, Nat.reduceEqDiff, F_Mo_work, F_Mo_work_15, F_Mo_work_30, F_Mo_work_74, F_Mo_work_79, F_Mo_work_94, F_Mo_work_110, F_Mo_work_508, lit32, n_eq, n_le, n_lt, if_pos, if_neg, n_mul, n_add, n_nl0, n_cl, false_or, Nat.zero_le, hop, hmod, r2, co_ok h44, u2', ite_true, ite_false, if_true, if_false, Bool.false_eq_true, and_self, and_true, true_and, and_false, false_and]
theorem o_21 {im : Im} {IA A : Nat} {ms ps : Nat → Nat} {ls : Nat → List Nat} {T : Nat → Nat} {md : Nat} {σc0 σm0 σc σm : SG} {L L' : List Nat} {p k : Nat} (h : Mi im IA A ms ps ls T md σc0 σm0 L σc σm) (hT : ((some L).bind (wot 1)).bind (wth 4) = some L') : OpR im IA A ms ps ls σc0 σm0 L' (F_Ru_doThing 123 (125 + 6 * (A - 1)) (Int32.ofNat 21) (Int32.ofNat k) σc) (F_Mo_work 0 (Int32.ofNat p) (Int32.ofNat 21) σm) := by
  obtain ⟨L0, e, g1, -, g4⟩ := b_th hT
  subst g4
  obtain ⟨e0, -⟩ := b_ot e
  cases e0
  obtain ⟨v, a, c1, m1, -, r1, r2, r3, r4⟩ := mi_pop h
  rw [VR_1 r3, i64_32] at r1
  have hraise : (a < Int32.ofNat 0 ∨ ∃ n, a = Int32.ofNat n ∧ 20 < n ∧ n < 2147483648) ∨ ∃ n, a = Int32.ofNat n ∧ n ≤ 20 := by
    rcases n_case a with c | ⟨n, n1, n2⟩
    · exact Or.inl (Or.inl c)
    · by_cases c : n ≤ 20
      · exact Or.inr ⟨n, n2, c⟩
      · exact Or.inl (Or.inr ⟨n, n2, by omega, n1⟩)
  rcases hraise with hb | ⟨n, en, hn⟩
  · obtain ⟨c2, s1, s2⟩ := mi_raise r4 (e := 3) (by omega)
    refine OpR_f ?_ ?_ s2
    · rcases hb with hb | ⟨n, en, hn, hn2⟩
      · simp (disch := omega) only [↓reduceIte, Nat.reduceEqDiff, F_Ru_doThing, F_Ru_makeArray, F_Ru_makeArray_15, lit32, n_eq, r1, hb, s1, ite_true, ite_false, if_true, if_false, Bool.false_eq_true, and_self, and_true, true_and, and_false, false_and]
      · simp (disch := omega) only [↓reduceIte, Nat.reduceEqDiff, F_Ru_doThing, F_Ru_makeArray, F_Ru_makeArray_15, lit32, n_eq, n_le, n_nl0, if_neg, r1, en, s1, ite_true, ite_false, if_true, if_false, Bool.false_eq_true, and_self, and_true, true_and, and_false, false_and]
    · rcases hb with hb | ⟨n, en, hn, hn2⟩
      · simp (disch := omega) only [↓reduceIte, Nat.reduceEqDiff, F_Mo_work, F_Mo_work_15, F_Mo_work_30, F_Mo_work_74, F_Mo_work_79, F_Mo_work_94, F_Mo_work_110, F_Mo_work_508, F_Mo_work_264, F_Mo_work_269, F_Mo_work_289, lit32, n_eq, n_le, n_lt, if_pos, if_neg, n_mul, n_add, n_nl0, n_cl, false_or, Nat.zero_le, r2, hb, stl_e, rI, m1_lt, ite_true, ite_false, if_true, if_false, Bool.false_eq_true, and_self, and_true, true_and, and_false, false_and]
      · simp (disch := omega) only [↓reduceIte, Nat.reduceEqDiff, F_Mo_work, F_Mo_work_15, F_Mo_work_30, F_Mo_work_74, F_Mo_work_79, F_Mo_work_94, F_Mo_work_110, F_Mo_work_508, F_Mo_work_264, F_Mo_work_269, F_Mo_work_289, lit32, n_eq, n_le, n_lt, if_pos, if_neg, n_mul, n_add, n_nl0, n_cl, false_or, Nat.zero_le, r2, en, stl_e, rI, m1_lt, ite_true, ite_false, if_true, if_false, Bool.false_eq_true, and_self, and_true, true_and, and_false, false_and]
  · have r5 := mi_44 r4
    obtain ⟨o1, o2, o3, o4, o5, o6, o7, o8, o9, o10, o11, o12, o13, o14, o15, o16, -⟩ := Mi_op r5
    rw [en] at r1 r2
    by_cases c40 : md < 40
    · obtain ⟨s, s1, s2, s3, s4, s5⟩ := ru_make (σ := c1) (f := A - 1) (n := Int32.ofNat n) (by omega) c40 o14
      obtain ⟨t, t1, t2, t3, t4⟩ := mo_make (σ := setI m1 0 44 (Int32.ofNat 0)) (n := Int32.ofNat n) c40 o15
      have hm := mi_made (t := 4) (c1 := s) (m1 := t) r5 c40 (by omega) (fun x g => by rw [s2, rI]) s3 (fun x g hx => by rw [s4, rA, if_neg hx]) (fun x g hx => by rw [s5, if_neg (by omega)]) (fun g => by rw [t2, rI]; by_cases c : g = 30 <;> simp [c]) t3 (fun x g h1 h2 => by rw [t4, if_neg (by omega), if_neg h1]) (fun i hi hc => by
        have e1 : cty im 4 i = 1 := by unfold cty; rw [if_pos rfl]
        have hv := VR_zero (im := im) (A := A) (ms := ms) (T := T) (md := md) (f := 0) (t := 1) (by omega) (by omega)
        rw [s5, if_pos (by omega), t4, t4, if_pos (by omega), if_pos (by omega), e1]
        exact hv) (fun _ => ⟨n, hn, by rw [s4, rA, if_pos ⟨rfl, rfl⟩], by rw [t4, if_neg (by omega), if_pos ⟨rfl, rfl⟩]⟩)
      obtain ⟨c3, m3, u1, u2, u3, -⟩ := mi_push (t := 4) hm g1 (VR_ref (k := md) (Int32.ofNat 0) (by omega) (by omega) (by unfold upT; rw [if_pos rfl]))
      refine OpR_t (σc := c3) (σm := m3) ?_ ?_ u3
      · rw [u1] at s1
        have s1' : F_Ru_make 123 (125 + 6 * (A - 1)) (Int32.ofNat n) c1 = some (true, c3) := s1
        simp (disch := omega) only [↓reduceIte, Nat.reduceEqDiff, F_Ru_doThing, F_Ru_makeArray, lit32, n_eq, n_le, n_nl0, if_pos, if_neg, r1, s1', ite_true, ite_false, if_true, if_false, Bool.false_eq_true, and_self, and_true, true_and, and_false, false_and]
      · simp (disch := omega) only [↓reduceIte, Nat.reduceEqDiff, F_Mo_work, F_Mo_work_15, F_Mo_work_30, F_Mo_work_74, F_Mo_work_79, F_Mo_work_94, F_Mo_work_110, F_Mo_work_508, F_Mo_work_269, F_Mo_work_289, lit32, n_eq, n_le, n_lt, if_pos, if_neg, n_mul, n_add, n_nl0, n_cl, false_or, Nat.zero_le, r2, stl_e, rI, Nat.le_refl, t1, u2, ite_true, ite_false, if_true, if_false, Bool.false_eq_true, and_self, and_true, true_and, and_false, false_and]
    · have e40 : md = 40 := by omega
      rw [e40] at o14 o15
      obtain ⟨c3, q1, q2⟩ := mi_raise r5 (e := 4) (by omega)
      refine OpR_f ?_ ?_ q2
      · simp (disch := omega) only [↓reduceIte, Nat.reduceEqDiff, F_Ru_doThing, F_Ru_makeArray, lit32, n_eq, n_le, n_nl0, if_pos, if_neg, r1, ru_make40 o14 q1, ite_true, ite_false, if_true, if_false, Bool.false_eq_true, and_self, and_true, true_and, and_false, false_and]
      · simp (disch := omega) only [↓reduceIte, Nat.reduceEqDiff, F_Mo_work, F_Mo_work_15, F_Mo_work_30, F_Mo_work_74, F_Mo_work_79, F_Mo_work_94, F_Mo_work_110, F_Mo_work_508, F_Mo_work_269, F_Mo_work_289, lit32, n_eq, n_le, n_lt, if_pos, if_neg, n_mul, n_add, n_nl0, n_cl, false_or, Nat.zero_le, r2, stl_e, rI, Nat.le_refl, mo_make40 o15, m1_lt, ite_true, ite_false, if_true, if_false, Bool.false_eq_true, and_self, and_true, true_and, and_false, false_and]
theorem o_22 {im : Im} {IA A : Nat} {ms ps : Nat → Nat} {ls : Nat → List Nat} {T : Nat → Nat} {md : Nat} {σc0 σm0 σc σm : SG} {L L' : List Nat} {p k : Nat} (h : Mi im IA A ms ps ls T md σc0 σm0 L σc σm) (hT : (((some L).bind (wot 1)).bind (wot 4)).bind (wth 1) = some L') : OpR im IA A ms ps ls σc0 σm0 L' (F_Ru_doThing 123 (125 + 6 * (A - 1)) (Int32.ofNat 22) (Int32.ofNat k) σc) (F_Mo_work 0 (Int32.ofNat p) (Int32.ofNat 22) σm) := by
  obtain ⟨L0, e, g1, -, g4⟩ := b_th hT
  subst g4
  obtain ⟨e0, -⟩ := b_ot e
  obtain ⟨e1, -⟩ := b_ot e0
  cases e1
  obtain ⟨v, b, c1, m1, -, r1, r2, r3, r4⟩ := mi_pop h
  rw [VR_1 r3, i64_32] at r1
  obtain ⟨z, a, c2, m2, -, s1, s2, s3, s4⟩ := mi_pop r4
  obtain ⟨o1, o2, o3, o4, o5, o6, o7, o8, o9, o10, o11, o12, o13, o14, o15, o16, -⟩ := Mi_op s4
  rcases VR_r s3 (by omega) with ⟨v0, a0⟩ | ⟨j, j1, j2, j3, j4⟩
  · rw [v0, n32 (by omega)] at s1
    rw [a0] at s2
    obtain ⟨c3, t1, t2⟩ := mi_raise s4 (e := 2) (by omega)
    refine OpR_f ?_ ?_ t2
    · simp (disch := omega) only [↓reduceIte, Nat.reduceEqDiff, F_Ru_doThing, F_Ru_doThing_92, F_Ru_doItem, F_Ru_doItem_14, F_Ru_doItem_54, lit32, n_eq, r1, s1, t1, ite_true, ite_false, if_true, if_false, Bool.false_eq_true, and_self, and_true, true_and, and_false, false_and]
    · simp (disch := omega) only [↓reduceIte, Nat.reduceEqDiff, F_Mo_work, F_Mo_work_15, F_Mo_work_30, F_Mo_work_74, F_Mo_work_79, F_Mo_work_94, F_Mo_work_110, F_Mo_work_508, lit32, n_eq, n_le, n_lt, if_pos, if_neg, n_mul, n_add, n_nl0, n_cl, false_or, Nat.zero_le, r2, s2, co_nul, pc_m1, pp_m1, sc_m1, ite_true, ite_false, if_true, if_false, Bool.false_eq_true, and_self, and_true, true_and, and_false, false_and]
  · rw [j3, n32 (by omega)] at s1
    rw [j4] at s2
    obtain ⟨n, n1, n2, n3⟩ := (s4.1.2.2.2.2.2.1.2 j j1).2 j2
    have hcnt := ru_count (σ := c2) (k := j) (by omega)
    rw [n2] at hcnt
    have h44 := s4.2.2.2.2
    rcases n_case b with hb | ⟨i, i1, i2⟩
    · obtain ⟨c3, t1, t2⟩ := mi_raise s4 (e := 3) (by omega)
      have hb' : b < Int32.ofNat 0 := hb
      refine OpR_f ?_ ?_ t2
      · simp (disch := omega) only [↓reduceIte, Nat.reduceEqDiff, F_Ru_doThing, F_Ru_doThing_92, F_Ru_doItem, F_Ru_doItem_14, F_Ru_doItem_54, lit32, n_eq, if_neg, r1, s1, hb', t1, ite_true, ite_false, if_true, if_false, Bool.false_eq_true, and_self, and_true, true_and, and_false, false_and]
      · simp (disch := omega) only [↓reduceIte, Nat.reduceEqDiff, F_Mo_work, F_Mo_work_15, F_Mo_work_30, F_Mo_work_74, F_Mo_work_79, F_Mo_work_94, F_Mo_work_110, F_Mo_work_508, lit32, n_eq, n_le, n_lt, if_pos, if_neg, n_mul, n_add, n_nl0, n_cl, false_or, Nat.zero_le, r2, s2, co_neg (show j < 40 by omega) hb', pc_m1, pp_m1, sc_m1, ite_true, ite_false, if_true, if_false, Bool.false_eq_true, and_self, and_true, true_and, and_false, false_and]
    · rw [i2] at r1 r2
      by_cases ci : n ≤ i
      · obtain ⟨c3, t1, t2⟩ := mi_raise s4 (e := 3) (by omega)
        refine OpR_f ?_ ?_ t2
        · simp (disch := omega) only [↓reduceIte, Nat.reduceEqDiff, F_Ru_doThing, F_Ru_doThing_92, F_Ru_doItem, F_Ru_doItem_14, F_Ru_doItem_54, lit32, n_eq, n_nl0, n_lt, if_neg, r1, s1, hcnt, t1, ite_true, ite_false, if_true, if_false, Bool.false_eq_true, and_self, and_true, true_and, and_false, false_and]
        · simp (disch := omega) only [↓reduceIte, Nat.reduceEqDiff, F_Mo_work, F_Mo_work_15, F_Mo_work_30, F_Mo_work_74, F_Mo_work_79, F_Mo_work_94, F_Mo_work_110, F_Mo_work_508, lit32, n_eq, n_le, n_lt, if_pos, if_neg, n_mul, n_add, n_nl0, n_cl, false_or, Nat.zero_le, r2, s2, co_out (show j < 40 by omega) n3 n1 ci i1, pc_m1, pp_m1, sc_m1, ite_true, ite_false, if_true, if_false, Bool.false_eq_true, and_self, and_true, true_and, and_false, false_and]
      · have hty : TyC im A ms T md (32 + j * 20 + i) = 1 := by rw [TyC_th j1 (by omega), j2]; unfold cty; rw [if_pos rfl]
        have s5 := mi_44 s4
        have hc := mi_cell (x := 32 + j * 20 + i) s5 (by omega) (by rw [hty]; omega)
        rw [hty, ra_th] at hc
        obtain ⟨c3, m3, u1, u2, u3, -⟩ := mi_push s5 g1 hc
        refine OpR_t (σc := c3) (σm := m3) ?_ ?_ u3
        · simp (disch := omega) only [↓reduceIte, Nat.reduceEqDiff, F_Ru_doThing, F_Ru_doThing_92, F_Ru_doItem, F_Ru_doItem_14, F_Ru_doItem_54, F_Ru_doItem_104, F_Ru_doItem_107, lit32, n_eq, n_nl0, n_lt, if_neg, if_pos, r1, s1, hcnt, ru_addr, ru_cell, u1, ite_true, ite_false, if_true, if_false, Bool.false_eq_true, and_self, and_true, true_and, and_false, false_and]
        · have u2' := pc_ok (x := 56 + 20 * j + i) (by omega) u2
          simp (disch := omega) only [↓reduceIte, Nat.reduceEqDiff, F_Mo_work, F_Mo_work_15, F_Mo_work_30, F_Mo_work_74, F_Mo_work_79, F_Mo_work_94, F_Mo_work_110, F_Mo_work_508, lit32, n_eq, n_le, n_lt, if_pos, if_neg, n_mul, n_add, n_nl0, n_cl, false_or, Nat.zero_le, r2, s2, co_in h44 (show j < 40 by omega) n3 n1 (show i < n by omega), u2', ite_true, ite_false, if_true, if_false, Bool.false_eq_true, and_self, and_true, true_and, and_false, false_and]
theorem o_23 {im : Im} {IA A : Nat} {ms ps : Nat → Nat} {ls : Nat → List Nat} {T : Nat → Nat} {md : Nat} {σc0 σm0 σc σm : SG} {L L' : List Nat} {p k : Nat} (h : Mi im IA A ms ps ls T md σc0 σm0 L σc σm) (hT : (((some L).bind (wot 1)).bind (wot 1)).bind (wot 4) = some L') : OpR im IA A ms ps ls σc0 σm0 L' (F_Ru_doThing 123 (125 + 6 * (A - 1)) (Int32.ofNat 23) (Int32.ofNat k) σc) (F_Mo_work 0 (Int32.ofNat p) (Int32.ofNat 23) σm) := by
  obtain ⟨e, -⟩ := b_ot hT
  obtain ⟨e0, -⟩ := b_ot e
  obtain ⟨e1, -⟩ := b_ot e0
  cases e1
  obtain ⟨w, d, c0, m0, q1, -, q2, q3, q4⟩ := mi_pop h
  obtain ⟨v, b, c1, m1, -, r1, r2, r3, r4⟩ := mi_pop q4
  rw [VR_1 r3, i64_32] at r1
  obtain ⟨z, a, c2, m2, -, s1, s2, s3, s4⟩ := mi_pop r4
  obtain ⟨o1, o2, o3, o4, o5, o6, o7, o8, o9, o10, o11, o12, o13, o14, o15, o16, -⟩ := Mi_op s4
  rcases VR_r s3 (by omega) with ⟨v0, a0⟩ | ⟨j, j1, j2, j3, j4⟩
  · rw [v0, n32 (by omega)] at s1
    rw [a0] at s2
    obtain ⟨c3, t1, t2⟩ := mi_raise s4 (e := 2) (by omega)
    refine OpR_f ?_ ?_ t2
    · simp (disch := omega) only [↓reduceIte, Nat.reduceEqDiff, F_Ru_doThing, F_Ru_doThing_92, F_Ru_doItem, F_Ru_doItem_14, F_Ru_doItem_54, lit32, n_eq, q1, r1, s1, t1, ite_true, ite_false, if_true, if_false, Bool.false_eq_true, and_self, and_true, true_and, and_false, false_and]
    · simp (disch := omega) only [↓reduceIte, Nat.reduceEqDiff, F_Mo_work, F_Mo_work_15, F_Mo_work_30, F_Mo_work_74, F_Mo_work_79, F_Mo_work_94, F_Mo_work_110, F_Mo_work_508, lit32, n_eq, n_le, n_lt, if_pos, if_neg, n_mul, n_add, n_nl0, n_cl, false_or, Nat.zero_le, q2, r2, s2, co_nul, pc_m1, pp_m1, sc_m1, ite_true, ite_false, if_true, if_false, Bool.false_eq_true, and_self, and_true, true_and, and_false, false_and]
  · rw [j3, n32 (by omega)] at s1
    rw [j4] at s2
    obtain ⟨n, n1, n2, n3⟩ := (s4.1.2.2.2.2.2.1.2 j j1).2 j2
    have hcnt := ru_count (σ := c2) (k := j) (by omega)
    rw [n2] at hcnt
    have h44 := s4.2.2.2.2
    rcases n_case b with hb | ⟨i, i1, i2⟩
    · obtain ⟨c3, t1, t2⟩ := mi_raise s4 (e := 3) (by omega)
      have hb' : b < Int32.ofNat 0 := hb
      refine OpR_f ?_ ?_ t2
      · simp (disch := omega) only [↓reduceIte, Nat.reduceEqDiff, F_Ru_doThing, F_Ru_doThing_92, F_Ru_doItem, F_Ru_doItem_14, F_Ru_doItem_54, lit32, n_eq, if_neg, q1, r1, s1, hb', t1, ite_true, ite_false, if_true, if_false, Bool.false_eq_true, and_self, and_true, true_and, and_false, false_and]
      · simp (disch := omega) only [↓reduceIte, Nat.reduceEqDiff, F_Mo_work, F_Mo_work_15, F_Mo_work_30, F_Mo_work_74, F_Mo_work_79, F_Mo_work_94, F_Mo_work_110, F_Mo_work_508, lit32, n_eq, n_le, n_lt, if_pos, if_neg, n_mul, n_add, n_nl0, n_cl, false_or, Nat.zero_le, q2, r2, s2, co_neg (show j < 40 by omega) hb', pc_m1, pp_m1, sc_m1, ite_true, ite_false, if_true, if_false, Bool.false_eq_true, and_self, and_true, true_and, and_false, false_and]
    · rw [i2] at r1 r2
      by_cases ci : n ≤ i
      · obtain ⟨c3, t1, t2⟩ := mi_raise s4 (e := 3) (by omega)
        refine OpR_f ?_ ?_ t2
        · simp (disch := omega) only [↓reduceIte, Nat.reduceEqDiff, F_Ru_doThing, F_Ru_doThing_92, F_Ru_doItem, F_Ru_doItem_14, F_Ru_doItem_54, lit32, n_eq, n_nl0, n_lt, if_neg, q1, r1, s1, hcnt, t1, ite_true, ite_false, if_true, if_false, Bool.false_eq_true, and_self, and_true, true_and, and_false, false_and]
        · simp (disch := omega) only [↓reduceIte, Nat.reduceEqDiff, F_Mo_work, F_Mo_work_15, F_Mo_work_30, F_Mo_work_74, F_Mo_work_79, F_Mo_work_94, F_Mo_work_110, F_Mo_work_508, lit32, n_eq, n_le, n_lt, if_pos, if_neg, n_mul, n_add, n_nl0, n_cl, false_or, Nat.zero_le, q2, r2, s2, co_out (show j < 40 by omega) n3 n1 ci i1, pc_m1, pp_m1, sc_m1, ite_true, ite_false, if_true, if_false, Bool.false_eq_true, and_self, and_true, true_and, and_false, false_and]
      · have hty : TyC im A ms T md (32 + j * 20 + i) = 1 := by rw [TyC_th j1 (by omega), j2]; unfold cty; rw [if_pos rfl]
        have s5 := mi_44 s4
        have s6 := mi_set (x := 32 + j * 20 + i) (v := w) (a := d) (b := Int32.ofNat 0) (σm1 := setA (setA (setI m2 0 44 (Int32.ofNat 0)) 25 (56 + 20 * j + i) d) 26 (56 + 20 * j + i) (Int32.ofNat 0)) s5 (by omega) (by rw [hty, VR_1 q3]; exact VR_num _ _) rfl rfl (fun y g hy => by rw [ra_th] at hy; rw [rA, if_neg (by omega), rA, if_neg (by omega)]) (by rw [ra_th, rA, if_neg (by omega), rA, if_pos ⟨rfl, rfl⟩]) (by rw [ra_th, rA, if_pos ⟨rfl, rfl⟩])
        refine OpR_t ?_ ?_ s6
        · simp (disch := omega) only [↓reduceIte, Nat.reduceEqDiff, F_Ru_doThing, F_Ru_doThing_92, F_Ru_doItem, F_Ru_doItem_14, F_Ru_doItem_54, F_Ru_doItem_107, lit32, n_eq, n_nl0, n_lt, if_neg, if_pos, q1, r1, s1, hcnt, ru_addr, ru_setCell, ite_true, ite_false, if_true, if_false, Bool.false_eq_true, and_self, and_true, true_and, and_false, false_and]
        · simp (disch := omega) only [↓reduceIte, Nat.reduceEqDiff, F_Mo_work, F_Mo_work_15, F_Mo_work_30, F_Mo_work_74, F_Mo_work_79, F_Mo_work_94, F_Mo_work_110, F_Mo_work_508, lit32, n_eq, n_le, n_lt, if_pos, if_neg, n_mul, n_add, n_nl0, n_cl, false_or, Nat.zero_le, q2, r2, s2, co_in h44 (show j < 40 by omega) n3 n1 (show i < n by omega), mo_setCell, ite_true, ite_false, if_true, if_false, Bool.false_eq_true, and_self, and_true, true_and, and_false, false_and]
theorem o_24 {im : Im} {IA A : Nat} {ms ps : Nat → Nat} {ls : Nat → List Nat} {T : Nat → Nat} {md : Nat} {σc0 σm0 σc σm : SG} {L L' : List Nat} {p k : Nat} (h : Mi im IA A ms ps ls T md σc0 σm0 L σc σm) (hT : (((some L).bind (wot 1)).bind (wot 4)).bind (wth 3) = some L') : OpR im IA A ms ps ls σc0 σm0 L' (F_Ru_doThing 123 (125 + 6 * (A - 1)) (Int32.ofNat 24) (Int32.ofNat k) σc) (F_Mo_work 0 (Int32.ofNat p) (Int32.ofNat 24) σm) := by
  obtain ⟨L0, e, g1, -, g4⟩ := b_th hT
  subst g4
  obtain ⟨e0, -⟩ := b_ot e
  obtain ⟨e1, -⟩ := b_ot e0
  cases e1
  obtain ⟨v, b, c1, m1, -, r1, r2, r3, r4⟩ := mi_pop h
  rw [VR_1 r3, i64_32] at r1
  obtain ⟨z, a, c2, m2, -, s1, s2, s3, s4⟩ := mi_pop r4
  obtain ⟨o1, o2, o3, o4, o5, o6, o7, o8, o9, o10, o11, o12, o13, o14, o15, o16, -⟩ := Mi_op s4
  rcases VR_r s3 (by omega) with ⟨v0, a0⟩ | ⟨j, j1, j2, j3, j4⟩
  · rw [v0, n32 (by omega)] at s1
    rw [a0] at s2
    obtain ⟨c3, t1, t2⟩ := mi_raise s4 (e := 2) (by omega)
    refine OpR_f ?_ ?_ t2
    · simp (disch := omega) only [↓reduceIte, Nat.reduceEqDiff, F_Ru_doThing, F_Ru_doThing_92, F_Ru_doItem, F_Ru_doItem_14, F_Ru_doItem_54, lit32, n_eq, r1, s1, t1, ite_true, ite_false, if_true, if_false, Bool.false_eq_true, and_self, and_true, true_and, and_false, false_and]
    · simp (disch := omega) only [↓reduceIte, Nat.reduceEqDiff, F_Mo_work, F_Mo_work_15, F_Mo_work_30, F_Mo_work_74, F_Mo_work_79, F_Mo_work_94, F_Mo_work_110, F_Mo_work_508, lit32, n_eq, n_le, n_lt, if_pos, if_neg, n_mul, n_add, n_nl0, n_cl, false_or, Nat.zero_le, r2, s2, co_nul, pc_m1, pp_m1, sc_m1, ite_true, ite_false, if_true, if_false, Bool.false_eq_true, and_self, and_true, true_and, and_false, false_and]
  · rw [j3, n32 (by omega)] at s1
    rw [j4] at s2
    obtain ⟨n, n1, n2, n3⟩ := (s4.1.2.2.2.2.2.1.2 j j1).2 j2
    have hcnt := ru_count (σ := c2) (k := j) (by omega)
    rw [n2] at hcnt
    have h44 := s4.2.2.2.2
    rcases n_case b with hb | ⟨i, i1, i2⟩
    · obtain ⟨c3, t1, t2⟩ := mi_raise s4 (e := 3) (by omega)
      have hb' : b < Int32.ofNat 0 := hb
      refine OpR_f ?_ ?_ t2
      · simp (disch := omega) only [↓reduceIte, Nat.reduceEqDiff, F_Ru_doThing, F_Ru_doThing_92, F_Ru_doItem, F_Ru_doItem_14, F_Ru_doItem_54, lit32, n_eq, if_neg, r1, s1, hb', t1, ite_true, ite_false, if_true, if_false, Bool.false_eq_true, and_self, and_true, true_and, and_false, false_and]
      · simp (disch := omega) only [↓reduceIte, Nat.reduceEqDiff, F_Mo_work, F_Mo_work_15, F_Mo_work_30, F_Mo_work_74, F_Mo_work_79, F_Mo_work_94, F_Mo_work_110, F_Mo_work_508, lit32, n_eq, n_le, n_lt, if_pos, if_neg, n_mul, n_add, n_nl0, n_cl, false_or, Nat.zero_le, r2, s2, co_neg (show j < 40 by omega) hb', pc_m1, pp_m1, sc_m1, ite_true, ite_false, if_true, if_false, Bool.false_eq_true, and_self, and_true, true_and, and_false, false_and]
    · rw [i2] at r1 r2
      by_cases ci : n ≤ i
      · obtain ⟨c3, t1, t2⟩ := mi_raise s4 (e := 3) (by omega)
        refine OpR_f ?_ ?_ t2
        · simp (disch := omega) only [↓reduceIte, Nat.reduceEqDiff, F_Ru_doThing, F_Ru_doThing_92, F_Ru_doItem, F_Ru_doItem_14, F_Ru_doItem_54, lit32, n_eq, n_nl0, n_lt, if_neg, r1, s1, hcnt, t1, ite_true, ite_false, if_true, if_false, Bool.false_eq_true, and_self, and_true, true_and, and_false, false_and]
        · simp (disch := omega) only [↓reduceIte, Nat.reduceEqDiff, F_Mo_work, F_Mo_work_15, F_Mo_work_30, F_Mo_work_74, F_Mo_work_79, F_Mo_work_94, F_Mo_work_110, F_Mo_work_508, lit32, n_eq, n_le, n_lt, if_pos, if_neg, n_mul, n_add, n_nl0, n_cl, false_or, Nat.zero_le, r2, s2, co_out (show j < 40 by omega) n3 n1 ci i1, pc_m1, pp_m1, sc_m1, ite_true, ite_false, if_true, if_false, Bool.false_eq_true, and_self, and_true, true_and, and_false, false_and]
      · have hty : TyC im A ms T md (32 + j * 20 + i) = 1 := by rw [TyC_th j1 (by omega), j2]; unfold cty; rw [if_pos rfl]
        have s5 := mi_44 s4
        have hv : VR im A ms T md (A - 1) 3 _ _ (Int32.ofNat 0) := VR_pl (x := 32 + j * 20 + i) (Int32.ofNat 0) (by omega) hty (fun z => by omega)
        rw [ra_th] at hv
        obtain ⟨c3, m3, u1, u2, u3, -⟩ := mi_push s5 g1 hv
        refine OpR_t (σc := c3) (σm := m3) ?_ ?_ u3
        · simp (disch := omega) only [↓reduceIte, Nat.reduceEqDiff, F_Ru_doThing, F_Ru_doThing_92, F_Ru_doItem, F_Ru_doItem_14, F_Ru_doItem_54, F_Ru_doItem_104, F_Ru_doItem_107, lit32, n_eq, n_nl0, n_lt, if_neg, if_pos, r1, s1, hcnt, ru_addr, n64, u1, ite_true, ite_false, if_true, if_false, Bool.false_eq_true, and_self, and_true, true_and, and_false, false_and]
        · have u2' := pp_ok (x := 56 + 20 * j + i) (by omega) u2
          simp (disch := omega) only [↓reduceIte, Nat.reduceEqDiff, F_Mo_work, F_Mo_work_15, F_Mo_work_30, F_Mo_work_74, F_Mo_work_79, F_Mo_work_94, F_Mo_work_110, F_Mo_work_508, lit32, n_eq, n_le, n_lt, if_pos, if_neg, n_mul, n_add, n_nl0, n_cl, false_or, Nat.zero_le, r2, s2, co_in h44 (show j < 40 by omega) n3 n1 (show i < n by omega), u2', ite_true, ite_false, if_true, if_false, Bool.false_eq_true, and_self, and_true, true_and, and_false, false_and]
theorem o_25 {im : Im} {IA A : Nat} {ms ps : Nat → Nat} {ls : Nat → List Nat} {T : Nat → Nat} {md : Nat} {σc0 σm0 σc σm : SG} {L L' : List Nat} {p k : Nat} (h : Mi im IA A ms ps ls T md σc0 σm0 L σc σm) (hT : ((some L).bind (wot 4)).bind (wth 1) = some L') : OpR im IA A ms ps ls σc0 σm0 L' (F_Ru_doThing 123 (125 + 6 * (A - 1)) (Int32.ofNat 25) (Int32.ofNat k) σc) (F_Mo_work 0 (Int32.ofNat p) (Int32.ofNat 25) σm) := by
  obtain ⟨L0, e, g1, -, g4⟩ := b_th hT
  subst g4
  obtain ⟨e0, -⟩ := b_ot e
  cases e0
  obtain ⟨v, a, c1, m1, -, r1, r2, r3, r4⟩ := mi_pop h
  obtain ⟨o1, o2, o3, -⟩ := Mi_op r4
  rcases VR_r r3 (by omega) with ⟨v0, a0⟩ | ⟨j, j1, j2, j3, j4⟩
  · rw [v0, n32 (by omega)] at r1
    rw [a0] at r2
    obtain ⟨c2, s1, s2⟩ := mi_raise r4 (e := 2) (by omega)
    refine OpR_f ?_ ?_ s2
    · simp (disch := omega) only [↓reduceIte, Nat.reduceEqDiff, F_Ru_doThing, F_Ru_pushSize, lit32, n_eq, r1, s1, ite_true, ite_false, if_true, if_false, Bool.false_eq_true, and_self, and_true, true_and, and_false, false_and]
    · simp (disch := omega) only [↓reduceIte, Nat.reduceEqDiff, F_Mo_work, F_Mo_work_15, F_Mo_work_30, F_Mo_work_74, F_Mo_work_79, F_Mo_work_94, F_Mo_work_110, F_Mo_work_508, F_Mo_work_368, lit32, n_eq, n_le, n_lt, if_pos, if_neg, n_mul, n_add, n_nl0, n_cl, false_or, Nat.zero_le, r2, m1_nle, m1_lt, stl_e, ite_true, ite_false, if_true, if_false, Bool.false_eq_true, and_self, and_true, true_and, and_false, false_and]
  · rw [j3, n32 (by omega)] at r1
    rw [j4] at r2
    obtain ⟨n, n1, n2, n3⟩ := (r4.1.2.2.2.2.2.1.2 j j1).2 j2
    have hcnt := ru_count (σ := c1) (k := j) (by omega)
    rw [n2] at hcnt
    have r5 := mi_44 r4
    obtain ⟨c2, m2, u1, u2, u3, -⟩ := mi_push r5 g1 (VR_num (Int32.ofNat n) (Int32.ofNat 0))
    refine OpR_t (σc := c2) (σm := m2) ?_ ?_ u3
    · simp (disch := omega) only [↓reduceIte, Nat.reduceEqDiff, F_Ru_doThing, F_Ru_pushSize, lit32, n_eq, if_neg, r1, hcnt, u1, ite_true, ite_false, if_true, if_false, Bool.false_eq_true, and_self, and_true, true_and, and_false, false_and]
    · simp (disch := omega) only [↓reduceIte, Nat.reduceEqDiff, F_Mo_work, F_Mo_work_15, F_Mo_work_30, F_Mo_work_74, F_Mo_work_79, F_Mo_work_94, F_Mo_work_110, F_Mo_work_508, F_Mo_work_368, lit32, n_eq, n_le, n_lt, if_pos, if_neg, n_mul, n_add, n_nl0, n_cl, false_or, Nat.zero_le, r2, stl_e, cm_39, rI2, n3, u2, ite_true, ite_false, if_true, if_false, Bool.false_eq_true, and_self, and_true, true_and, and_false, false_and]
theorem o_26 {im : Im} {IA A : Nat} {ms ps : Nat → Nat} {ls : Nat → List Nat} {T : Nat → Nat} {md : Nat} {σc0 σm0 σc σm : SG} {L L' : List Nat} {p k : Nat} (h : Mi im IA A ms ps ls T md σc0 σm0 L σc σm) (hT : ((some L).bind (wot 3)).bind (wth 1) = some L') : OpR im IA A ms ps ls σc0 σm0 L' (F_Ru_doValue 123 (125 + 6 * (A - 1)) (Int32.ofNat 26) σc) (F_Mo_work 0 (Int32.ofNat p) (Int32.ofNat 26) σm) := by
  obtain ⟨L0, e, g1, -, g4⟩ := b_th hT
  subst g4
  obtain ⟨e0, -⟩ := b_ot e
  cases e0
  obtain ⟨v, a, c1, m1, r1, -, r2, r3, r4⟩ := mi_pop h
  obtain ⟨x, x1, x2, x3, x4, x5⟩ := VR_3 r3
  rw [x4] at r1
  rw [x5] at r2
  have hra := ra_lt x1
  have hc := mi_cell r4 x1 (by omega)
  rw [x2] at hc
  obtain ⟨c2, m2, u1, u2, u3, -⟩ := mi_push (t := 1) (v := c1.2.2.2.2 173 x) (a := m1.2.2.2.1 25 (ra x)) (b := Int32.ofNat 0) r4 g1 (Or.inl ⟨rfl, VR_1 hc⟩)
  refine OpR_t (σc := c2) (σm := m2) ?_ ?_ u3
  · simp (disch := omega) only [↓reduceIte, Nat.reduceEqDiff, F_Ru_doValue, lit32, n_eq, r1, n32, ru_cell, u1, ite_true, ite_false, if_true, if_false, Bool.false_eq_true, and_self, and_true, true_and, and_false, false_and]
  · simp (disch := omega) only [↓reduceIte, Nat.reduceEqDiff, F_Mo_work, F_Mo_work_15, F_Mo_work_30, F_Mo_work_74, F_Mo_work_79, F_Mo_work_94, F_Mo_work_110, F_Mo_work_508, lit32, n_eq, n_le, n_lt, if_pos, if_neg, n_mul, n_add, n_nl0, n_cl, false_or, Nat.zero_le, r2, cm_37, u2, ite_true, ite_false, if_true, if_false, Bool.false_eq_true, and_self, and_true, true_and, and_false, false_and]
theorem o_27 {im : Im} {IA A : Nat} {ms ps : Nat → Nat} {ls : Nat → List Nat} {T : Nat → Nat} {md : Nat} {σc0 σm0 σc σm : SG} {L L' : List Nat} {p k : Nat} (h : Mi im IA A ms ps ls T md σc0 σm0 L σc σm) (hT : ((some L).bind (wot 1)).bind (wot 3) = some L') : OpR im IA A ms ps ls σc0 σm0 L' (F_Ru_doValue 123 (125 + 6 * (A - 1)) (Int32.ofNat 27) σc) (F_Mo_work 0 (Int32.ofNat p) (Int32.ofNat 27) σm) := by
  obtain ⟨e, -⟩ := b_ot hT
  obtain ⟨e0, -⟩ := b_ot e
  cases e0
  obtain ⟨w, b, c0, m0, q1, -, q2, q3, q4⟩ := mi_pop h
  obtain ⟨v, a, c1, m1, -, r1, r2, r3, r4⟩ := mi_pop q4
  obtain ⟨x, x1, x2, x3, x4, x5⟩ := VR_3 r3
  rw [x4, n32 (by omega)] at r1
  rw [x5] at r2
  have hra := ra_lt x1
  have r5 := mi_set (x := x) (v := w) (a := b) (b := m1.2.2.2.1 26 (ra x)) (σm1 := setA m1 25 (ra x) b) r4 x1 (by rw [x2, VR_1 q3]; exact VR_num _ _) rfl rfl (fun y g hy => by rw [rA, if_neg (by omega)]) (by rw [rA, if_pos ⟨rfl, rfl⟩]) (by rw [rA, if_neg (by omega)])
  refine OpR_t ?_ ?_ r5
  · simp (disch := omega) only [↓reduceIte, Nat.reduceEqDiff, F_Ru_doValue, lit32, n_eq, q1, r1, ru_setCell, ite_true, ite_false, if_true, if_false, Bool.false_eq_true, and_self, and_true, true_and, and_false, false_and]
  · simp (disch := omega) only [↓reduceIte, Nat.reduceEqDiff, F_Mo_work, F_Mo_work_15, F_Mo_work_30, F_Mo_work_74, F_Mo_work_79, F_Mo_work_94, F_Mo_work_110, F_Mo_work_508, lit32, n_eq, n_le, n_lt, if_pos, if_neg, n_mul, n_add, n_nl0, n_cl, false_or, Nat.zero_le, q2, r2, cm_37, stl_e, ite_true, ite_false, if_true, if_false, Bool.false_eq_true, and_self, and_true, true_and, and_false, false_and]
theorem o_28 {im : Im} {IA A : Nat} {ms ps : Nat → Nat} {ls : Nat → List Nat} {T : Nat → Nat} {md : Nat} {σc0 σm0 σc σm : SG} {L L' : List Nat} {p k : Nat} (h : Mi im IA A ms ps ls T md σc0 σm0 L σc σm) (hT : (((some L).bind (wot 1)).bind (wot 1)).bind (wth 2) = some L') : OpR im IA A ms ps ls σc0 σm0 L' (F_Ru_doValue 123 (125 + 6 * (A - 1)) (Int32.ofNat 28) σc) (F_Mo_work 0 (Int32.ofNat p) (Int32.ofNat 28) σm) := by
  obtain ⟨L0, e, g1, -, g4⟩ := b_th hT
  subst g4
  obtain ⟨e0, -⟩ := b_ot e
  obtain ⟨e1, -⟩ := b_ot e0
  cases e1
  obtain ⟨w, b, c0, m0, q1, -, q2, q3, q4⟩ := mi_pop h
  obtain ⟨v, a, c1, m1, r1, -, r2, r3, r4⟩ := mi_pop q4
  rw [VR_1 q3] at q1
  rw [VR_1 r3] at r1
  obtain ⟨c2, m2, u1, u2, u3, -⟩ := mi_push r4 g1 (VR_pr a b)
  have u1' : F_Fr_push (125 + 6 * (A - 1)) ((a.toInt64 <<< ((Int32.ofNat 32).toInt64 &&& (63 : Int64))) ||| (b.toInt64 &&& (4294967295 : Int64))) c1 = some c2 := u1
  refine OpR_t (σc := c2) (σm := m2) ?_ ?_ u3
  · simp (disch := omega) only [↓reduceIte, Nat.reduceEqDiff, F_Ru_doValue, lit32, n_eq, q1, r1, u1', ite_true, ite_false, if_true, if_false, Bool.false_eq_true, and_self, and_true, true_and, and_false, false_and]
  · simp (disch := omega) only [↓reduceIte, Nat.reduceEqDiff, F_Mo_work, F_Mo_work_15, F_Mo_work_30, F_Mo_work_74, F_Mo_work_79, F_Mo_work_94, F_Mo_work_110, F_Mo_work_508, lit32, n_eq, n_le, n_lt, if_pos, if_neg, n_mul, n_add, n_nl0, n_cl, false_or, Nat.zero_le, q2, r2, u2, ite_true, ite_false, if_true, if_false, Bool.false_eq_true, and_self, and_true, true_and, and_false, false_and]
theorem o_29 {im : Im} {IA A : Nat} {ms ps : Nat → Nat} {ls : Nat → List Nat} {T : Nat → Nat} {md : Nat} {σc0 σm0 σc σm : SG} {L L' : List Nat} {p k : Nat} (h : Mi im IA A ms ps ls T md σc0 σm0 L σc σm) (hT : ((some L).bind (wot 2)).bind (wth 1) = some L') : OpR im IA A ms ps ls σc0 σm0 L' (F_Ru_doValue 123 (125 + 6 * (A - 1)) (Int32.ofNat 29) σc) (F_Mo_work 0 (Int32.ofNat p) (Int32.ofNat 29) σm) := by
  obtain ⟨L0, e, g1, -, g4⟩ := b_th hT
  subst g4
  obtain ⟨e0, -⟩ := b_ot e
  cases e0
  obtain ⟨v, a, c1, m1, r1, -, r2, r3, r4⟩ := mi_pop h
  have hv := VR_2 r3
  rw [hv] at r1
  obtain ⟨c2, m2, u1, u2, u3, -⟩ := mi_push r4 g1 (VR_num (a) (Int32.ofNat 0))
  have hh : (pv a (m1.1 0 46) >>> ((Int32.ofNat 32).toInt64 &&& (63 : Int64))).toInt32 = a := pv_hi _ _
  refine OpR_t (σc := c2) (σm := m2) ?_ ?_ u3
  · simp (disch := omega) only [↓reduceIte, Nat.reduceEqDiff, F_Ru_doValue, F_Ru_firstOf, lit32, n_eq, r1, hh, u1, ite_true, ite_false, if_true, if_false, Bool.false_eq_true, and_self, and_true, true_and, and_false, false_and]
  · simp (disch := omega) only [↓reduceIte, Nat.reduceEqDiff, F_Mo_work, F_Mo_work_15, F_Mo_work_30, F_Mo_work_74, F_Mo_work_79, F_Mo_work_94, F_Mo_work_110, F_Mo_work_508, lit32, n_eq, n_le, n_lt, if_pos, if_neg, n_mul, n_add, n_nl0, n_cl, false_or, Nat.zero_le, r2, u2, ite_true, ite_false, if_true, if_false, Bool.false_eq_true, and_self, and_true, true_and, and_false, false_and]
theorem o_30 {im : Im} {IA A : Nat} {ms ps : Nat → Nat} {ls : Nat → List Nat} {T : Nat → Nat} {md : Nat} {σc0 σm0 σc σm : SG} {L L' : List Nat} {p k : Nat} (h : Mi im IA A ms ps ls T md σc0 σm0 L σc σm) (hT : ((some L).bind (wot 2)).bind (wth 1) = some L') : OpR im IA A ms ps ls σc0 σm0 L' (F_Ru_doValue 123 (125 + 6 * (A - 1)) (Int32.ofNat 30) σc) (F_Mo_work 0 (Int32.ofNat p) (Int32.ofNat 30) σm) := by
  obtain ⟨L0, e, g1, -, g4⟩ := b_th hT
  subst g4
  obtain ⟨e0, -⟩ := b_ot e
  cases e0
  obtain ⟨v, a, c1, m1, r1, -, r2, r3, r4⟩ := mi_pop h
  have hv := VR_2 r3
  rw [hv] at r1
  obtain ⟨c2, m2, u1, u2, u3, -⟩ := mi_push r4 g1 (VR_num ((m1.1 0 46)) (Int32.ofNat 0))
  have hh : (pv a (m1.1 0 46)).toInt32 = m1.1 0 46 := pv_lo _ _
  refine OpR_t (σc := c2) (σm := m2) ?_ ?_ u3
  · simp (disch := omega) only [↓reduceIte, Nat.reduceEqDiff, F_Ru_doValue, F_Ru_firstOf, lit32, n_eq, r1, hh, u1, ite_true, ite_false, if_true, if_false, Bool.false_eq_true, and_self, and_true, true_and, and_false, false_and]
  · simp (disch := omega) only [↓reduceIte, Nat.reduceEqDiff, F_Mo_work, F_Mo_work_15, F_Mo_work_30, F_Mo_work_74, F_Mo_work_79, F_Mo_work_94, F_Mo_work_110, F_Mo_work_508, lit32, n_eq, n_le, n_lt, if_pos, if_neg, n_mul, n_add, n_nl0, n_cl, false_or, Nat.zero_le, r2, u2, ite_true, ite_false, if_true, if_false, Bool.false_eq_true, and_self, and_true, true_and, and_false, false_and]
theorem push_set {σ s : SG} {f h x : Nat} {v w : Int64} (hf : f < 8) (hh : σ.1 (125 + 6 * f) 4 = Int32.ofNat h) (h8 : h < 8) (hs : F_Fr_push (125 + 6 * f) v (setL σ 173 x w) = some s) : ∃ s0, F_Fr_push (125 + 6 * f) v σ = some s0 ∧ setL s0 173 x w = s := by
  have h1 := fr_push (σ := σ) (v := v) hf hh h8
  have h2 := fr_push (σ := setL σ 173 x w) (v := v) hf hh h8
  rw [hs] at h2
  refine ⟨_, h1, ?_⟩
  rw [Option.some.inj h2]
  have e : (setL (setI (setL σ (126 + 6 * f) h v) (125 + 6 * f) 4 (Int32.ofNat (h + 1))) 173 x w).2.2.2.2 = (setI (setL (setL σ 173 x w) (126 + 6 * f) h v) (125 + 6 * f) 4 (Int32.ofNat (h + 1))).2.2.2.2 := by
    funext y g
    rw [rL, rI2, rL, rI2, rL, rL]
    by_cases c1 : y = 173 ∧ g = x
    · rw [if_pos c1, if_neg (by omega), if_pos c1]
    · rw [if_neg c1, if_neg c1]
  exact Prod.ext rfl (Prod.ext rfl (Prod.ext rfl (Prod.ext rfl e)))
theorem o_31 {im : Im} {IA A : Nat} {ms ps : Nat → Nat} {ls : Nat → List Nat} {T : Nat → Nat} {md : Nat} {σc0 σm0 σc σm : SG} {L L' : List Nat} {p k : Nat} (h : Mi im IA A ms ps ls T md σc0 σm0 L σc σm) (hT : ((some L).bind (wot 2)).bind (wth 5) = some L') : OpR im IA A ms ps ls σc0 σm0 L' (F_Ru_doValue 123 (125 + 6 * (A - 1)) (Int32.ofNat 31) σc) (F_Mo_work 0 (Int32.ofNat p) (Int32.ofNat 31) σm) := by
  obtain ⟨L0, e, g1, -, g4⟩ := b_th hT
  subst g4
  obtain ⟨e0, -⟩ := b_ot e
  cases e0
  obtain ⟨v, a, c1, m1, r1, -, r2, r3, r4⟩ := mi_pop h
  obtain ⟨o1, o2, o3, o4, o5, o6, o7, o8, o9, o10, o11, o12, o13, o14, o15, o16, -⟩ := Mi_op r4
  by_cases c40 : md < 40
  · obtain ⟨s, s1, s2, s3, s4, s5⟩ := ru_make (σ := c1) (f := A - 1) (n := Int32.ofNat 0) (by omega) c40 o14
    obtain ⟨t, t1, t2, t3, t4⟩ := mo_make (σ := m1) (n := Int32.ofNat 1) c40 o15
    have e1 : ∀ i, cty im 5 i = if i = 0 then 2 else 0 := fun i => by unfold cty; rw [if_neg (by omega), if_pos rfl]
    have hm := mi_made (t := 5) (c1 := s) (m1 := t) r4 c40 (by omega) (fun x g => by rw [s2, rI]) s3 (fun x g hx => by rw [s4, rA, if_neg hx]) (fun x g hx => by rw [s5, if_neg (by omega)]) (fun g => by rw [t2, rI]; by_cases c : g = 30 <;> simp [c]) t3 (fun x g h1 h2 => by rw [t4, if_neg (by omega), if_neg h1]) (fun i hi hc => by
      have hv := VR_zero (im := im) (A := A) (ms := ms) (T := T) (md := md) (f := 0) (t := 2) (by omega) (by omega)
      rw [e1] at hc
      by_cases ci : i = 0
      · rw [s5, if_pos (by omega), t4, t4, if_pos (by omega), if_pos (by omega), e1, if_pos ci]
        exact hv
      · rw [if_neg ci] at hc; omega) (fun e => by omega)
    have hty : TyC im A ms (upT T md 5) (md + 1) (32 + md * 20 + 0) = 2 := by
      rw [TyC_th (by omega) (by omega)]
      unfold upT
      rw [if_pos rfl, e1, if_pos rfl]
    have hs := mi_set (x := 32 + md * 20 + 0) (v := v) (a := a) (b := m1.1 0 46) (σm1 := setA (setA t 25 (56 + 20 * md) a) 26 (56 + 20 * md) (m1.1 0 46)) hm (by omega) (by rw [hty]; exact VR_n3 r3 (by omega) (by omega) (fun k hk => by unfold upT; rw [if_neg (by omega)])) rfl rfl (fun y g hy => by rw [ra_th] at hy; rw [rA, if_neg (by omega), rA, if_neg (by omega)]) (by rw [ra_th, rA, if_neg (by omega), rA, if_pos ⟨rfl, rfl⟩]) (by rw [ra_th, rA, if_pos ⟨rfl, rfl⟩])
    obtain ⟨c3, m3, u1, u2, u3, -, u5⟩ := mi_push (t := 5) hs g1 (VR_ref (k := md) (Int32.ofNat 0) (by omega) (by omega) (by unfold upT; rw [if_pos rfl]))
    obtain ⟨s0, z1, z2⟩ := push_set (f := A - 1) (by omega) (Mi_op hm).2.2.2.2.2.2.2.2.2.2.1 g1 u1
    refine OpR_t (σc := c3) (σm := m3) ?_ ?_ u3
    · rw [z1] at s1
      have s1' : F_Ru_make 123 (125 + 6 * (A - 1)) (Int32.ofNat 0) c1 = some (true, s0) := s1
      have hmd : s0.1 123 12 = Int32.ofNat (md + 1) := by
        have h1 : c3.1 123 12 = Int32.ofNat (md + 1) := by
          rw [u5]; exact (Mi_op hs).2.2.2.2.2.2.2.2.2.2.2.2.2.1
        rw [← z2] at h1
        exact h1
      have hsc := ru_setCell (σ := s0) (x := 32 + md * 20 + 0) (v := v) (by omega)
      rw [z2] at hsc
      simp (disch := omega) only [↓reduceIte, Nat.reduceEqDiff, F_Ru_doValue, F_Ru_makeBox, lit32, n_eq, r1, s1', hmd, ru_addr, hsc, ite_true, ite_false, if_true, if_false, Bool.false_eq_true, and_self, and_true, true_and, and_false, false_and]
    · simp (disch := omega) only [↓reduceIte, Nat.reduceEqDiff, F_Mo_work, F_Mo_work_15, F_Mo_work_30, F_Mo_work_74, F_Mo_work_79, F_Mo_work_94, F_Mo_work_110, F_Mo_work_508, F_Mo_work_474, lit32, n_eq, n_le, n_lt, if_pos, if_neg, n_mul, n_add, n_nl0, n_cl, false_or, Nat.zero_le, r2, t1, mo_setCell, u2, ite_true, ite_false, if_true, if_false, Bool.false_eq_true, and_self, and_true, true_and, and_false, false_and]
  · have e40 : md = 40 := by omega
    rw [e40] at o14 o15
    obtain ⟨c3, q1, q2⟩ := mi_raise r4 (e := 4) (by omega)
    refine OpR_f ?_ ?_ q2
    · simp (disch := omega) only [↓reduceIte, Nat.reduceEqDiff, F_Ru_doValue, F_Ru_makeBox, lit32, n_eq, r1, ru_make40 o14 q1, ite_true, ite_false, if_true, if_false, Bool.false_eq_true, and_self, and_true, true_and, and_false, false_and]
    · simp (disch := omega) only [↓reduceIte, Nat.reduceEqDiff, F_Mo_work, F_Mo_work_15, F_Mo_work_30, F_Mo_work_74, F_Mo_work_79, F_Mo_work_94, F_Mo_work_110, F_Mo_work_508, F_Mo_work_474, lit32, n_eq, n_le, n_lt, if_pos, if_neg, n_mul, n_add, n_nl0, n_cl, false_or, Nat.zero_le, r2, mo_make40 o15, m1_nle, m1_lt, sc_m1, ite_true, ite_false, if_true, if_false, Bool.false_eq_true, and_self, and_true, true_and, and_false, false_and]
theorem o_32 {im : Im} {IA A : Nat} {ms ps : Nat → Nat} {ls : Nat → List Nat} {T : Nat → Nat} {md : Nat} {σc0 σm0 σc σm : SG} {L L' : List Nat} {p k : Nat} (h : Mi im IA A ms ps ls T md σc0 σm0 L σc σm) (hT : ((some L).bind (wot 5)).bind (wth 2) = some L') : OpR im IA A ms ps ls σc0 σm0 L' (F_Ru_doValue 123 (125 + 6 * (A - 1)) (Int32.ofNat 32) σc) (F_Mo_work 0 (Int32.ofNat p) (Int32.ofNat 32) σm) := by
  obtain ⟨L0, e, g1, -, g4⟩ := b_th hT
  subst g4
  obtain ⟨e0, -⟩ := b_ot e
  cases e0
  obtain ⟨v, a, c1, m1, r1, -, r2, r3, r4⟩ := mi_pop h
  obtain ⟨o1, o2, o3, -⟩ := Mi_op r4
  rcases VR_r r3 (by omega) with ⟨v0, a0⟩ | ⟨j, j1, j2, j3, j4⟩
  · rw [v0] at r1
    rw [a0] at r2
    obtain ⟨c2, s1, s2⟩ := mi_raise r4 (e := 2) (by omega)
    refine OpR_f ?_ ?_ s2
    · simp (disch := omega) only [↓reduceIte, Nat.reduceEqDiff, F_Ru_doValue, F_Ru_openBox, lit32, n_eq, r1, n32, s1, ite_true, ite_false, if_true, if_false, Bool.false_eq_true, and_self, and_true, true_and, and_false, false_and]
    · simp (disch := omega) only [↓reduceIte, Nat.reduceEqDiff, F_Mo_work, F_Mo_work_15, F_Mo_work_30, F_Mo_work_74, F_Mo_work_79, F_Mo_work_94, F_Mo_work_110, F_Mo_work_508, lit32, n_eq, n_le, n_lt, if_pos, if_neg, n_mul, n_add, n_nl0, n_cl, false_or, Nat.zero_le, r2, co_nul, pc_m1, ite_true, ite_false, if_true, if_false, Bool.false_eq_true, and_self, and_true, true_and, and_false, false_and]
  · rw [j3] at r1
    rw [j4] at r2
    have hty : TyC im A ms T md (32 + j * 20 + 0) = 2 := by rw [TyC_th j1 (by omega), j2]; unfold cty; rw [if_neg (by omega), if_pos rfl, if_pos rfl]
    have r5 := mi_44 r4
    have h44 := r4.2.2.2.2
    have hc := mi_cell (x := 32 + j * 20 + 0) r5 (by omega) (by rw [hty]; omega)
    rw [hty, ra_th] at hc
    obtain ⟨c2, m2, u1, u2, u3, -⟩ := mi_push r5 g1 hc
    refine OpR_t (σc := c2) (σm := m2) ?_ ?_ u3
    · simp (disch := omega) only [↓reduceIte, Nat.reduceEqDiff, F_Ru_doValue, F_Ru_openBox, lit32, n_eq, if_neg, r1, n32, ru_addr, ru_cell, u1, ite_true, ite_false, if_true, if_false, Bool.false_eq_true, and_self, and_true, true_and, and_false, false_and]
    · have u2' := pc_ok (x := 56 + 20 * j + 0) (by omega) u2
      simp (disch := omega) only [↓reduceIte, Nat.reduceEqDiff, F_Mo_work, F_Mo_work_15, F_Mo_work_30, F_Mo_work_74, F_Mo_work_79, F_Mo_work_94, F_Mo_work_110, F_Mo_work_508, lit32, n_eq, n_le, n_lt, if_pos, if_neg, n_mul, n_add, n_nl0, n_cl, false_or, Nat.zero_le, r2, co_ok h44 (show j < 40 by omega) (show 0 < 20 by omega), u2', ite_true, ite_false, if_true, if_false, Bool.false_eq_true, and_self, and_true, true_and, and_false, false_and]
