/-! Peeks, entries, and the start of a run. -/
theorem StR_dig {im : Im} {A : Nat} {ms T : Nat → Nat} {md f : Nat} {σc σm : SG} : ∀ L : List Nat, Gr L → StR im A ms T md σc σm f L → ∀ i, i < L.length → VR im A ms T md f (enc L / 2 ^ (4 * i) % 16) (σc.2.2.2.2 (126 + 6 * f) i) (σm.2.2.2.1 23 (8 * f + i)) (σm.2.2.2.1 24 (8 * f + i))
  | [], _, _, i, hi => absurd hi (Nat.not_lt_zero i)
  | t :: l, hg, hs, i, hi => by
    rw [List.length_cons] at hi
    by_cases c : i = l.length
    · rw [c, enc_top hg]
      exact hs.1
    · have h1 := StR_dig l (Gr_tl hg) hs.2 i (by omega)
      have e1 : enc (t :: l) = enc l + 2 ^ (4 * i) * (16 * (t * 2 ^ (4 * (l.length - i - 1)))) := by
        show enc l + t * 2 ^ (4 * l.length) = _
        have e2 : 2 ^ (4 * l.length) = 2 ^ (4 * i) * (16 * 2 ^ (4 * (l.length - i - 1))) := by
          rw [← p4, ← Nat.pow_add]
          congr 1
          omega
        rw [e2, ← Nat.mul_assoc t, Nat.mul_comm t, Nat.mul_assoc, Nat.mul_left_comm t]
      rw [e1, Nat.add_mul_div_left _ _ (p_pos i), Nat.add_mul_mod_self_left]
      exact h1
theorem q_peek {σc σm : SG} (x : Int32) (h : Inv σc σm) : ∃ v, F_TE_peek 0 x σc = some (v, σc) ∧ F_Mo_peek 0 x σm = some (v, σm) := by
  obtain ⟨d, n, im, IA, IB, h1, h2, h3, h4, h5⟩ := h
  obtain ⟨k, k1, k2, k3, k4, -⟩ := RnI_ph h5
  by_cases ck : k = 1
  · obtain ⟨A, ms, ps, ls, T, md, g1, g2, ⟨R, r1, r2, r3, r4⟩, -⟩ := k4 ck
    rw [ck] at k2 k3
    have hA1 := g1.1.1
    have hA8 := g1.1.2.1
    have hl := ru_latest g1.2.2.1.1 g1.1.1 g1.1.2.1
    have h31 := g1.2.2.1.2.1
    have hFr := (cF (f := A - 1) (by omega)).1
    obtain ⟨f1, f2, f3, f4, f5, f6, f7, f8, f9, f10, f11, -⟩ := g1.2.2.2.2.1 (A - 1) (by omega)
    have b0 := g1.2.1
    have hMc := d_Mc b0.1 f1
    have hm6 := (wf_m b0.2.2.1 f1).1
    obtain ⟨bb, R', v1, v2, v3, v4⟩ := b0.2.2.2 _ f1
    have hbb : bb = true := v3.mpr f2
    obtain ⟨hRw, -, -⟩ := v4 hbb
    have eR : R' = R := LeQ_anti (hRw.2.1 R r1) (r2 R' hRw.1)
    rw [eR] at hRw
    have hp14 := hRw.2.2.2.2.1 (ps (A - 1)) (by rw [r3]; exact fun z => by cases z)
    have hrow : F_Me_rowAt (IA + 4 + 9 * ms (A - 1)) (Int32.ofNat (ps (A - 1))) σc = some (encO (some (ls (A - 1))), σc) := by
      rcases row_any b0.1 f1 hRw (Int32.ofNat (ps (A - 1))) with ⟨p, y1, y2, y3⟩ | ⟨y1, -⟩
      · have h14 := (wf_m b0.2.2.1 f1).2.2.2.2.2.2.2.2.2.1
        have : ps (A - 1) = p := (n_eq (by omega) (by omega)).mp y2
        rw [← this, r3] at y3
        exact y3
      · exfalso
        rcases y1 with y1 | ⟨p, y1, y2, y3⟩
        · rw [lit32, n_lt (by omega) (by omega)] at y1
          omega
        · have : ps (A - 1) = p := (n_eq (by omega) (by omega)).mp y3
          omega
    have hGr : Gr (ls (A - 1)) := hRw.2.2.2.1 (ps (A - 1)) _ r3
    have hne : ¬ (encO (some (ls (A - 1))) = -Int32.ofNat 1) := fun e => by
      have := (encO_none (fun z e => by cases e; exact hGr)).mp e
      cases this
    have hme := a_meth (k := ms (A - 1)) b0.1 (by omega)
    rw [if_pos f1] at hme
    rw [hbb] at v1
    have hvm : F_Im_verifiedMethod IA (Int32.ofNat (ms (A - 1))) σc = some (some (IA + 4 + 9 * ms (A - 1)), σc) := by
      simp (disch := omega) only [F_Im_verifiedMethod, F_Im_verifiedMethod_22, hme, hMc, if_pos, v1, ite_true, ite_false, if_true, if_false, Bool.false_eq_true, and_self, and_true, true_and, and_false, false_and]
    have hP := h3.1
    have hI := (ImgI_n h3).2.2.2.2
    obtain ⟨v, t1, t2⟩ := type_sim (Int32.ofNat (ms (A - 1))) (Int32.ofNat (ps (A - 1))) x h3
    have hty : ∀ t, F_Rw_typeAt (encO (some (ls (A - 1)))) x σc = some (t, σc) → F_Mo_type 0 (Int32.ofNat (ms (A - 1))) (Int32.ofNat (ps (A - 1))) x σm = some (t, σm) := fun t ht => by
      have e1 : F_TE_type 0 (Int32.ofNat (ms (A - 1))) (Int32.ofNat (ps (A - 1))) x σc = some (t, σc) := by
        simp (disch := omega) only [F_TE_type, F_TE_type_41, hP, hI, if_pos, if_neg, hvm, hMc, hrow, lit32, hne, ht, ite_true, ite_false, if_true, if_false, Bool.false_eq_true, and_self, and_true, true_and, and_false, false_and]
      rw [t1] at e1
      have e2 : v = t := congrArg Prod.fst (Option.some.inj e1)
      rw [t2, e2]
    have hcl : ∀ t, F_Rw_typeAt (encO (some (ls (A - 1)))) x σc = some (t, σc) → ¬ (t = Int32.ofNat 1) → ∃ v, F_TE_peek 0 x σc = some (v, σc) ∧ F_Mo_peek 0 x σm = some (v, σm) := fun t ht h1 => by
      have ht2 := hty t ht
      refine ⟨Int32.ofNat 0, ?_, ?_⟩
      · simp (disch := omega) only [F_TE_peek, F_TE_peek_52, c06, k2, lit32, n_eq, if_pos, if_neg, hl, hFr, f3, hMc, f6, hrow, ht, h1, ite_true, ite_false, if_true, if_false, Bool.false_eq_true, and_self, and_true, true_and, and_false, false_and]
      · simp (disch := omega) only [F_Mo_peek, F_Mo_peek_53, k3, lit32, n_eq, if_pos, if_neg, h31, n_sub, n_nl0, n_cl, false_or, cm_32, cm_33, f9, r4, ht2, h1, ite_true, ite_false, if_true, if_false, Bool.false_eq_true, and_self, and_true, true_and, and_false, false_and]
    rcases n_case x with hx | ⟨i, hi, ex⟩
    · exact hcl _ (f_typeAt0 hx σc) (by decide)
    · subst ex
      by_cases c8 : i < 8
      · have he := Gr_32 hGr
        have ht : F_Rw_typeAt (encO (some (ls (A - 1)))) (Int32.ofNat i) σc = some (Int32.ofNat (enc (ls (A - 1)) / 2 ^ (4 * i) % 16), σc) := f_typeAt (by omega) c8 σc
        by_cases cd : enc (ls (A - 1)) / 2 ^ (4 * i) % 16 = 1
        · have hlen : i < (ls (A - 1)).length := by
            refine Nat.lt_of_not_le (fun z => ?_)
            rw [(enc_z hGr i).mpr z] at cd
            omega
          have hv := StR_dig _ hGr f11 i hlen
          rw [cd] at hv ht
          have ht2 := hty _ ht
          have hva := fr_val (σ := σc) (f := A - 1) (i := i) (by omega) f8 f7 hlen
          have hvv : (σc.2.2.2.2 (126 + 6 * (A - 1)) i).toInt32 = σm.2.2.2.1 23 (8 * (A - 1) + i) := by rw [VR_1 hv, i64_32]
          refine ⟨σm.2.2.2.1 23 (8 * (A - 1) + i), ?_, ?_⟩
          · simp (disch := omega) only [F_TE_peek, F_TE_peek_52, c06, k2, lit32, n_eq, if_pos, if_neg, hl, hFr, f3, hMc, f6, hrow, ht, hva, hvv, ite_true, ite_false, if_true, if_false, Bool.false_eq_true, and_self, and_true, true_and, and_false, false_and]
          · simp (disch := omega) only [F_Mo_peek, F_Mo_peek_53, k3, lit32, n_eq, if_pos, if_neg, h31, n_sub, n_nl0, n_cl, false_or, cm_32, cm_33, f9, r4, ht2, n_mul, n_add, cm_35, ite_true, ite_false, if_true, if_false, Bool.false_eq_true, and_self, and_true, true_and, and_false, false_and]
        · exact hcl _ ht (by rw [n_eq (by omega) (by omega)]; exact cd)
      · exact hcl _ (f_typeAt8 (by omega) hi σc) (by decide)
  · refine ⟨Int32.ofNat 0, ?_, ?_⟩
    · simp (disch := omega) only [F_TE_peek, c06, k2, lit32, n_eq, if_neg, ite_true, ite_false, if_true, if_false, Bool.false_eq_true, and_self, and_true, true_and, and_false, false_and]
    · simp (disch := omega) only [F_Mo_peek, k3, lit32, n_eq, if_neg, ite_true, ite_false, if_true, if_false, Bool.false_eq_true, and_self, and_true, true_and, and_false, false_and]
theorem q_entered {σc σm : SG} (x y : Int32) (h : Inv σc σm) : ∃ v, F_TE_entered 0 x y σc = some (v, σc) ∧ F_Mo_entered 0 x y σm = some (v, σm) := by
  obtain ⟨d, n, im, IA, IB, h1, h2, h3, h4, h5⟩ := h
  obtain ⟨k, k1, k2, k3, k4, -, -, k7⟩ := RnI_ph h5
  obtain ⟨i1, i2, i3, i4, i5⟩ := ImgI_n h3
  have hP := h3.1
  by_cases ck : k = 0
  · rw [ck] at k2 k3
    refine ⟨Int32.ofNat 0, ?_, ?_⟩
    · simp (disch := omega) only [↓reduceIte, Nat.reduceEqDiff, F_TE_entered, F_TE_entered_21, c06, k2, lit32, n_eq, if_pos, ite_true, ite_false, if_true, if_false, Bool.false_eq_true, and_self, and_true, true_and, and_false, false_and]
    · simp (disch := omega) only [↓reduceIte, Nat.reduceEqDiff, F_Mo_entered, F_Mo_entered_33, F_Mo_entered_47, k3, lit32, n_eq, if_pos, ite_true, ite_false, if_true, if_false, Bool.false_eq_true, and_self, and_true, true_and, and_false, false_and]
  · have hno : F_Im_method IA x σc = some (none, σc) → F_Mo_entered 0 x y σm = some (Int32.ofNat 0, σm) → ∃ v, F_TE_entered 0 x y σc = some (v, σc) ∧ F_Mo_entered 0 x y σm = some (v, σm) := fun a b => by
      refine ⟨Int32.ofNat 0, ?_, b⟩
      simp (disch := omega) only [↓reduceIte, Nat.reduceEqDiff, F_TE_entered, F_TE_entered_21, c06, k2, lit32, n_eq, if_neg, hP, i5, if_pos, a, ite_true, ite_false, if_true, if_false, Bool.false_eq_true, and_self, and_true, true_and, and_false, false_and]
    rcases n_case x with hx | ⟨m, hm, ex⟩
    · refine hno ?_ ?_
      · unfold F_Im_method
        rw [if_pos hx]
        rfl
      · unfold F_Mo_entered
        rw [k3, if_neg (by rw [lit32, n_eq (by omega) (by omega)]; omega), if_pos hx]
        rfl
    · subst ex
      by_cases cm : m < im 0 1
      · obtain ⟨c1, c2, c3⟩ : ImC σc IA im ∧ WfI im ∧ ∀ m, m < im 0 1 → VerI im m IA σc σm := by
          rcases h3.2.2.2.2.2 with ⟨c1, -⟩ | c
          · omega
          · exact c
        have hme := a_meth (k := m) c1 (by omega)
        rw [if_pos cm] at hme
        have hMc := d_Mc c1 cm
        have hm6 := (wf_m c2 cm).1
        have m9 := h3.2.2.2.2.1.2.2.2 9 m (by omega) (by omega)
        have h9 := (wf_m c2 cm).2.2.2.2.2.2.1
        rcases n_case y with hy | ⟨r, hr, ey⟩
        · refine ⟨Int32.ofNat 0, ?_, ?_⟩
          · have e1 : F_Ru_entriesOf 123 (Int32.ofNat m) y σc = some (Int32.ofNat 0, σc) := by
              unfold F_Ru_entriesOf
              rw [if_neg (by rw [lit32, n_lt (by omega) (by omega)]; omega), if_neg (by rw [lit32, n_le (by omega) (by omega)]; omega), if_pos hy]
              simp (disch := omega) only [F_Ru_entriesOf_23, F_Ru_entriesOf_24, F_Ru_entriesOf_43, lit32, if_neg, ite_true, ite_false, if_true, if_false, Bool.false_eq_true, and_self, and_true, true_and, and_false, false_and]
            simp (disch := omega) only [↓reduceIte, Nat.reduceEqDiff, F_TE_entered, c06, k2, lit32, n_eq, if_neg, hP, i5, if_pos, hme, hMc, e1, ite_true, ite_false, if_true, if_false, Bool.false_eq_true, and_self, and_true, true_and, and_false, false_and]
          · unfold F_Mo_entered
            rw [k3, if_neg (by rw [lit32, n_eq (by omega) (by omega)]; omega), if_neg (by rw [lit32, n_lt (by omega) (by omega)]; omega), i2, if_neg (by rw [n_le (by omega) (by omega)]; omega), if_pos hy]
            rfl
        · subst ey
          by_cases cr : r < im 9 m
          · refine ⟨σm.2.2.2.1 31 (3 * m + r), ?_, ?_⟩
            · have e2 := (k7 ck).2.1 (3 * m + r) (by omega)
              simp (disch := omega) only [↓reduceIte, Nat.reduceEqDiff, F_TE_entered, F_Ru_entriesOf, F_Ru_entriesOf_24, F_Ru_entriesOf_43, c06, k2, lit32, n_eq, if_neg, hP, i5, if_pos, hme, hMc, n_nl0, n_le, n_mul, n_add, n_cl, false_or, cR4, Nat.mul_comm m 3, e2, ite_true, ite_false, if_true, if_false, Bool.false_eq_true, and_self, and_true, true_and, and_false, false_and]
            · simp (disch := omega) only [↓reduceIte, Nat.reduceEqDiff, F_Mo_entered, F_Mo_entered_47, k3, lit32, n_eq, if_neg, n_nl0, i2, n_le, n_cl, false_or, cm_13, m9, n_lt, if_pos, n_mul, n_add, cm_43, ite_true, ite_false, if_true, if_false, Bool.false_eq_true, and_self, and_true, true_and, and_false, false_and]
          · refine ⟨Int32.ofNat 0, ?_, ?_⟩
            · by_cases c3' : r < 3
              · have e2 := (k7 ck).2.2 m r cm (by omega) c3'
                simp (disch := omega) only [↓reduceIte, Nat.reduceEqDiff, F_TE_entered, F_Ru_entriesOf, F_Ru_entriesOf_24, F_Ru_entriesOf_43, c06, k2, lit32, n_eq, if_neg, hP, i5, if_pos, hme, hMc, n_nl0, n_le, n_mul, n_add, n_cl, false_or, cR4, Nat.mul_comm m 3, e2, ite_true, ite_false, if_true, if_false, Bool.false_eq_true, and_self, and_true, true_and, and_false, false_and]
              · simp (disch := omega) only [↓reduceIte, Nat.reduceEqDiff, F_TE_entered, F_Ru_entriesOf, F_Ru_entriesOf_23, F_Ru_entriesOf_24, F_Ru_entriesOf_43, c06, k2, lit32, n_eq, if_neg, hP, i5, if_pos, hme, hMc, n_nl0, n_le, ite_true, ite_false, if_true, if_false, Bool.false_eq_true, and_self, and_true, true_and, and_false, false_and]
            · simp (disch := omega) only [↓reduceIte, Nat.reduceEqDiff, F_Mo_entered, F_Mo_entered_33, F_Mo_entered_47, k3, lit32, n_eq, if_neg, n_nl0, i2, n_le, n_cl, false_or, cm_13, m9, n_lt, ite_true, ite_false, if_true, if_false, Bool.false_eq_true, and_self, and_true, true_and, and_false, false_and]
      · refine hno ?_ ?_
        · simp (disch := omega) only [F_Im_method, F_Im_method_12, F_Im_method_22, lit32, n_nl0, i1, n_lt, if_neg, ite_true, ite_false, if_true, if_false, Bool.false_eq_true, and_self, and_true, true_and, and_false, false_and]
        · simp (disch := omega) only [↓reduceIte, Nat.reduceEqDiff, F_Mo_entered, F_Mo_entered_33, F_Mo_entered_47, k3, lit32, n_eq, if_neg, n_nl0, i2, n_le, if_pos, ite_true, ite_false, if_true, if_false, Bool.false_eq_true, and_self, and_true, true_and, and_false, false_and]
