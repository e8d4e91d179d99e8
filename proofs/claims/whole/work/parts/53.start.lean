/-! start: which methods may begin a run. -/
def Gc (im : Im) (k j : Nat) : Prop := ∃ R, Clo im k R ∧ (∀ Q, Clo im k Q → LeQ R Q) ∧ ∃ p, R p ≠ none ∧ cdA im k p = 33 ∧ cdA im k (p + 1) = j
theorem CB_all {im : Im} {k c : Nat} {R : RQ} (hC : Clo im k R) (hmin : ∀ Q, Clo im k Q → LeQ R Q) (h : CB im k (fun p => R p ≠ none) c) (h6 : im 0 1 ≤ 6) : ∀ j, Nat.testBit c j = true ↔ j < im 0 1 ∧ Gc im k j := by
  intro j
  by_cases c6 : j < 6
  · rw [h.2 j c6]
    constructor
    · rintro ⟨p, a, b, d, e⟩
      exact ⟨e, R, hC, hmin, p, a, b, d⟩
    · rintro ⟨e, R', hC', hmin', p, a, b, d⟩
      have er : R' = R := LeQ_anti (hmin' R hC) (hmin R' hC')
      rw [er] at a
      exact ⟨p, a, b, d, e⟩
  · rw [bit_hi h.1 (by omega)]
    exact ⟨(fun e => nomatch e), fun z => by have := z.1; omega⟩
/-- a call that is reached names a method -/
theorem call_nm {im : Im} {k p : Nat} {R : RQ} {l : List Nat} (hC : Clo im k R) (hR : R p = some l) (h33 : cdA im k p = 33) : cdA im k (p + 1) < im 0 1 := by
  have h := (hC.2 p l hR).1
  rw [h33] at h
  have e : Tr im k 33 (cdA im k (p + 1)) (some l) = callT im (cdA im k (p + 1)) (some l) := by simp (disch := omega) only [Tr, if_pos, if_neg, or_self, or_false, Nat.reduceEqDiff, ite_true, ite_false, if_true, if_false, Bool.false_eq_true, and_self, and_true, true_and, and_false, false_and]
  rw [e] at h
  unfold callT at h
  refine Nat.lt_of_not_le (fun z => ?_)
  rw [if_neg (by omega)] at h
  exact h rfl
theorem m_direct_l {im : Im} {k : Nat} {σ : SG} {R : RQ} (hw : WfI im) (hk : k < im 0 1) (hM : RepM σ im) (hRS : RS im k σ R) (hC : Clo im k R) (hmin : ∀ Q, Clo im k Q → LeQ R Q) (hbg : ∀ p, p < im 14 k → (zb (σ.2.2.2.1 16 (100 * k + p)) = true ↔ Beg im k p)) (hsp : SpOK im k) : ∀ cc i fuel c, i + cc = im 14 k → cc < fuel → CB im k (fun p => p < i ∧ R p ≠ none) c →
    ∃ d, F_Mo_direct_4 fuel 0 (Int32.ofNat k) (Int32.ofNat c) (Int32.ofNat i) σ = some (Int32.ofNat d, σ) ∧ CB im k (fun p => R p ≠ none) d := by
  obtain ⟨w1, w2, w3, w4, w5, w6, w7, w8, w9, w10, w11⟩ := wf_m hw hk
  have wc := wf_c hw
  have hl := RepM_A hM 14 k (by omega) (by omega)
  intro cc
  induction cc with
  | zero =>
    intro i fuel c hi hf h
    obtain ⟨fuel, rfl⟩ : ∃ x, fuel = x + 1 := ⟨fuel - 1, by omega⟩
    refine ⟨c, ?_, CB_iff h (fun p => ⟨fun z => z.2, fun z => ⟨by have := hRS.2.2 p z; omega, z⟩⟩)⟩
    simp (disch := omega) only [F_Mo_direct_4, lit32, n_nl0, n_cl, false_or, if_neg, cm_18, hl, n_le, if_pos, ite_true, ite_false, if_true, if_false, Bool.false_eq_true, and_self, and_true, true_and, and_false, false_and]
  | succ cc ih =>
    intro i fuel c hi hf h
    obtain ⟨fuel, rfl⟩ : ∃ x, fuel = x + 1 := ⟨fuel - 1, by omega⟩
    have hcd := RepM_A hM 15 (100 * k + i) (by omega) (by omega)
    have hcb := RepM_b hM 15 (100 * k + i)
    have hhi := (hRS.1 i (by omega)).1
    have hcdA : cdA im k i = im 15 (100 * k + i) := by unfold cdA; rw [if_pos (by omega)]
    have skip : (R i = none ∨ im 15 (100 * k + i) ≠ 33) → CB im k (fun p => p < i + 1 ∧ R p ≠ none) c := by
      intro hs
      refine ⟨h.1, fun j hj => ?_⟩
      rw [h.2 j hj]
      constructor
      · rintro ⟨p, ⟨a1, a2⟩, b⟩
        exact ⟨p, ⟨by omega, a2⟩, b⟩
      · rintro ⟨p, ⟨a1, a2⟩, b1, b2⟩
        by_cases e : p = i
        · rw [e] at a2 b1
          rcases hs with hs | hs
          · exact absurd hs a2
          · rw [hcdA] at b1
            exact absurd b1 hs
        · exact ⟨p, ⟨by omega, a2⟩, b1, b2⟩
    cases hR : R i with
    | none =>
      obtain ⟨d, hF, hd⟩ := ih (i + 1) fuel c (by omega) (by omega) (skip (Or.inl hR))
      refine ⟨d, ?_, hd⟩
      rw [hR] at hhi
      have hhi' : σ.2.2.2.1 17 (100 * k + i) = -Int32.ofNat 1 := hhi
      have hneg : -Int32.ofNat 1 < Int32.ofNat 0 := by decide
      cases hz : zb (σ.2.2.2.1 16 (100 * k + i)) <;> simp (disch := omega) only [F_Mo_direct_4, F_Mo_direct_76, lit32, n_nl0, n_cl, false_or, if_neg, if_pos, cm_18, cm_20, cm_21, hl, n_le, n_mul, n_add, hz, hhi', hneg, hF, ite_true, ite_false, if_true, if_false, Bool.false_eq_true, and_self, and_true, true_and, and_false, false_and]
    | some l =>
      have hl8 := (hRS.2.1 i l hR).1
      rw [hR] at hhi
      have hhi' : σ.2.2.2.1 17 (100 * k + i) = Int32.ofNat l.length := hhi
      have hz : zb (σ.2.2.2.1 16 (100 * k + i)) = true := (hbg i (by omega)).mpr (Clo_Beg hC hmin i l hR)
      by_cases c33 : im 15 (100 * k + i) = 33
      · have hnm := call_nm hC hR (by rw [hcdA]; exact c33)
        -- the operand lies in the code
        have hi1 : i + 1 < im 14 k := by
          obtain ⟨K, hK, -⟩ := hsp
          obtain ⟨-, q, hq⟩ := Clo_Beg hC hmin i l hR
          have hqK : q < K := by
            refine Nat.lt_of_not_le (fun z => ?_)
            rcases Nat.lt_or_ge K q with y | y
            · have := pos_mono im k y; omega
            · have : q = K := by omega
              rw [this] at hq
              omega
          have h2 : pos im k (q + 1) = pos im k q + wdt (im 15 (100 * k + pos im k q)) := rfl
          rw [hq, c33] at h2
          have h3 : pos im k (q + 1) ≤ pos im k K := by
            rcases Nat.lt_or_ge (q + 1) K with y | y
            · exact Nat.le_of_lt (pos_mono im k y)
            · have : q + 1 = K := by omega
              rw [this]
              exact Nat.le_refl _
          have h4 : wdt 33 = 2 := by decide
          omega
        have hcd1 : cdA im k (i + 1) = im 15 (100 * k + i + 1) := by unfold cdA; rw [if_pos hi1, Nat.add_assoc]
        have hop := RepM_A hM 15 (100 * k + i + 1) (by omega) (by omega)
        rw [hcd1] at hnm
        have hcl := clM_ok (p := i) h wc.2.2
        have hclE : clM im k i (Int32.ofNat c) = Int32.ofNat c ||| (Int32.ofNat 1 <<< (Int32.ofNat (im 15 (100 * k + i + 1)) &&& Int32.ofNat 31)) := by
          unfold clM
          rw [hcdA, hcd1, if_pos ⟨c33, hnm⟩]
        rw [hclE] at hcl
        obtain ⟨c', e', hc'⟩ := hcl
        obtain ⟨d, hF, hd⟩ := ih (i + 1) fuel c' (by omega) (by omega) (CB_iff hc' (fun p => by
          constructor
          · rintro (⟨a, b⟩ | a)
            · exact ⟨by omega, b⟩
            · rw [a, hR]; exact ⟨by omega, by simp⟩
          · rintro ⟨a, b⟩
            by_cases e : p = i
            · exact Or.inr e
            · exact Or.inl ⟨by omega, b⟩))
        refine ⟨d, ?_, hd⟩
        rw [c33] at hcd
        simp (disch := omega) only [F_Mo_direct_4, F_Mo_direct_76, lit32, n_nl0, n_cl, false_or, if_neg, if_pos, cm_18, cm_19, cm_20, cm_21, hl, n_le, n_mul, n_add, hz, hhi', hcd, hop, e', hF, ite_true, ite_false, if_true, if_false, Bool.false_eq_true, and_self, and_true, true_and, and_false, false_and]
      · obtain ⟨d, hF, hd⟩ := ih (i + 1) fuel c (by omega) (by omega) (skip (Or.inr c33))
        refine ⟨d, ?_, hd⟩
        simp (disch := omega) only [F_Mo_direct_4, F_Mo_direct_76, lit32, n_nl0, n_cl, false_or, if_neg, if_pos, cm_18, cm_19, cm_20, cm_21, hl, n_le, n_mul, n_add, n_eq, hz, hhi', hcd, hF, ite_true, ite_false, if_true, if_false, Bool.false_eq_true, and_self, and_true, true_and, and_false, false_and]
/-- the class's rounds -/
theorem cv_17 {im : Im} {IA m r K : Nat} {σc σm : SG} {rec6 : Nat → Int32 → Int32 → SG → Option (Bool × SG)} (h : ImC σc IA im) (hV : ∀ k, k < im 0 1 → VerI im k IA σc σm) (hr : r < 100)
    (hrec : ∀ c, Rd (im 0 1) (VOK im) (Gc im) m (r + 1) c → ∃ b, rec6 IA (Int32.ofNat c) (Int32.ofNat (r + 1)) σc = some (b, σc) ∧ (b = true ↔ Cal (im 0 1) (VOK im) (Gc im) m)) (hR : Rd (im 0 1) (VOK im) (Gc im) m r K) : ∀ cc i fuel c, i + cc = im 0 1 → cc < fuel → Ps (im 0 1) (VOK im) (Gc im) i K c → (∀ S : Nat → Prop, S m → ClS (im 0 1) (VOK im) (Gc im) S → ∀ k, Nat.testBit c k = true → S k) →
    ∃ b, F_Im_callsVerifiedAlone_17 rec6 fuel IA (Int32.ofNat c) (Int32.ofNat r) (Int32.ofNat i) σc = some (b, σc) ∧ (b = true ↔ Cal (im 0 1) (VOK im) (Gc im) m) := by
  obtain ⟨hn, hn1, hn6⟩ := IC_nm h
  have hI := h.2.1
  intro cc
  induction cc with
  | zero =>
    intro i fuel c hi hf hP hS
    obtain ⟨fuel, rfl⟩ : ∃ x, fuel = x + 1 := ⟨fuel - 1, by omega⟩
    have e : i = im 0 1 := by omega
    rw [e] at hP
    obtain ⟨b, hF, hb⟩ := hrec c (Rd_next hR hP hS)
    refine ⟨b, ?_, hb⟩
    simp (disch := omega) only [F_Im_callsVerifiedAlone_17, hn, n_le, if_pos, lit32, n_add, hF, ite_true, ite_false, if_true, if_false, Bool.false_eq_true, and_self, and_true, true_and, and_false, false_and]
  | succ cc ih =>
    intro i fuel c hi hf hP hS
    obtain ⟨fuel, rfl⟩ : ∃ x, fuel = x + 1 := ⟨fuel - 1, by omega⟩
    have hkb := k_bit6 (a := c) (r := i) hP.1 (by omega)
    cases hb : Nat.testBit c i with
    | false =>
      rw [hb] at hkb
      simp only [Bool.false_eq_true, if_false] at hkb
      obtain ⟨b, hF, hb2⟩ := ih (i + 1) fuel c (by omega) (by omega) (Ps_skip hP hb) hS
      refine ⟨b, ?_, hb2⟩
      simp (disch := omega) only [F_Im_callsVerifiedAlone_17, F_Im_callsVerifiedAlone_64, hn, n_le, if_neg, lit32, hkb, n_eq, n_add, hF, ite_true, ite_false, if_true, if_false, Bool.false_eq_true, and_self, and_true, true_and, and_false, false_and]
    | true =>
      rw [hb] at hkb
      simp only [if_true] at hkb
      obtain ⟨bv, R, v1, v2, v3, v4⟩ := hV i (by omega)
      cases bv with
      | false =>
        refine ⟨false, ?_, (fun e => nomatch e), ?_⟩
        · simp (disch := omega) only [F_Im_callsVerifiedAlone_17, hn, n_le, if_neg, if_pos, lit32, hkb, n_nl0, n_cl, false_or, cI4 hI, cIm hI, v1, ite_true, ite_false, if_true, if_false, Bool.false_eq_true, and_self, and_true, true_and, and_false, false_and]
        · rintro ⟨S, hS1, hS2⟩
          exact v3.mpr (hS2 i (hS S hS1 hS2 i hb)).2.1
      | true =>
        obtain ⟨r1, r2, r3⟩ := v4 rfl
        obtain ⟨k1, k2, k3, k4, k5, d, k6, k7⟩ := r1
        have hall := CB_all k1 k2 k7 hn6
        obtain ⟨b, hF, hb2⟩ := ih (i + 1) fuel (c ||| d) (by omega) (by omega) (Ps_add hP (v3.mp rfl) k7.1 hall) (fun S hS1 hS2 k hk => by
          rw [Nat.testBit_or, Bool.or_eq_true] at hk
          rcases hk with hk | hk
          · exact hS S hS1 hS2 k hk
          · have hh := (hall k).mp hk
            exact (hS2 i (hS S hS1 hS2 i hb)).2.2 k hh.1 hh.2)
        refine ⟨b, ?_, hb2⟩
        simp (disch := omega) only [F_Im_callsVerifiedAlone_17, F_Im_callsVerifiedAlone_64, hn, n_le, if_neg, if_pos, lit32, hkb, n_nl0, n_cl, false_or, cI4 hI, cIm hI, v1, k6, i_or, n_add, hF, ite_true, ite_false, if_true, if_false, Bool.false_eq_true, and_self, and_true, true_and, and_false, false_and]
theorem cv_6 {im : Im} {IA m : Nat} {σc σm : SG} (h : ImC σc IA im) (hV : ∀ k, k < im 0 1 → VerI im k IA σc σm) : ∀ cc r fuel c, r + cc = im 0 1 → cc < fuel → Rd (im 0 1) (VOK im) (Gc im) m r c →
    ∃ b, F_Im_callsVerifiedAlone_6 fuel IA (Int32.ofNat c) (Int32.ofNat r) σc = some (b, σc) ∧ (b = true ↔ Cal (im 0 1) (VOK im) (Gc im) m) := by
  obtain ⟨hn, hn1, hn6⟩ := IC_nm h
  intro cc
  induction cc with
  | zero =>
    intro r fuel c hr hf hR
    obtain ⟨fuel, rfl⟩ : ∃ x, fuel = x + 1 := ⟨fuel - 1, by omega⟩
    refine ⟨true, ?_, fun _ => Rd_end hR (Or.inr (by omega)) hn6, fun _ => rfl⟩
    simp (disch := omega) only [F_Im_callsVerifiedAlone_6, hn, n_le, if_pos, ite_true, ite_false, if_true, if_false, Bool.false_eq_true, and_self, and_true, true_and, and_false, false_and]
  | succ cc ih =>
    intro r fuel c hr hf hR
    obtain ⟨fuel, rfl⟩ : ∃ x, fuel = x + 1 := ⟨fuel - 1, by omega⟩
    obtain ⟨b, hF, hb⟩ := cv_17 (rec6 := F_Im_callsVerifiedAlone_6 fuel) (r := r) (K := c) h hV (by omega) (fun c' hc' => ih (r + 1) fuel c' (by omega) (by omega) hc') hR (im 0 1) 0 5000 c (by omega) (by omega) (Ps_0 hR.1 hR.2.1) hR.2.2.2.1
    refine ⟨b, ?_, hb⟩
    simp (disch := omega) only [F_Im_callsVerifiedAlone_6, hn, n_le, if_neg, lit32, hF, ite_true, ite_false, if_true, if_false, Bool.false_eq_true, and_self, and_true, true_and, and_false, false_and]
theorem c_callsV {im : Im} {IA m : Nat} {σc σm : SG} (h : ImC σc IA im) (hV : ∀ k, k < im 0 1 → VerI im k IA σc σm) (hm : m < im 0 1) : ∃ b, F_Im_callsVerifiedAlone IA (Int32.ofNat m) σc = some (b, σc) ∧ (b = true ↔ Cal (im 0 1) (VOK im) (Gc im) m) := by
  obtain ⟨hn, hn1, hn6⟩ := IC_nm h
  obtain ⟨b, hF, hb⟩ := cv_6 (m := m) h hV (im 0 1) 0 5000 (2 ^ m) (by omega) (by omega) (Rd_0 hm hn6)
  refine ⟨b, ?_, hb⟩
  simp (disch := omega) only [F_Im_callsVerifiedAlone, lit32, shl6, hF, ite_true, ite_false, if_true, if_false, Bool.false_eq_true, and_self, and_true, true_and, and_false, false_and]
/-- the reference's rounds -/
theorem mv_33 {im : Im} {IA m r K : Nat} {σc σm : SG} {rec19 : Nat → Int32 → Bool → Int32 → SG → Option (Bool × SG)} (hw : WfI im) (hM : RepM σm im) (hV : ∀ k, k < im 0 1 → VerI im k IA σc σm) (hr : r < 100)
    (hrec : ∀ c, Rd (im 0 1) (VOK im) (Gc im) m (r + 1) c → ∃ b, rec19 0 (Int32.ofNat c) true (Int32.ofNat (r + 1)) σm = some (b, σm) ∧ (b = true ↔ Cal (im 0 1) (VOK im) (Gc im) m)) (hrecf : ∀ x, rec19 0 x false (Int32.ofNat (r + 1)) σm = some (false, σm)) (hR : Rd (im 0 1) (VOK im) (Gc im) m r K) : ∀ cc i fuel c, i + cc = im 0 1 → cc < fuel → Ps (im 0 1) (VOK im) (Gc im) i K c → (∀ S : Nat → Prop, S m → ClS (im 0 1) (VOK im) (Gc im) S → ∀ k, Nat.testBit c k = true → S k) →
    ∃ b, F_Mo_allGood_33 rec19 fuel 0 (Int32.ofNat c) true (Int32.ofNat r) (Int32.ofNat i) σm = some (b, σm) ∧ (b = true ↔ Cal (im 0 1) (VOK im) (Gc im) m) := by
  have wc := wf_c hw
  have hn := hM.2.2.1
  intro cc
  induction cc with
  | zero =>
    intro i fuel c hi hf hP hS
    obtain ⟨fuel, rfl⟩ : ∃ x, fuel = x + 1 := ⟨fuel - 1, by omega⟩
    have e : i = im 0 1 := by omega
    rw [e] at hP
    obtain ⟨b, hF, hb⟩ := hrec c (Rd_next hR hP hS)
    refine ⟨b, ?_, hb⟩
    simp (disch := omega) only [F_Mo_allGood_33, F_Mo_allGood_89, hn, n_le, if_pos, lit32, n_add, hF, ite_true, ite_false, if_true, if_false, Bool.false_eq_true, and_self, and_true, true_and, and_false, false_and]
  | succ cc ih =>
    intro i fuel c hi hf hP hS
    obtain ⟨fuel, rfl⟩ : ∃ x, fuel = x + 1 := ⟨fuel - 1, by omega⟩
    have hkb := k_bit6 (a := c) (r := i) hP.1 (by omega)
    cases hb : Nat.testBit c i with
    | false =>
      rw [hb] at hkb
      simp only [Bool.false_eq_true, if_false] at hkb
      obtain ⟨b, hF, hb2⟩ := ih (i + 1) fuel c (by omega) (by omega) (Ps_skip hP hb) hS
      refine ⟨b, ?_, hb2⟩
      simp (disch := omega) only [F_Mo_allGood_33, F_Mo_allGood_83, hn, n_le, if_neg, if_pos, lit32, hkb, n_add, hF, ite_true, ite_false, if_true, if_false, Bool.false_eq_true, and_self, and_true, true_and, and_false, false_and]
    | true =>
      rw [hb] at hkb
      simp only [if_true] at hkb
      obtain ⟨bv, R, v1, v2, v3, v4⟩ := hV i (by omega)
      cases bv with
      | false =>
        refine ⟨false, ?_, (fun e => nomatch e), ?_⟩
        · have hnx : ∀ x (fuel : Nat), F_Mo_allGood_33 rec19 (fuel + 1) 0 x false (Int32.ofNat r) (Int32.ofNat (i + 1)) σm = some (false, σm) := by
            intro x fuel
            by_cases ce : im 0 1 ≤ i + 1
            · simp (disch := omega) only [F_Mo_allGood_33, F_Mo_allGood_89, hn, n_le, if_pos, lit32, n_add, hrecf, ite_true, ite_false, if_true, if_false, Bool.false_eq_true, and_self, and_true, true_and, and_false, false_and]
            · simp (disch := omega) only [F_Mo_allGood_33, F_Mo_allGood_89, hn, n_le, if_neg, lit32, n_add, hrecf, ite_true, ite_false, if_true, if_false, Bool.false_eq_true, and_self, and_true, true_and, and_false, false_and]
          obtain ⟨fuel, rfl⟩ : ∃ x, fuel = x + 1 := ⟨fuel - 1, by omega⟩
          have hg : ∀ y, F_Mo_allGood_81 rec19 (F_Mo_allGood_33 rec19 (fuel + 1)) 0 false (Int32.ofNat r) (Int32.ofNat i) (Int32.ofNat c) y σm = some (false, σm) := by
            intro y
            have := hnx (Int32.ofNat c ||| y) fuel
            generalize F_Mo_allGood_33 rec19 (fuel + 1) = ff at this
            simp (disch := omega) only [F_Mo_allGood_81, F_Mo_allGood_83, lit32, n_add, this, ite_true, ite_false, if_true, if_false, Bool.false_eq_true, and_self, and_true, true_and, and_false, false_and]
          have hone : ¬ (Int32.ofNat 1 = Int32.ofNat 0) := by decide
          generalize hff : F_Mo_allGood_33 rec19 (fuel + 1) = ff at hg
          rw [F_Mo_allGood_33, hff]
          simp (disch := omega) only [hn, n_le, if_neg, if_pos, lit32, hkb, hone, n_nl0, n_cl, false_or, cm_23, v2, hg, ite_true, ite_false, if_true, if_false, Bool.false_eq_true, and_self, and_true, true_and, and_false, false_and]
        · rintro ⟨S, hS1, hS2⟩
          exact v3.mpr (hS2 i (hS S hS1 hS2 i hb)).2.1
      | true =>
        obtain ⟨r1, r2, r3⟩ := v4 rfl
        obtain ⟨k1, k2, k3, k4, k5, d0, k6, k7⟩ := r1
        have hvok := v3.mp rfl
        obtain ⟨d, hd, hdB⟩ := m_direct_l hw (show i < im 0 1 by omega) hM r2 k1 k2 r3 hvok.1 (im 14 i) 0 5000 0 (by omega) (by have := (wf_m hw (show i < im 0 1 by omega)).2.2.2.2.2.2.2.2.2.1; omega) ⟨by omega, fun j hj => by
          rw [Nat.zero_testBit]
          refine ⟨(fun e => nomatch e), ?_⟩
          rintro ⟨p, ⟨a, -⟩, -⟩
          omega⟩
        have hdF : F_Mo_direct 0 (Int32.ofNat i) σm = some (Int32.ofNat d, σm) := by
          simp (disch := omega) only [F_Mo_direct, lit32, hd, ite_true, ite_false, if_true, if_false, Bool.false_eq_true, and_self, and_true, true_and, and_false, false_and]
        have hall := CB_all k1 k2 hdB wc.2.2
        obtain ⟨b, hF, hb2⟩ := ih (i + 1) fuel (c ||| d) (by omega) (by omega) (Ps_add hP hvok hdB.1 hall) (fun S hS1 hS2 k hk => by
          rw [Nat.testBit_or, Bool.or_eq_true] at hk
          rcases hk with hk | hk
          · exact hS S hS1 hS2 k hk
          · have hh := (hall k).mp hk
            exact (hS2 i (hS S hS1 hS2 i hb)).2.2 k hh.1 hh.2)
        refine ⟨b, ?_, hb2⟩
        have hone : ¬ (Int32.ofNat 1 = Int32.ofNat 0) := by decide
        simp (disch := omega) only [F_Mo_allGood_33, F_Mo_allGood_81, F_Mo_allGood_83, hn, n_le, if_neg, if_pos, lit32, hkb, hone, n_nl0, n_cl, false_or, cm_23, v2, hdF, i_or, n_add, hF, ite_true, ite_false, if_true, if_false, Bool.false_eq_true, and_self, and_true, true_and, and_false, false_and]
theorem mv_19 {im : Im} {IA m : Nat} {σc σm : SG} (hw : WfI im) (hM : RepM σm im) (hV : ∀ k, k < im 0 1 → VerI im k IA σc σm) : ∀ cc r fuel c, r + cc = 6 → cc < fuel → Rd (im 0 1) (VOK im) (Gc im) m r c →
    ∃ b, F_Mo_allGood_19 fuel 0 (Int32.ofNat c) true (Int32.ofNat r) σm = some (b, σm) ∧ (b = true ↔ Cal (im 0 1) (VOK im) (Gc im) m) := by
  have wc := wf_c hw
  intro cc
  induction cc with
  | zero =>
    intro r fuel c hr hf hR
    obtain ⟨fuel, rfl⟩ : ∃ x, fuel = x + 1 := ⟨fuel - 1, by omega⟩
    refine ⟨true, ?_, fun _ => Rd_end hR (Or.inl (by omega)) wc.2.2, fun _ => rfl⟩
    simp (disch := omega) only [F_Mo_allGood_19, F_Mo_allGood_95, lit32, n_le, if_pos, ite_true, ite_false, if_true, if_false, Bool.false_eq_true, and_self, and_true, true_and, and_false, false_and]
  | succ cc ih =>
    intro r fuel c hr hf hR
    obtain ⟨fuel, rfl⟩ : ∃ x, fuel = x + 1 := ⟨fuel - 1, by omega⟩
    obtain ⟨b, hF, hb⟩ := mv_33 (rec19 := F_Mo_allGood_19 fuel) (r := r) (K := c) hw hM hV (by omega) (fun c' hc' => ih (r + 1) fuel c' (by omega) (by omega) hc') (fun x => by
      obtain ⟨fuel, rfl⟩ : ∃ x, fuel = x + 1 := ⟨fuel - 1, by omega⟩
      by_cases c6 : 6 ≤ r + 1
      · simp (disch := omega) only [F_Mo_allGood_19, F_Mo_allGood_95, lit32, n_le, if_pos, ite_true, ite_false, if_true, if_false, Bool.false_eq_true, and_self, and_true, true_and, and_false, false_and]
      · simp (disch := omega) only [F_Mo_allGood_19, F_Mo_allGood_95, lit32, n_le, if_neg, ite_true, ite_false, if_true, if_false, Bool.false_eq_true, and_self, and_true, true_and, and_false, false_and]) hR (im 0 1) 0 5000 c (by omega) (by omega) (Ps_0 hR.1 hR.2.1) hR.2.2.2.1
    refine ⟨b, ?_, hb⟩
    simp (disch := omega) only [F_Mo_allGood_19, lit32, n_le, if_neg, if_pos, hF, ite_true, ite_false, if_true, if_false, Bool.false_eq_true, and_self, and_true, true_and, and_false, false_and]
