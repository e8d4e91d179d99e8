/-! The reference's verify, as a whole. -/
def cnt (D : Nat → Bool) : Nat → Nat
  | 0 => 0
  | n + 1 => cnt D n + (if D n = true then 0 else 1)
theorem cnt_le (D : Nat → Bool) : ∀ n, cnt D n ≤ n
  | 0 => Nat.le_refl _
  | n + 1 => by
    have := cnt_le D n
    show cnt D n + (if D n = true then 0 else 1) ≤ n + 1
    split <;> omega
theorem cnt_same {D : Nat → Bool} {i : Nat} : ∀ n, n ≤ i → cnt (fun p => if p = i then true else D p) n = cnt D n
  | 0, _ => rfl
  | n + 1, h => by
    have := cnt_same (D := D) (i := i) n (by omega)
    show cnt _ n + _ = cnt D n + _
    rw [this]
    simp only [show ¬ (n = i) by omega, if_false]
theorem cnt_set {D : Nat → Bool} {i : Nat} (hD : D i = false) : ∀ n, i < n → cnt (fun p => if p = i then true else D p) n + 1 = cnt D n
  | 0, h => by omega
  | n + 1, h => by
    show (cnt _ n + (if (if n = i then true else D n) = true then 0 else 1)) + 1 = cnt D n + (if D n = true then 0 else 1)
    by_cases c : n = i
    · rw [cnt_same n (by omega), c, hD]
      simp
    · have := cnt_set hD n (by omega)
      simp only [c, if_false]
      omega
def VM (im : Im) (m : Nat) (σ : SG) (R : RQ) (D : Nat → Bool) : Prop := BM im m σ ∧ RS im m σ R ∧ zb (σ.1 0 27) = true ∧ (∀ p, p < 100 → zb (σ.2.2.2.1 32 p) = D p) ∧ (∀ p l, D p = true → R p = some l → OKat im m R p l) ∧ Rch im m R 0 (some []) ∧ (∀ Q, Clo im m Q → LeQ R Q) ∧ (∀ p l, R p = some l → Beg im m p) ∧ (∀ p, D p = true → R p ≠ none)
def VB (im : Im) (m : Nat) (σ : SG) : Prop := BM im m σ ∧ zb (σ.1 0 27) = false ∧ ∀ Q, ¬ Clo im m Q
def VF (im : Im) (m : Nat) (σ : SG) : Prop := BM im m σ ∧ ∃ b : Bool, zb (σ.2.2.2.1 19 m) = b ∧ (b = true ↔ ∃ Q, Clo im m Q) ∧ (b = true → ∃ R, RS im m σ R ∧ Clo im m R ∧ ∀ Q, Clo im m Q → LeQ R Q)
theorem min_Beg {im : Im} {m p : Nat} {R R1 : RQ} {l : List Nat} (hB : ∀ p l, R p = some l → Beg im m p) (hle : LeQ R R1) (hok : OKat im m R1 p l) (hmin : ∀ Q, LeQ R Q → OKat im m Q p l → LeQ R1 Q) : ∀ p l, R1 p = some l → Beg im m p := by
  have key : ∀ z o, Rch im m R1 z o → Rch im m (fun p => match Classical.propDecidable (Beg im m p) with | isTrue _ => R1 p | isFalse _ => none) z o := by
    rintro z o ⟨q, e, hb, hn, hq⟩
    refine ⟨q, e, hb, hn, ?_⟩
    show (match Classical.propDecidable (Beg im m q) with | isTrue _ => R1 q | isFalse _ => none) = o
    cases hd : Classical.propDecidable (Beg im m q) with
    | isTrue _ => exact hq
    | isFalse c => exact absurd hb c
  have h1 := hmin (fun p => match Classical.propDecidable (Beg im m p) with | isTrue _ => R1 p | isFalse _ => none) (fun q l' hq => by
    show (match Classical.propDecidable (Beg im m q) with | isTrue _ => R1 q | isFalse _ => none) = some l'
    cases hd : Classical.propDecidable (Beg im m q) with
    | isTrue _ => exact hle q l' hq
    | isFalse c => exact absurd (hB q l' hq) c) (by
    obtain ⟨w1, w2, w3, w4, w5, w6⟩ := hok
    exact ⟨w1, w2, fun r a b => key _ _ (w3 r a b), fun a => ⟨(w4 a).1, key _ _ (w4 a).2⟩, fun a => ⟨(w5 a).1, key _ _ (w5 a).2⟩, fun a b => ⟨(w6 a b).1, key _ _ (w6 a b).2⟩⟩)
  intro q l' hq
  have h2 := h1 q l' hq
  cases hd : Classical.propDecidable (Beg im m q) with
  | isTrue hb => exact hb
  | isFalse _ =>
    have h3 : (match Classical.propDecidable (Beg im m q) with | isTrue _ => R1 q | isFalse _ => none) = some l' := h2
    rw [hd] at h3
    cases h3
theorem v_149 {im : Im} {m : Nat} {σ : SG} (hm6 : m < 6) : F_Mo_verify_149 0 (Int32.ofNat m) σ = some (setA σ 19 m (bz (zb (σ.1 0 27)))) := by
  simp (disch := omega) only [F_Mo_verify_149, lit32, n_nl0, n_cl, false_or, if_neg, cm_23, stl_e, ite_true, ite_false, if_true, if_false, Bool.false_eq_true, and_self, and_true, true_and, and_false, false_and]
theorem fv_19 {m : Nat} {σ : SG} {v : Int32} : FvM m σ (setA σ 19 m v) := ⟨fun _ _ _ => rfl, fun _ _ _ => rfl, rfl, fun a f _ h _ => by rw [rA, if_neg h], fun _ _ _ => rfl⟩
theorem fv_32 {m i : Nat} {σ : SG} {v : Int32} : FvM m σ (setA σ 32 i v) := ⟨fun _ _ _ => rfl, fun _ _ _ => rfl, rfl, fun a f _ _ h => by rw [rA, if_neg (fun z => h z.1)], fun _ _ _ => rfl⟩
theorem BM_19 {im : Im} {m i a : Nat} {σ : SG} {v : Int32} (h : BM im m σ) (ha : a = 19 ∨ a = 32) : BM im m (setA σ a i v) := by
  obtain ⟨⟨h0, h1, h2, h3⟩, h4, h5⟩ := h
  refine ⟨⟨h0, h1, h2, fun x k p q => ?_⟩, h4, fun p hp => ?_⟩
  · rw [rA, if_neg (by omega)]; exact h3 x k p q
  · rw [rA, if_neg (by omega)]; exact h5 p hp
theorem RS_19 {im : Im} {m i a : Nat} {σ : SG} {R : RQ} {v : Int32} (h : RS im m σ R) (ha : a = 19 ∨ a = 32) : RS im m (setA σ a i v) R := by
  refine ⟨fun p hp => ?_, h.2⟩
  rw [rA, if_neg (by omega)]
  exact h.1 p hp
/-- a contract for what follows a pass -/
def GoesV (im : Im) (m u : Nat) (rec68 : Nat → Int32 → Bool → SG → Option SG) : Prop :=
  (∀ σ R D, VM im m σ R D → cnt D (im 14 m) < u → ∃ σ1, rec68 0 (Int32.ofNat m) true σ = some σ1 ∧ FvM m σ σ1 ∧ VF im m σ1) ∧
  (∀ σ R D, VM im m σ R D → (∀ p, R p ≠ none → D p = true) → ∃ σ1, rec68 0 (Int32.ofNat m) false σ = some σ1 ∧ FvM m σ σ1 ∧ VF im m σ1) ∧
  (∀ σ x, VB im m σ → ∃ σ1, rec68 0 (Int32.ofNat m) x σ = some σ1 ∧ FvM m σ σ1 ∧ VF im m σ1)
theorem v_bad {im : Im} {m fuel : Nat} {σ : SG} {x : Bool} (hm6 : m < 6) (h : VB im m σ) : ∃ σ1, F_Mo_verify_68 (fuel + 1) 0 (Int32.ofNat m) x σ = some σ1 ∧ FvM m σ σ1 ∧ VF im m σ1 := by
  obtain ⟨hB, hz, hn⟩ := h
  refine ⟨setA σ 19 m (bz false), ?_, fv_19, BM_19 hB (Or.inl rfl), false, ?_, ⟨(fun e => nomatch e), fun ⟨Q, hQ⟩ => absurd hQ (hn Q)⟩, (fun e => nomatch e)⟩
  · have h9 := v_149 (im := im) (σ := σ) hm6
    rw [hz] at h9
    cases x <;> simp (disch := omega) only [F_Mo_verify_68, if_pos, if_neg, hz, h9, ite_true, ite_false, if_true, if_false, Bool.false_eq_true, and_self, and_true, true_and, and_false, false_and]
  · rw [rA, if_pos ⟨rfl, rfl⟩, zbz]
theorem v_83 {im : Im} {m u : Nat} {rec68 : Nat → Int32 → Bool → SG → Option SG} (hw : WfI im) (hm : m < im 0 1) (hsp : SpOK im m) (hW : WM im m) (hrec : GoesV im m u rec68) : ∀ c i fuel σ R D (x2 : Bool), i + c = im 14 m → c < fuel → (VM im m σ R D ∧ (x2 = true → cnt D (im 14 m) < u) ∧ (x2 = false → cnt D (im 14 m) ≤ u ∧ ∀ p, p < i → R p ≠ none → D p = true)) →
    ∃ σ1, F_Mo_verify_83 rec68 fuel 0 (Int32.ofNat m) x2 (Int32.ofNat i) σ = some σ1 ∧ FvM m σ σ1 ∧ VF im m σ1 := by
  obtain ⟨w1, w2, w3, w4, w5, w6, w7, w8, w9, w10, w11⟩ := wf_m hw hm
  intro c
  induction c with
  | zero =>
    intro i fuel σ R D x2 hi hf hV
    obtain ⟨fuel, rfl⟩ : ∃ x, fuel = x + 1 := ⟨fuel - 1, by omega⟩
    obtain ⟨hV, ht, hfl⟩ := hV
    have hl := RepM_A hV.1.1 14 m (by omega) (by omega)
    have hgo : ∃ σ1, rec68 0 (Int32.ofNat m) x2 σ = some σ1 ∧ FvM m σ σ1 ∧ VF im m σ1 := by
      cases x2 with
      | true => exact hrec.1 σ R D hV (ht rfl)
      | false => exact hrec.2.1 σ R D hV (fun p hp => (hfl rfl).2 p (by have := hV.2.1.2.2 p hp; omega) hp)
    obtain ⟨σ1, g1, g2⟩ := hgo
    refine ⟨σ1, ?_, g2⟩
    simp (disch := omega) only [F_Mo_verify_83, F_Mo_verify_146, lit32, n_nl0, n_cl, false_or, if_neg, cm_18, hl, n_le, if_pos, g1, ite_true, ite_false, if_true, if_false, Bool.false_eq_true, and_self, and_true, true_and, and_false, false_and]
  | succ c ih =>
    intro i fuel σ R D x2 hi hf hV
    obtain ⟨fuel, rfl⟩ : ∃ x, fuel = x + 1 := ⟨fuel - 1, by omega⟩
    obtain ⟨hV, ht, hfl⟩ := hV
    have hl := RepM_A hV.1.1 14 m (by omega) (by omega)
    obtain ⟨hB, hR, hz, hD, hpro, hroot, hle, hbg, hdn⟩ := id hV
    have hhi := (hR.1 i (by omega)).1
    have hdi := hD i (by omega)
    cases hRi : R i with
    | none =>
      rw [hRi] at hhi
      have hhi' : σ.2.2.2.1 17 (100 * m + i) = -Int32.ofNat 1 := hhi
      have hneg : -Int32.ofNat 1 < Int32.ofNat 0 := by decide
      obtain ⟨σ1, g1, g2⟩ := ih (i + 1) fuel σ R D x2 (by omega) (by omega) ⟨hV, ht, fun e => ⟨(hfl e).1, fun p hp hn => by
        by_cases ep : p = i
        · rw [ep] at hn
          exact absurd hRi hn
        · exact (hfl e).2 p (by omega) hn⟩⟩
      refine ⟨σ1, ?_, g2⟩
      simp (disch := omega) only [F_Mo_verify_83, F_Mo_verify_140, lit32, n_nl0, n_cl, false_or, if_neg, cm_18, cm_21, hl, n_le, if_pos, hz, n_mul, n_add, hhi', hneg, g1, ite_true, ite_false, if_true, if_false, Bool.false_eq_true, and_self, and_true, true_and, and_false, false_and]
    | some l =>
      rw [hRi] at hhi
      have hhi' : σ.2.2.2.1 17 (100 * m + i) = Int32.ofNat l.length := hhi
      have hg8 := (hR.2.1 i l hRi).1
      cases hDi : D i with
      | true =>
        rw [hDi] at hdi
        obtain ⟨σ1, g1, g2⟩ := ih (i + 1) fuel σ R D x2 (by omega) (by omega) ⟨hV, ht, fun e => ⟨(hfl e).1, fun p hp hn => by
          by_cases ep : p = i
          · rw [ep]; exact hDi
          · exact (hfl e).2 p (by omega) hn⟩⟩
        refine ⟨σ1, ?_, g2⟩
        simp (disch := omega) only [F_Mo_verify_83, F_Mo_verify_140, lit32, n_nl0, n_cl, false_or, if_neg, cm_18, cm_21, cm_45, hl, n_le, if_pos, hz, n_mul, n_add, hhi', hdi, g1, ite_true, ite_false, if_true, if_false, Bool.false_eq_true, and_self, and_true, true_and, and_false, false_and]
      | false =>
        rw [hDi] at hdi
        have hB1 := BM_19 (v := Int32.ofNat 1) (i := i) hB (Or.inr rfl)
        have hR1 := RS_19 (v := Int32.ofNat 1) (i := i) hR (Or.inr rfl)
        obtain ⟨s2, f2, q2, b2, r2⟩ := m_flow hw hm hsp hW hB1 hR1 hz (hbg i l hRi) hRi
        have hlt : cnt (fun p => if p = i then true else D p) (im 14 m) < u := by
          have h1 := cnt_set hDi (im 14 m) (by omega)
          cases x2 with
          | true => have := ht rfl; omega
          | false => have := (hfl rfl).1; omega
        have hfr : FvM m σ s2 := FvM_trans fv_32 (FM_FvM q2)
        have hF : ∀ r, F_Mo_verify_83 rec68 fuel 0 (Int32.ofNat m) true (Int32.ofNat (i + 1)) s2 = r → F_Mo_verify_83 rec68 (fuel + 1) 0 (Int32.ofNat m) x2 (Int32.ofNat i) σ = r := by
          intro r hr
          rw [← hr]
          simp (disch := omega) only [F_Mo_verify_83, F_Mo_verify_140, lit32, n_nl0, n_cl, false_or, if_neg, cm_18, cm_21, cm_45, hl, n_le, if_pos, hz, n_mul, n_add, hhi', hdi, bzt, stl_e, f2, ite_true, ite_false, if_true, if_false, Bool.false_eq_true, and_self, and_true, true_and, and_false, false_and]
        rcases r2 with ⟨z2, R2, k2, k3, k4, k5⟩ | ⟨z2, k2⟩
        · have hV2 : VM im m s2 R2 (fun p => if p = i then true else D p) := by
            refine ⟨b2, k2, z2, fun p hp => ?_, fun p l' hp hp2 => ?_, Rch_mono hroot k3, fun Q hQ => k5 Q (hle Q hQ) (hQ.2 _ _ (hle Q hQ _ _ hRi)), min_Beg hbg k3 k4 k5, fun p hp => ?_⟩
            · rw [q2.2.2.2.1 32 p (by omega), rA]
              by_cases ep : p = i
              · rw [if_pos ⟨rfl, ep⟩]
                simp only [ep, if_true]
                exact zb1
              · rw [if_neg (fun z => ep z.2)]
                simp only [ep, if_false]
                exact hD p hp
            · by_cases ep : p = i
              · rw [ep, k3 _ _ hRi] at hp2
                have e3 := Option.some.inj hp2
                rw [ep, ← e3]
                exact k4
              · simp only [ep, if_false] at hp
                cases hRp : R p with
                | none => exact absurd hRp (hdn p hp)
                | some l0 =>
                  rw [k3 _ _ hRp] at hp2
                  have e3 := Option.some.inj hp2
                  rw [← e3]
                  exact OKat_mono (hpro p l0 hp hRp) k3
            · by_cases ep : p = i
              · rw [ep, k3 _ _ hRi]
                simp
              · simp only [ep, if_false] at hp
                cases hRp : R p with
                | none => exact absurd hRp (hdn p hp)
                | some l0 =>
                  rw [k3 _ _ hRp]
                  simp
          obtain ⟨σ1, g1, g2, g3⟩ := ih (i + 1) fuel s2 R2 _ true (by omega) (by omega) ⟨hV2, fun _ => hlt, fun e => nomatch e⟩
          exact ⟨σ1, hF _ g1, FvM_trans hfr g2, g3⟩
        · have hVB : VB im m s2 := ⟨b2, z2, fun Q hQ => k2 Q (hle Q hQ) (hQ.2 _ _ (hle Q hQ _ _ hRi))⟩
          obtain ⟨σ1, g1, g2, g3⟩ := hrec.2.2 s2 true hVB
          refine ⟨σ1, hF _ ?_, FvM_trans hfr g2, g3⟩
          obtain ⟨fuel, rfl⟩ : ∃ x, fuel = x + 1 := ⟨fuel - 1, by omega⟩
          have hl2 := RepM_A b2.1 14 m (by omega) (by omega)
          by_cases ce : im 14 m ≤ i + 1
          · simp (disch := omega) only [F_Mo_verify_83, F_Mo_verify_146, lit32, n_nl0, n_cl, false_or, if_neg, cm_18, hl2, n_le, if_pos, g1, ite_true, ite_false, if_true, if_false, Bool.false_eq_true, and_self, and_true, true_and, and_false, false_and]
          · simp (disch := omega) only [F_Mo_verify_83, F_Mo_verify_146, lit32, n_nl0, n_cl, false_or, if_neg, cm_18, hl2, n_le, z2, g1, ite_true, ite_false, if_true, if_false, Bool.false_eq_true, and_self, and_true, true_and, and_false, false_and]
theorem v_68 {im : Im} {m : Nat} (hw : WfI im) (hm : m < im 0 1) (hsp : SpOK im m) (hW : WM im m) : ∀ u fuel, u < fuel → GoesV im m u (F_Mo_verify_68 fuel) := by
  obtain ⟨w1, w2, w3, w4, w5, w6, w7, w8, w9, w10, w11⟩ := wf_m hw hm
  have hfin : ∀ (fuel : Nat) σ R D, VM im m σ R D → (∀ p, R p ≠ none → D p = true) → ∃ σ1, F_Mo_verify_68 (fuel + 1) 0 (Int32.ofNat m) false σ = some σ1 ∧ FvM m σ σ1 ∧ VF im m σ1 := by
    intro fuel σ R D hV hall
    obtain ⟨hB, hR, hz, hD, hpro, hroot, hle, hbg, hdn⟩ := hV
    have hCl : Clo im m R := ⟨hroot, fun p l hp => hpro p l (hall p (by rw [hp]; simp)) hp⟩
    have h9 := v_149 (im := im) (σ := σ) w1
    rw [hz] at h9
    refine ⟨setA σ 19 m (bz true), ?_, fv_19, BM_19 hB (Or.inl rfl), true, ?_, ⟨fun _ => ⟨R, hCl⟩, fun _ => rfl⟩, fun _ => ⟨R, RS_19 hR (Or.inl rfl), hCl, hle⟩⟩
    · simp (disch := omega) only [F_Mo_verify_68, if_neg, h9, ite_true, ite_false, if_true, if_false, Bool.false_eq_true, and_self, and_true, true_and, and_false, false_and]
    · rw [rA, if_pos ⟨rfl, rfl⟩, zbz]
  intro u
  induction u with
  | zero =>
    intro fuel hf
    obtain ⟨fuel, rfl⟩ : ∃ x, fuel = x + 1 := ⟨fuel - 1, by omega⟩
    exact ⟨fun σ R D _ hc => by omega, fun σ R D hV hall => hfin fuel σ R D hV hall, fun σ x hV => v_bad w1 hV⟩
  | succ u ih =>
    intro fuel hf
    obtain ⟨fuel, rfl⟩ : ∃ x, fuel = x + 1 := ⟨fuel - 1, by omega⟩
    refine ⟨fun σ R D hV hc => ?_, fun σ R D hV hall => hfin fuel σ R D hV hall, fun σ x hV => v_bad w1 hV⟩
    obtain ⟨σ1, g1, g2⟩ := v_83 hw hm hsp hW (ih fuel (by omega)) (im 14 m) 0 5000 σ R D false (by omega) (by omega) ⟨hV, (fun e => nomatch e), fun _ => ⟨by omega, fun p hp => by omega⟩⟩
    refine ⟨σ1, ?_, g2⟩
    have hz := hV.2.2.1
    simp (disch := omega) only [F_Mo_verify_68, if_pos, hz, lit32, g1, ite_true, ite_false, if_true, if_false, Bool.false_eq_true, and_self, and_true, true_and, and_false, false_and]
theorem v_49 {m : Nat} {x2 : Bool} : ∀ c i fuel σ, i + c = 100 → c < fuel → (∀ p, p < i → zb (σ.2.2.2.1 32 p) = false) → ∃ s, F_Mo_verify_49 fuel 0 (Int32.ofNat m) x2 (Int32.ofNat i) σ = F_Mo_verify_68 5000 0 (Int32.ofNat m) x2 s ∧ s.1 = σ.1 ∧ s.2.1 = σ.2.1 ∧ s.2.2.1 = σ.2.2.1 ∧ s.2.2.2.2 = σ.2.2.2.2 ∧ (∀ a f, a ≠ 32 → s.2.2.2.1 a f = σ.2.2.2.1 a f) ∧ ∀ p, p < 100 → zb (s.2.2.2.1 32 p) = false := by
  intro c
  induction c with
  | zero =>
    intro i fuel σ hi hf hz
    obtain ⟨fuel, rfl⟩ : ∃ x, fuel = x + 1 := ⟨fuel - 1, by omega⟩
    refine ⟨σ, ?_, rfl, rfl, rfl, rfl, fun _ _ _ => rfl, fun p hp => hz p (by omega)⟩
    simp (disch := omega) only [F_Mo_verify_49, lit32, n_le, if_pos, ite_true, ite_false, if_true, if_false, Bool.false_eq_true, and_self, and_true, true_and, and_false, false_and]
  | succ c ih =>
    intro i fuel σ hi hf hz
    obtain ⟨fuel, rfl⟩ : ∃ x, fuel = x + 1 := ⟨fuel - 1, by omega⟩
    obtain ⟨s, g1, g2, g3, g4, g5, g6, g7⟩ := ih (i + 1) fuel (setA σ 32 i (Int32.ofNat 0)) (by omega) (by omega) (fun p hp => by
      rw [rA]
      by_cases e : p = i
      · rw [if_pos ⟨rfl, e⟩]; exact zb0
      · rw [if_neg (fun z => e z.2)]; exact hz p (by omega))
    refine ⟨s, ?_, g2, g3, g4, g5, fun a f ha => ?_, g7⟩
    · rw [← g1]
      simp (disch := omega) only [F_Mo_verify_49, lit32, n_le, if_neg, n_nl0, n_cl, false_or, cm_45, bzf, stl_e, n_add, ite_true, ite_false, if_true, if_false, Bool.false_eq_true, and_self, and_true, true_and, and_false, false_and]
    · rw [g6 a f ha, rA, if_neg (fun z => ha z.1)]
theorem m_verify {im : Im} {m : Nat} {σ : SG} (hw : WfI im) (hm : m < im 0 1) (hR : RepM σ im) : ∃ σ1, F_Mo_verify 0 (Int32.ofNat m) σ = some σ1 ∧ FvM m σ σ1 ∧ RepM σ1 im ∧ ∃ b : Bool, zb (σ1.2.2.2.1 19 m) = b ∧ (b = true ↔ VOK im m) ∧ (b = true → ∃ R, RS im m σ1 R ∧ Clo im m R ∧ (∀ Q, Clo im m Q → LeQ R Q) ∧ ∀ p, p < im 14 m → (zb (σ1.2.2.2.1 16 (100 * m + p)) = true ↔ Beg im m p)) := by
  obtain ⟨w1, w2, w3, w4, w5, w6, w7, w8, w9, w10, w11⟩ := wf_m hw hm
  have hf0 : FvM m σ (setI σ 0 24 (Int32.ofNat m)) := ⟨fun a f h => by rw [rI, if_neg (by omega)], fun _ _ _ => rfl, rfl, fun _ _ _ _ _ => rfl, fun _ _ _ => rfl⟩
  have hB0 : B0 im m (setI σ 0 24 (Int32.ofNat m)) := ⟨RepM_FvM hR hf0, by rw [rI, if_pos ⟨rfl, rfl⟩]⟩
  obtain ⟨b, s1, f1, k1, q1, e1, r1, g1⟩ := m_split hw hm hB0
  have hq1 := FvM_trans hf0 q1
  have hN1 : s1.1 0 24 = Int32.ofNat m := by rw [e1]; exact hB0.2
  -- where it is not fine
  have bad : ∀ s, FvM m σ s → s.1 0 24 = Int32.ofNat m → ¬ VOK im m → ∃ σ1, F_Mo_verify_24 0 (Int32.ofNat m) 0 s = some σ1 ∧ FvM m σ σ1 ∧ RepM σ1 im ∧ ∃ b : Bool, zb (σ1.2.2.2.1 19 m) = b ∧ (b = true ↔ VOK im m) ∧ (b = true → ∃ R, RS im m σ1 R ∧ Clo im m R ∧ (∀ Q, Clo im m Q → LeQ R Q) ∧ ∀ p, p < im 14 m → (zb (σ1.2.2.2.1 16 (100 * m + p)) = true ↔ Beg im m p)) := by
    intro s hs hsn hno
    have hz : zb ((setI s 0 27 (bz false)).1 0 27) = false := by rw [rI, if_pos ⟨rfl, rfl⟩, zbz]
    obtain ⟨s2, a1, a2, a3, a4, a5, a6, a7⟩ := v_49 (m := m) (x2 := false) 100 0 5000 (setI s 0 27 (bz false)) (by omega) (by omega) (fun p hp => by omega)
    have hz2 : zb (s2.1 0 27) = false := by rw [a2]; exact hz
    have hf2 : FvM m s s2 := by
      refine ⟨fun a f h => ?_, fun a f _ => ?_, ?_, fun a f _ _ h => ?_, fun a f _ => ?_⟩
      · rw [a2, rI, if_neg (by omega)]
      · rw [a3]; rfl
      · rw [a4]; rfl
      · rw [a6 a f h]; rfl
      · rw [a5]; rfl
    have h9 := v_149 (im := im) (σ := s2) w1
    rw [hz2] at h9
    have hff := FvM_trans hs (FvM_trans hf2 (fv_19 (v := bz false)))
    refine ⟨setA s2 19 m (bz false), ?_, hff, RepM_FvM hR hff, false, ?_, ⟨(fun e => nomatch e), fun w => absurd w hno⟩, (fun e => nomatch e)⟩
    · have hg : ∀ fuel, F_Mo_verify_68 (fuel + 1) 0 (Int32.ofNat m) false s2 = some (setA s2 19 m (bz false)) := by
        intro fuel
        simp (disch := omega) only [F_Mo_verify_68, if_neg, h9, ite_true, ite_false, if_true, if_false, Bool.false_eq_true, and_self, and_true, true_and, and_false, false_and]
      have a1' := a1.trans (hg 4999)
      simp (disch := omega) only [F_Mo_verify_24, F_Mo_verify_25, F_Mo_verify_42, stl_e, hz, if_neg, lit32, a1', ite_true, ite_false, if_true, if_false, Bool.false_eq_true, and_self, and_true, true_and, and_false, false_and]
    · rw [rA, if_pos ⟨rfl, rfl⟩, zbz]
  cases b with
  | false =>
    obtain ⟨σ1, h1, h2⟩ := bad s1 hq1 hN1 (fun w => nomatch (k1.mpr w.1))
    refine ⟨σ1, ?_, h2⟩
    simp (disch := omega) only [F_Mo_verify, stl_e, f1, if_neg, h1, ite_true, ite_false, if_true, if_false, Bool.false_eq_true, and_self, and_true, true_and, and_false, false_and]
  | true =>
    have hsp := k1.mp rfl
    have hBM1 : BM im m s1 := ⟨RepM_FvM hR hq1, hN1, g1 rfl⟩
    obtain ⟨b2, f2, k2⟩ := m_well hw hm hBM1
    cases b2 with
    | false =>
      obtain ⟨σ1, h1, h2⟩ := bad s1 hq1 hN1 (fun w => nomatch (k2.mpr w.2.1))
      refine ⟨σ1, ?_, h2⟩
      simp (disch := omega) only [F_Mo_verify, stl_e, f1, f2, if_neg, if_pos, h1, ite_true, ite_false, if_true, if_false, Bool.false_eq_true, and_self, and_true, true_and, and_false, false_and]
    | true =>
      have hW := k2.mp rfl
      have hbeg0 : Beg im m 0 := ⟨by omega, 0, rfl⟩
      have hQ3 : QM s1 (setI s1 0 27 (bz true)) := QM_I (by omega)
      have hBM3 := BM_QM hBM1 hQ3
      have hRS3 := RS_QM r1 hQ3
      have hz3 : zb ((setI s1 0 27 (bz true)).1 0 27) = true := by rw [rI, if_pos ⟨rfl, rfl⟩, zbz]
      generalize hs3 : setI s1 0 27 (bz true) = s3 at hQ3 hBM3 hRS3 hz3
      obtain ⟨bb, hbF, hbb⟩ := m_isBeg (x := Int32.ofNat 0) (z := 0) hw hm hBM3 (by decide)
      have hbt : bb = true := hbb.mpr ⟨0, rfl, hbeg0⟩
      subst hbt
      have hhi : s3.2.2.2.1 17 (100 * m) = -Int32.ofNat 1 := (hRS3.1 0 (by omega)).1
      have hm24 : (setI s3 0 27 (bz true)).1 0 24 = Int32.ofNat m := by rw [rI, if_neg (by omega)]; exact hBM3.2.1
      have hz27 : zb ((setI s3 0 27 (bz true)).1 0 27) = true := by rw [rI, if_pos ⟨rfl, rfl⟩, zbz]
      generalize hs4 : setL (setA (setI (setI s3 0 27 (bz true)) 0 27 (bz true)) 17 (100 * m) (Int32.ofNat 0)) 18 (100 * m) (Int64.ofNat 0) = s4
      have h88 : F_Mo_meet_88 0 (Int32.ofNat 0) (Int64.ofNat 0) (Int32.ofNat (100 * m)) 0 true (setI s3 0 27 (bz true)) = some s4 := by
        rw [← hs4]
        simp (disch := omega) only [F_Mo_meet_88, stl_e, lit32, n_nl0, n_cl, false_or, if_neg, cm_21, cm_22, ite_true, ite_false, if_true, if_false, Bool.false_eq_true, and_self, and_true, true_and, and_false, false_and]
      have hmeet : F_Mo_meet 0 (Int32.ofNat 0) (Int32.ofNat 0) (Int64.ofNat 0) s3 = some s4 := by
        have hneg : -Int32.ofNat 1 < Int32.ofNat 0 := by decide
        have h83 : F_Mo_meet_83 0 (Int32.ofNat 0) (Int64.ofNat 0) (Int32.ofNat (100 * m)) 0 (setI s3 0 27 (bz true)) = some s4 := h88
        simp (disch := omega) only [F_Mo_meet, F_Mo_meet_27, hz3, hbF, if_neg, if_pos, stl_e, lit32, n_lt, hz27, hm24, n_mul, n_add, Nat.add_zero, n_nl0, n_cl, false_or, rI2, cm_21, hhi, hneg, h83, ite_true, ite_false, if_true, if_false, Bool.false_eq_true, and_self, and_true, true_and, and_false, false_and]
      have hFM4 : FM m s3 s4 := by
        rw [← hs4]
        refine ⟨fun a f hn => ?_, fun a f _ => rfl, rfl, fun a f hn => ?_, fun a f hn => ?_⟩
        · rw [rL1, rA1, rI, if_neg (by omega), rI, if_neg (by omega)]
        · rw [rL4, rA, if_neg (by omega)]; rfl
        · rw [rL, if_neg (by omega)]; rfl
      have hz4 : zb (s4.1 0 27) = true := by
        rw [← hs4, rL1, rA1, rI, if_pos ⟨rfl, rfl⟩, zbz]
      have hRS4 : RS im m s4 (fun p => if p = 0 then some [] else none) := by
        refine ⟨fun p hp => ?_, fun p => ?_, fun p => ?_⟩
        · by_cases c : p = 0
          · subst c
            refine ⟨?_, fun l' hl' => ?_⟩
            · rw [← hs4, rL4, rA, if_pos ⟨rfl, rfl⟩]
              rfl
            · rw [← hs4, rL, if_pos ⟨rfl, rfl⟩]
              simp only [if_true] at hl'
              rw [← Option.some.inj hl']
              rfl
          · simp only [c, if_false]
            refine ⟨?_, fun l' hl' => nomatch hl'⟩
            rw [← hs4, rL4, rA, if_neg (by omega)]
            exact (hRS3.1 p hp).1
        · by_cases c : p = 0
          · simp only [c, if_true]
            intro x e
            cases e
            exact ⟨by simp, by simp⟩
          · simp only [c, if_false]
            intro x e
            cases e
        · by_cases c : p = 0
          · intro _
            omega
          · simp only [c, if_false]
            intro e
            exact absurd rfl e
      obtain ⟨s5, a1, a2, a3, a4, a5, a6, a7⟩ := v_49 (m := m) (x2 := true) 100 0 5000 s4 (by omega) (by omega) (fun p hp => by omega)
      have hf5 : FvM m s4 s5 := by
        refine ⟨fun a f h => ?_, fun a f _ => ?_, ?_, fun a f _ _ h => ?_, fun a f _ => ?_⟩
        · rw [a2]
        · rw [a3]
        · rw [a4]
        · rw [a6 a f h]
        · rw [a5]
      have hBM4 := BM_FM hBM3 hFM4
      have hBM5 : BM im m s5 := by
        refine ⟨RepM_FvM hBM4.1 hf5, by rw [a2]; exact hBM4.2.1, fun p hp => ?_⟩
        rw [a6 _ _ (by omega)]
        exact hBM4.2.2 p hp
      have hVM : VM im m s5 (fun p => if p = 0 then some [] else none) (fun _ => false) := by
        refine ⟨hBM5, ⟨fun p hp => ?_, hRS4.2⟩, by rw [a2]; exact hz4, fun p hp => a7 p hp, (fun p l e => nomatch e), ⟨0, rfl, hbeg0, by simp, by simp⟩, fun Q hQ p l hp => ?_, fun p l hp => ?_, (fun p e => nomatch e)⟩
        · rw [a6 _ _ (by omega), a5]
          exact hRS4.1 p hp
        · by_cases c : p = 0
          · simp only [c, if_true] at hp
            obtain ⟨q, e, -, -, hq⟩ := hQ.1
            have e2 : q = 0 := by omega
            rw [e2] at hq
            rw [c, hq]
            exact hp
          · simp only [c, if_false] at hp
            cases hp
        · by_cases c : p = 0
          · rw [c]; exact hbeg0
          · simp only [c, if_false] at hp
            cases hp
      have hcl := cnt_le (fun _ => false) (im 14 m)
      obtain ⟨σ1, h1, h2, h3⟩ := (v_68 hw hm hsp hW 200 5000 (by omega)).1 s5 _ _ hVM (by omega)
      have hff : FvM m σ σ1 := FvM_trans hq1 (FvM_trans (FM_FvM (QM_FM hQ3)) (FvM_trans (FM_FvM hFM4) (FvM_trans hf5 h2)))
      obtain ⟨hB6, bf, j1, j2, j3⟩ := h3
      refine ⟨σ1, ?_, hff, RepM_FvM hR hff, bf, j1, ?_, fun e => ?_⟩
      · have a1' := a1.trans h1
        simp (disch := omega) only [F_Mo_verify, F_Mo_verify_25, F_Mo_verify_42, stl_e, f1, f2, if_pos, hs3, hz3, lit32, lit64n, hmeet, hz4, a1', ite_true, ite_false, if_true, if_false, Bool.false_eq_true, and_self, and_true, true_and, and_false, false_and]
      · rw [j2]
        exact ⟨fun w => ⟨hsp, hW, w⟩, fun w => w.2.2⟩
      · obtain ⟨R, x1, x2, x3⟩ := j3 e
        exact ⟨R, x1, x2, x3, hB6.2.2⟩
