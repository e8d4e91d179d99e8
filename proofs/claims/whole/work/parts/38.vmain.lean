/-! The class's verify, as a whole. -/
def CB (im : Im) (m : Nat) (S : Nat → Prop) (c : Nat) : Prop := c < 64 ∧ ∀ k, k < 6 → (Nat.testBit c k = true ↔ ∃ p, S p ∧ cdA im m p = 33 ∧ cdA im m (p + 1) = k ∧ k < im 0 1)
theorem CB_iff {im : Im} {m c : Nat} {S T : Nat → Prop} (h : CB im m S c) (hi : ∀ p, S p ↔ T p) : CB im m T c := by
  refine ⟨h.1, fun k hk => ?_⟩
  rw [h.2 k hk]
  exact ⟨fun ⟨p, a, b⟩ => ⟨p, (hi p).mp a, b⟩, fun ⟨p, a, b⟩ => ⟨p, (hi p).mpr a, b⟩⟩
theorem shl6 (r : Nat) (h : r < 6) : (Int32.ofNat 1 <<< (Int32.ofNat r &&& Int32.ofNat 31)) = Int32.ofNat (2 ^ r) := by
  obtain rfl | rfl | rfl | rfl | rfl | rfl : r = 0 ∨ r = 1 ∨ r = 2 ∨ r = 3 ∨ r = 4 ∨ r = 5 := by omega
  all_goals decide
theorem clM_ok {im : Im} {m p c : Nat} {S : Nat → Prop} (h : CB im m S c) (h6 : im 0 1 ≤ 6) : ∃ d, clM im m p (Int32.ofNat c) = Int32.ofNat d ∧ CB im m (fun q => S q ∨ q = p) d := by
  by_cases cc : cdA im m p = 33 ∧ cdA im m (p + 1) < im 0 1
  · refine ⟨c ||| 2 ^ cdA im m (p + 1), ?_, ?_, fun k hk => ?_⟩
    · unfold clM
      rw [if_pos cc, shl6 _ (by omega), i_or]
    · exact Nat.or_lt_two_pow (n := 6) h.1 (Nat.pow_lt_pow_right (by omega) (by omega))
    · rw [Nat.testBit_or, Nat.testBit_two_pow, Bool.or_eq_true, h.2 k hk, decide_eq_true_eq]
      constructor
      · rintro (⟨q, a, b⟩ | e)
        · exact ⟨q, Or.inl a, b⟩
        · exact ⟨p, Or.inr rfl, cc.1, e, by rw [← e]; exact cc.2⟩
      · rintro ⟨q, a | a, b1, b2, b3⟩
        · exact Or.inl ⟨q, a, b1, b2, b3⟩
        · rw [a] at b2
          exact Or.inr b2
  · refine ⟨c, ?_, h.1, fun k hk => ?_⟩
    · unfold clM
      rw [if_neg cc]
    · rw [h.2 k hk]
      constructor
      · rintro ⟨q, a, b⟩
        exact ⟨q, Or.inl a, b⟩
      · rintro ⟨q, a | a, b1, b2, b3⟩
        · exact ⟨q, a, b1, b2, b3⟩
        · rw [a] at b1 b2
          exact absurd ⟨b1, by rw [b2]; exact b3⟩ cc
def VOK (im : Im) (m : Nat) : Prop := SpOK im m ∧ WM im m ∧ ∃ Q, Clo im m Q
def Vfz (m IA : Nat) (σ σ1 : SG) : Prop := σ1.2.1 = σ.2.1 ∧ (∀ x f, x ≠ 120 → σ1.2.2.1 x f = σ.2.2.1 x f) ∧ σ1.2.2.2.2 = σ.2.2.2.2 ∧ (∀ x f, x ≠ 120 → ¬ (x = IA + 4 + 9 * m ∧ (f = 9 ∨ f = 11)) → σ1.1 x f = σ.1 x f) ∧ (∀ x f, x ≠ IA + 4 + 9 * m + 8 → x ≠ 121 → x ≠ 122 → σ1.2.2.2.1 x f = σ.2.2.2.1 x f)
theorem Vfz_trans {m IA : Nat} {a b c : SG} (h : Vfz m IA a b) (g : Vfz m IA b c) : Vfz m IA a c :=
  ⟨g.1.trans h.1, fun x f p => (g.2.1 x f p).trans (h.2.1 x f p), g.2.2.1.trans h.2.2.1, fun x f p q => (g.2.2.2.1 x f p q).trans (h.2.2.2.1 x f p q), fun x f p q r => (g.2.2.2.2 x f p q r).trans (h.2.2.2.2 x f p q r)⟩
theorem Vfr_z {m IA : Nat} {a b : SG} (h : Vfr m IA a b) : Vfz m IA a b :=
  ⟨h.1, fun x f _ => by rw [h.2.1], h.2.2.1, fun x f p q => h.2.2.2.1 x f (fun z => p z.1) (fun z => q ⟨z.1, Or.inr z.2⟩), fun x f p _ r => h.2.2.2.2 x f p r⟩
theorem Vf0_z {m IA : Nat} {a b : SG} (h : Vf0 m IA a b) : Vfz m IA a b :=
  ⟨h.2.1, fun x f _ => by rw [h.2.2.1], h.2.2.2.1, fun x f _ _ => by rw [h.1], fun x f p q _ => h.2.2.2.2 x f p q⟩
/-- the rows that were found -/
def RwOK (im : Im) (m IA : Nat) (σ : SG) (R : RQ) : Prop := Clo im m R ∧ (∀ Q, Clo im m Q → LeQ R Q) ∧ (∀ p, p < im 14 m → σ.2.2.2.1 (IA + 4 + 9 * m + 8) p = encO (R p)) ∧ (∀ p, GO (R p)) ∧ (∀ p, R p ≠ none → p < im 14 m) ∧ ∃ c, σ.1 (IA + 4 + 9 * m) 11 = Int32.ofNat c ∧ CB im m (fun p => R p ≠ none) c
theorem vf_93 {m IA : Nat} {σ : SG} {b : Bool} (hW : σ.2.2.1 120 1 = IA + 4 + 9 * m) (hM : isC SHc (IA + 4 + 9 * m) 2 = true) : F_Vf_verify_93 120 b σ = some (setI σ (IA + 4 + 9 * m) 9 (bz b)) := by
  simp (disch := omega) only [F_Vf_verify_93, hW, hM, if_pos, stl_e, ite_true, ite_false, if_true, if_false, Bool.false_eq_true, and_self, and_true, true_and, and_false, false_and]
theorem vf_z9 {m IA : Nat} {σ : SG} {v : Int32} : Vfz m IA σ (setI σ (IA + 4 + 9 * m) 9 v) :=
  ⟨rfl, fun _ _ _ => rfl, rfl, fun x f _ h => by rw [rI, if_neg (fun z => h ⟨z.1, Or.inl z.2⟩)], fun _ _ _ _ _ => rfl⟩
theorem vf_false {m IA : Nat} {σ : SG} {x : Int32} {fuel : Nat} (hW : σ.2.2.1 120 1 = IA + 4 + 9 * m) (hM : isC SHc (IA + 4 + 9 * m) 2 = true) : F_Vf_verify_55 (fuel + 1) 120 false x σ = some (setI σ (IA + 4 + 9 * m) 9 (bz false)) := by
  simp (disch := omega) only [F_Vf_verify_55, if_neg, vf_93 hW hM, ite_true, ite_false, if_true, if_false, Bool.false_eq_true, and_self, and_true, true_and, and_false, false_and]
theorem vf_55 {im : Im} {m IA : Nat} (hm : m < im 0 1) : ∀ c i fuel σ R L, VS im m IA σ R L → i ≤ L.length → i + c = 101 → c < fuel → (∀ j l, j < i → R (L.getD j 0) = some l → OKat im m R (L.getD j 0) l) → Rch im m R 0 (some []) → (∀ Q, Clo im m Q → LeQ R Q) → (∃ d, σ.1 (IA + 4 + 9 * m) 11 = Int32.ofNat d ∧ CB im m (fun p => ∃ j, j < i ∧ L.getD j 0 = p) d) →
    ∃ σ1 b R1, F_Vf_verify_55 fuel 120 true (Int32.ofNat i) σ = some σ1 ∧ σ1.1 (IA + 4 + 9 * m) 9 = bz b ∧ (b = true ↔ ∃ Q, Clo im m Q) ∧ (b = true → RwOK im m IA σ1 R1) ∧ Vfz m IA σ σ1 := by
  have hc3 : cref SHc 120 3 = 122 := by decide
  intro c
  induction c with
  | zero =>
    intro i fuel σ R L hV hiL hi hf hpro hroot hle hcl
    have hlen := nodup_len (im 14 m) L hV.2.2.2.2.2.2.2.2.1 (fun x hx => hV.2.2.2.2.2.1 x ((hV.2.2.2.2.2.2.2.2.2 x).mp hx))
    have := (IC_ln (VS_I hV) hm).2
    omega
  | succ c ih =>
    intro i fuel σ R L hV hiL hi hf hpro hroot hle hcl
    obtain ⟨fuel, rfl⟩ : ∃ x, fuel = x + 1 := ⟨fuel - 1, by omega⟩
    have hlen := nodup_len (im 14 m) L hV.2.2.2.2.2.2.2.2.1 (fun x hx => hV.2.2.2.2.2.1 x ((hV.2.2.2.2.2.2.2.2.2 x).mp hx))
    have hln := (IC_ln (VS_I hV) hm).2
    have h := VS_I hV
    have hM := d_Mc h hm
    have hIA := h.1
    have h6 := (IC_M h hm).1
    have hW := VS_W hV
    have hct := hV.2.2.2.2.2.2.1
    by_cases ce : i = L.length
    · have hCl : Clo im m R := by
        refine ⟨hroot, fun p l hp => ?_⟩
        have hmem := (hV.2.2.2.2.2.2.2.2.2 p).mpr (by rw [hp]; simp)
        obtain ⟨j, hj, e⟩ := List.getElem_of_mem hmem
        have e2 : L.getD j 0 = p := by
          rw [List.getD_eq_getElem?_getD, List.getElem?_eq_getElem hj, e]
          rfl
        have := hpro j l (by omega) (by rw [e2]; exact hp)
        rw [e2] at this
        exact this
      refine ⟨setI σ (IA + 4 + 9 * m) 9 (bz true), true, R, ?_, ?_, ⟨fun _ => ⟨R, hCl⟩, fun _ => rfl⟩, fun _ => ?_, vf_z9⟩
      · simp (disch := omega) only [F_Vf_verify_55, if_pos, hct, n_le, vf_93 hW hM, ite_true, ite_false, if_true, if_false, Bool.false_eq_true, and_self, and_true, true_and, and_false, false_and]
      · rw [rI, if_pos ⟨rfl, rfl⟩]
      · obtain ⟨d, hd1, hd2⟩ := hcl
        refine ⟨hCl, hle, hV.2.2.2.1, hV.2.2.2.2.1, hV.2.2.2.2.2.1, d, ?_, CB_iff hd2 (fun p => ?_)⟩
        · rw [rI, if_neg (by omega)]
          exact hd1
        · rw [← hV.2.2.2.2.2.2.2.2.2 p]
          constructor
          · rintro ⟨j, hj, e⟩
            rw [← e, List.getD_eq_getElem?_getD, List.getElem?_eq_getElem (by omega)]
            exact List.getElem_mem _
          · intro hmem
            obtain ⟨j, hj, e⟩ := List.getElem_of_mem hmem
            refine ⟨j, by omega, ?_⟩
            rw [List.getD_eq_getElem?_getD, List.getElem?_eq_getElem hj, e]
            rfl
    · have hiL' : i < L.length := by omega
      have hrd := hV.2.2.2.2.2.2.2.1 i hiL'
      have hmem : L.getD i 0 ∈ L := by
        rw [List.getD_eq_getElem?_getD, List.getElem?_eq_getElem hiL']
        exact List.getElem_mem _
      have hne := (hV.2.2.2.2.2.2.2.2.2 _).mp hmem
      obtain ⟨l, hl⟩ : ∃ l, R (L.getD i 0) = some l := by
        cases hx : R (L.getD i 0) with
        | none => exact absurd hx hne
        | some l => exact ⟨l, rfl⟩
      obtain ⟨b, σ1, hF, R1, L1, q1, q2, q3, q4, q5, q6, t, q7⟩ := c_follow hV hm hl
      cases b with
      | false =>
        have hW1 := VS_W q1
        refine ⟨setI σ1 (IA + 4 + 9 * m) 9 (bz false), false, R1, ?_, ?_, ⟨(fun e => nomatch e), ?_⟩, (fun e => nomatch e), Vfz_trans (Vfr_z q5) vf_z9⟩
        · obtain ⟨fuel, rfl⟩ : ∃ x, fuel = x + 1 := ⟨fuel - 1, by omega⟩
          simp (disch := omega) only [F_Vf_verify_55, if_pos, if_neg, hct, n_le, lit32, n_nl0, n_cl, false_or, hc3, hrd, hF, n_add, vf_93 hW1 hM, ite_true, ite_false, if_true, if_false, Bool.false_eq_true, and_self, and_true, true_and, and_false, false_and]
        · rw [rI, if_pos ⟨rfl, rfl⟩]
        · rintro ⟨Q, hQ⟩
          exact (q4 Q (hle Q hQ) (hQ.2 _ _ (hle Q hQ _ _ hl))).1
      | true =>
        have hgd : ∀ j, j < i + 1 → L1.getD j 0 = L.getD j 0 := by
          intro j hj
          rw [q7, List.getD_eq_getElem?_getD, List.getD_eq_getElem?_getD, List.getElem?_append_left (by omega)]
        obtain ⟨σ2, b2, R2, g1, g2, g3, g4, g5⟩ := ih (i + 1) fuel σ1 R1 L1 q1 (by rw [q7, List.length_append]; omega) (by omega) (by omega) (fun j l' hj hj2 => by
          rw [hgd j hj] at hj2 ⊢
          by_cases e : j = i
          · rw [e] at hj2 ⊢
            rw [q2 _ _ hl] at hj2
            cases hj2
            exact q3 rfl
          · have hmj : L.getD j 0 ∈ L := by
              rw [List.getD_eq_getElem?_getD, List.getElem?_eq_getElem (by omega)]
              exact List.getElem_mem _
            cases hx : R (L.getD j 0) with
            | none => exact absurd hx ((hV.2.2.2.2.2.2.2.2.2 _).mp hmj)
            | some l2 =>
              rw [q2 _ _ hx] at hj2
              have e2 := Option.some.inj hj2
              rw [← e2]
              exact OKat_mono (hpro j l2 (by omega) hx) q2) (Rch_mono hroot q2) (fun Q hQ => (q4 Q (hle Q hQ) (hQ.2 _ _ (hle Q hQ _ _ hl))).2) (by
          obtain ⟨d, hd1, hd2⟩ := hcl
          obtain ⟨d', e1, e2⟩ := clM_ok (p := L.getD i 0) hd2 (IC_nm h).2.2
          refine ⟨d', by rw [q6, hd1, e1], CB_iff e2 (fun p => ?_)⟩
          constructor
          · rintro (⟨j, a, b⟩ | e)
            · exact ⟨j, by omega, by rw [hgd j (by omega)]; exact b⟩
            · exact ⟨i, by omega, by rw [hgd i (by omega)]; exact e.symm⟩
          · rintro ⟨j, a, b⟩
            rw [hgd j a] at b
            by_cases e : j = i
            · rw [e] at b
              exact Or.inr b.symm
            · exact Or.inl ⟨j, by omega, b⟩)
        refine ⟨σ2, b2, R2, ?_, g2, g3, g4, Vfz_trans (Vfr_z q5) g5⟩
        simp (disch := omega) only [F_Vf_verify_55, if_pos, if_neg, hct, n_le, lit32, n_nl0, n_cl, false_or, hc3, hrd, hF, n_add, g1, ite_true, ite_false, if_true, if_false, Bool.false_eq_true, and_self, and_true, true_and, and_false, false_and]
theorem c_verify {im : Im} {m IA : Nat} {σ : SG} (h : ImC σ IA im) (hm : m < im 0 1) :
    ∃ σ1 b R, F_Vf_verify 120 IA (IA + 4 + 9 * m) σ = some σ1 ∧ σ1.1 (IA + 4 + 9 * m) 9 = bz b ∧ (b = true ↔ VOK im m) ∧ (b = true → RwOK im m IA σ1 R) ∧ Vfz m IA σ σ1 ∧ ImC σ1 IA im := by
  have hM := d_Mc h hm
  have hIA := h.1
  have h6 := (IC_M h hm).1
  have hln := (IC_ln h hm).2
  have hvz : ∀ σ1, Vfz m IA σ σ1 → ImC σ1 IA im := by
    intro σ1 hf
    refine ImC_congr h (fun x f hf' h1 h2 => hf.2.2.2.1 x f (by omega) (by omega)) (fun x f hx h1 h2 => hf.2.2.2.2 x f ?_ (by omega) (by omega))
    have := hx m h6
    omega
  generalize hs : setI (setI (setP (setP σ 120 0 IA) 120 1 (IA + 4 + 9 * m)) (IA + 4 + 9 * m) 11 (Int32.ofNat 0)) 120 4 (Int32.ofNat 0) = σ0
  have hz0 : Vfz m IA σ σ0 := by
    rw [← hs]
    refine ⟨rfl, fun x f hx => ?_, rfl, fun x f hx hf => ?_, fun _ _ _ _ _ => rfl⟩
    · simp (disch := omega) only [rI2, rP, if_neg, ite_true, ite_false, if_true, if_false, Bool.false_eq_true, and_self, and_true, true_and, and_false, false_and]
    · rw [rI, if_neg (fun z => hx z.1), rI, if_neg (fun z => hf ⟨z.1, Or.inr z.2⟩), rP1, rP1]
  have hV0 : V0 im m IA σ0 := by
    refine ⟨⟨?_, ?_⟩, hvz _ hz0⟩
    · rw [← hs]
      simp (disch := omega) only [rI2, rP, if_neg, if_pos, ite_true, ite_false, if_true, if_false, Bool.false_eq_true, and_self, and_true, true_and, and_false, false_and]
    · rw [← hs]
      simp (disch := omega) only [rI2, rP, if_pos, ite_true, ite_false, if_true, if_false, Bool.false_eq_true, and_self, and_true, true_and, and_false, false_and]
  have h04 : σ0.1 120 4 = Int32.ofNat 0 := by
    rw [← hs, rI, if_pos ⟨rfl, rfl⟩]
  have h11 : σ0.1 (IA + 4 + 9 * m) 11 = Int32.ofNat 0 := by
    rw [← hs, rI, if_neg (by omega), rI, if_pos ⟨rfl, rfl⟩]
  obtain ⟨b0, σ1, g1, g2, g3, g4, g5⟩ := c_find hm hV0
  have hV1 := V0_f hV0 hm g3
  have hz1 := Vfz_trans hz0 (Vf0_z g3)
  have pre : ∀ r, (match F_Vf_findBeginnings 120 σ0 with
      | none => none
      | some q13 =>
        if q13.1 = true then
          match F_Vf_areRegionsWellMade 120 q13.2 with
          | none => none
          | some q15 =>
            if q15.1 = true then
              match F_Vf_reach 120 (0 : Int32) (0 : Int32) q15.2 with
              | none => none
              | some q17 => if q17.1 = true then F_Vf_verify_51 120 true q17.2 else F_Vf_verify_50 120 q17.2
            else F_Vf_verify_50 120 q15.2
        else F_Vf_verify_50 120 q13.2) = r → F_Vf_verify 120 IA (IA + 4 + 9 * m) σ = r := by
    intro r hr
    rw [← hr, ← hs]
    simp (disch := omega) only [F_Vf_verify, stl_e, lit32, rP, rI2, rP3, if_pos, hM, ite_true, ite_false, if_true, if_false, Bool.false_eq_true, and_self, and_true, true_and, and_false, false_and]
    rfl
  have fal : ∀ s, s.2.2.1 120 1 = IA + 4 + 9 * m → F_Vf_verify_50 120 s = some (setI s (IA + 4 + 9 * m) 9 (bz false)) := by
    intro s hs'
    have := vf_false (x := Int32.ofNat 0) (fuel := 4999) hs' hM
    simp (disch := omega) only [F_Vf_verify_50, F_Vf_verify_51, lit32, ite_true, ite_false, if_true, if_false, Bool.false_eq_true, and_self, and_true, true_and, and_false, false_and]
    exact this
  have h9 : ∀ (s : SG) v, (setI s (IA + 4 + 9 * m) 9 v).1 (IA + 4 + 9 * m) 9 = v := fun s v => by rw [rI, if_pos ⟨rfl, rfl⟩]
  cases b0 with
  | false =>
    have hns : ¬ SpOK im m := fun z => nomatch (g2.mpr z)
    refine ⟨_, false, fun _ => none, pre _ ?_, h9 _ _, ⟨(fun e => nomatch e), fun w => absurd w.1 hns⟩, (fun e => nomatch e), Vfz_trans hz1 vf_z9, hvz _ (Vfz_trans hz1 vf_z9)⟩
    simp (disch := omega) only [g1, if_neg, fal _ hV1.1.2, ite_true, ite_false, if_true, if_false, Bool.false_eq_true, and_self, and_true, true_and, and_false, false_and]
  | true =>
    have hsp := g2.mp rfl
    have hVS : VS im m IA σ1 (fun _ => none) [] := by
      refine ⟨hV1.1, hV1.2, g5 rfl, fun p hp => g4 p hp, (fun p l hl => by cases hl), (fun p hp => absurd rfl hp), ?_, (fun i hi => by simp at hi), List.nodup_nil, fun p => by simp⟩
      rw [g3.1]
      exact h04
    obtain ⟨b1, w1, w2⟩ := c_wm hVS hm
    cases b1 with
    | false =>
      have hns : ¬ WM im m := fun z => nomatch (w2.mpr z)
      refine ⟨_, false, fun _ => none, pre _ ?_, h9 _ _, ⟨(fun e => nomatch e), fun w => absurd w.2.1 hns⟩, (fun e => nomatch e), Vfz_trans hz1 vf_z9, hvz _ (Vfz_trans hz1 vf_z9)⟩
      simp (disch := omega) only [g1, if_neg, if_pos, w1, fal _ hV1.1.2, ite_true, ite_false, if_true, if_false, Bool.false_eq_true, and_self, and_true, true_and, and_false, false_and]
    | true =>
      have hwm := w2.mp rfl
      obtain ⟨b2, σ2, R2, L2, r1, r2, r3, r4, r5, r6, r7, t, r8⟩ := c_reach (x := Int32.ofNat 0) (z := 0) (o := some []) hVS hm (by decide) (fun l hl => by cases hl; exact ⟨by simp, by simp⟩)
      have r1' : F_Vf_reach 120 (Int32.ofNat 0) (Int32.ofNat 0) σ1 = some (b2, σ2) := r1
      have hz2 := Vfz_trans hz1 (Vfr_z r6)
      have hcd : CB im m (fun p => ∃ j, j < 0 ∧ L2.getD j 0 = p) 0 := by
        refine ⟨by omega, fun k hk => ?_⟩
        rw [Nat.zero_testBit]
        refine ⟨(fun e => nomatch e), ?_⟩
        rintro ⟨p, ⟨j, a, -⟩, -⟩
        omega
      cases b2 with
      | false =>
        refine ⟨_, false, fun _ => none, pre _ ?_, h9 _ _, ⟨(fun e => nomatch e), ?_⟩, (fun e => nomatch e), Vfz_trans hz2 vf_z9, hvz _ (Vfz_trans hz2 vf_z9)⟩
        · simp (disch := omega) only [g1, if_neg, if_pos, w1, lit32, r1', fal _ (VS_W r2), ite_true, ite_false, if_true, if_false, Bool.false_eq_true, and_self, and_true, true_and, and_false, false_and]
        · rintro ⟨-, -, Q, hQ⟩
          exact (r5 Q (fun p l hl => by cases hl) hQ.1).1
      | true =>
        obtain ⟨σ3, b3, R3, k1, k2, k3, k4, k5⟩ := vf_55 hm 101 0 5000 σ2 R2 L2 r2 (by omega) (by omega) (by omega) (fun j l hj => by omega) (r4 rfl) (fun Q hQ => (r5 Q (fun p l hl => by cases hl) hQ.1).2) ⟨0, by rw [r7, g3.1]; exact h11, hcd⟩
        refine ⟨σ3, b3, R3, pre _ ?_, k2, ?_, k4, Vfz_trans hz2 k5, hvz _ (Vfz_trans hz2 k5)⟩
        · simp (disch := omega) only [g1, if_pos, w1, lit32, r1', F_Vf_verify_51, k1, ite_true, ite_false, if_true, if_false, Bool.false_eq_true, and_self, and_true, true_and, and_false, false_and]
        · rw [k3]
          exact ⟨fun w => ⟨hsp, hwm, w⟩, fun w => w.2.2⟩
/-- what is reached begins there -/
theorem Clo_Beg {im : Im} {m : Nat} {R : RQ} (h : Clo im m R) (hle : ∀ Q, Clo im m Q → LeQ R Q) : ∀ p l, R p = some l → Beg im m p := by
  have key : ∀ z o, Rch im m R z o → Rch im m (fun p => if p < im 14 m then (match Classical.propDecidable (Beg im m p) with | isTrue _ => R p | isFalse _ => none) else none) z o := by
    rintro z o ⟨q, e, hb, hn, hq⟩
    refine ⟨q, e, hb, hn, ?_⟩
    show (if q < im 14 m then _ else none) = o
    rw [if_pos hb.1]
    cases hd : Classical.propDecidable (Beg im m q) with
    | isTrue _ => exact hq
    | isFalse c => exact absurd hb c
  have hsub : ∀ p l, (if p < im 14 m then (match Classical.propDecidable (Beg im m p) with | isTrue _ => R p | isFalse _ => none) else none) = some l → Beg im m p ∧ R p = some l := by
    intro p l hp
    by_cases c : p < im 14 m
    · rw [if_pos c] at hp
      cases hd : Classical.propDecidable (Beg im m p) with
      | isTrue hb =>
        rw [hd] at hp
        exact ⟨hb, hp⟩
      | isFalse _ =>
        rw [hd] at hp
        cases hp
    · rw [if_neg c] at hp
      cases hp
  have hC : Clo im m (fun p => if p < im 14 m then (match Classical.propDecidable (Beg im m p) with | isTrue _ => R p | isFalse _ => none) else none) := by
    refine ⟨key _ _ h.1, fun p l hp => ?_⟩
    obtain ⟨w1, w2, w3, w4, w5, w6⟩ := h.2 p l (hsub p l hp).2
    exact ⟨w1, w2, fun r a b => key _ _ (w3 r a b), fun a => ⟨(w4 a).1, key _ _ (w4 a).2⟩, fun a => ⟨(w5 a).1, key _ _ (w5 a).2⟩, fun a b => ⟨(w6 a b).1, key _ _ (w6 a b).2⟩⟩
  intro p l hp
  exact (hsub p l (hle _ hC p l hp)).1
