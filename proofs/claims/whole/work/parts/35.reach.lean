/-! The class's work list. -/
theorem nodup_len : ∀ (n : Nat) (L : List Nat), L.Nodup → (∀ x, x ∈ L → x < n) → L.length ≤ n := by
  intro n
  induction n with
  | zero =>
    intro L _ h
    cases L with
    | nil => exact Nat.le_refl _
    | cons x L => exact absurd (h x List.mem_cons_self) (Nat.not_lt_zero _)
  | succ n ih =>
    intro L hn h
    by_cases c : n ∈ L
    · have h1 := ih (L.erase n) (hn.erase n) (fun x hx => by
        have h2 := (List.Nodup.mem_erase_iff hn).mp hx
        have h3 := h x h2.2
        have h4 := h2.1
        omega)
      rw [List.length_erase_of_mem c] at h1
      omega
    · have h1 := ih L hn (fun x hx => by
        have h3 := h x hx
        by_cases e : x = n
        · rw [e] at hx
          exact absurd hx c
        · omega)
      omega
def VS (im : Im) (m IA : Nat) (σ : SG) (R : RQ) (L : List Nat) : Prop :=
  (σ.2.2.1 120 0 = IA ∧ σ.2.2.1 120 1 = IA + 4 + 9 * m) ∧ ImC σ IA im ∧ (∀ p, p < im 14 m → (zb (σ.2.2.2.1 121 p) = true ↔ Beg im m p)) ∧ (∀ p, p < im 14 m → σ.2.2.2.1 (IA + 4 + 9 * m + 8) p = encO (R p)) ∧ (∀ p, GO (R p)) ∧ (∀ p, R p ≠ none → p < im 14 m) ∧ σ.1 120 4 = Int32.ofNat L.length ∧ (∀ i, i < L.length → σ.2.2.2.1 122 i = Int32.ofNat (L.getD i 0)) ∧ L.Nodup ∧ (∀ p, p ∈ L ↔ R p ≠ none)
def Vfr (m IA : Nat) (σ σ1 : SG) : Prop := σ1.2.1 = σ.2.1 ∧ σ1.2.2.1 = σ.2.2.1 ∧ σ1.2.2.2.2 = σ.2.2.2.2 ∧ (∀ x f, ¬ (x = 120 ∧ f = 4) → ¬ (x = IA + 4 + 9 * m ∧ f = 11) → σ1.1 x f = σ.1 x f) ∧ (∀ x f, x ≠ IA + 4 + 9 * m + 8 → x ≠ 122 → σ1.2.2.2.1 x f = σ.2.2.2.1 x f)
theorem Vfr_refl (m IA : Nat) (σ : SG) : Vfr m IA σ σ := ⟨rfl, rfl, rfl, fun _ _ _ _ => rfl, fun _ _ _ _ => rfl⟩
theorem Vfr_trans {m IA : Nat} {a b c : SG} (h : Vfr m IA a b) (g : Vfr m IA b c) : Vfr m IA a c :=
  ⟨g.1.trans h.1, g.2.1.trans h.2.1, g.2.2.1.trans h.2.2.1, fun x f p q => (g.2.2.2.1 x f p q).trans (h.2.2.2.1 x f p q), fun x f p q => (g.2.2.2.2 x f p q).trans (h.2.2.2.2 x f p q)⟩
theorem ImC_IA {σ : SG} {IA : Nat} {im : Im} (h : ImC σ IA im) : IA = 2 ∨ IA = 60 := h.1
theorem ImC_vfr {σ σ1 : SG} {IA m : Nat} {im : Im} (h : ImC σ IA im) (hm : m < im 0 1) (hf : Vfr m IA σ σ1) : ImC σ1 IA im := by
  have h6 := (IC_M h hm).1
  have hIA := h.1
  refine ImC_congr h (fun x f hf' h1 h2 => hf.2.2.2.1 x f (by omega) (by omega)) (fun x f hx h1 h2 => hf.2.2.2.2 x f ?_ (by omega))
  have := hx m h6
  omega
theorem c_begins {im : Im} {m IA : Nat} {σ : SG} {R : RQ} {L : List Nat} {x : Int32} {z : Int} (hV : VS im m IA σ R L) (hm : m < im 0 1) (hx : x.toInt = z) : ∃ b, F_Vf_beginsAt 120 x σ = some (b, σ) ∧ (b = true ↔ ∃ q : Nat, z = q ∧ Beg im m q) := by
  obtain ⟨⟨hV1, hW⟩, h, hB, hRw, hGO, hRl, hct, hLs, hnd, hmem⟩ := hV
  have hM := d_Mc h hm
  obtain ⟨hl, hl1, hl2⟩ := IC_ln h hm
  have hc2 : cref SHc 120 2 = 121 := by decide
  rcases n_case x with hn | ⟨q, hq, rfl⟩
  · refine ⟨false, ?_, ?_⟩
    · unfold F_Vf_beginsAt
      rw [if_pos hn]
      rfl
    · rw [i_lt] at hn
      have h0 : (0 : Int32).toInt = 0 := by decide
      constructor
      · intro e; cases e
      · rintro ⟨q, e, -⟩
        omega
  · rw [n_int hq] at hx
    by_cases c : q < im 14 m
    · cases hz : zb (σ.2.2.2.1 121 q) with
      | true =>
        refine ⟨true, ?_, fun _ => ⟨q, hx.symm, (hB q c).mp hz⟩, fun _ => rfl⟩
        simp (disch := omega) only [F_Vf_beginsAt, F_Vf_beginsAt_29, F_Vf_beginsAt_28, lit32, n_nl0, if_neg, hW, hM, if_pos, hl, n_le, n_cl, false_or, hc2, hz, ite_true, ite_false, if_true, if_false, Bool.false_eq_true, and_self, and_true, true_and, and_false, false_and]
      | false =>
        refine ⟨false, ?_, (fun e => nomatch e), ?_⟩
        · simp (disch := omega) only [F_Vf_beginsAt, F_Vf_beginsAt_29, F_Vf_beginsAt_28, lit32, n_nl0, if_neg, hW, hM, if_pos, hl, n_le, n_cl, false_or, hc2, hz, ite_true, ite_false, if_true, if_false, Bool.false_eq_true, and_self, and_true, true_and, and_false, false_and]
        · rintro ⟨q', e, hb⟩
          have e' : q' = q := by omega
          rw [e'] at hb
          rw [(hB q c).mpr hb] at hz
          cases hz
    · refine ⟨false, ?_, (fun e => nomatch e), ?_⟩
      · simp (disch := omega) only [F_Vf_beginsAt, F_Vf_beginsAt_29, F_Vf_beginsAt_28, lit32, n_nl0, if_neg, hW, hM, if_pos, hl, n_le, ite_true, ite_false, if_true, if_false, Bool.false_eq_true, and_self, and_true, true_and, and_false, false_and]
      · rintro ⟨q', e, hb⟩
        have := hb.1
        omega
theorem c_reach {im : Im} {m IA : Nat} {σ : SG} {R : RQ} {L : List Nat} {x : Int32} {z : Int} {o : Option (List Nat)} (hV : VS im m IA σ R L) (hm : m < im 0 1) (hx : x.toInt = z) (ho : GO o) :
    ∃ b σ1 R1 L1, F_Vf_reach 120 x (encO o) σ = some (b, σ1) ∧ VS im m IA σ1 R1 L1 ∧ LeQ R R1 ∧ (b = true → Rch im m R1 z o) ∧ (∀ Q, LeQ R Q → Rch im m Q z o → b = true ∧ LeQ R1 Q) ∧ Vfr m IA σ σ1 ∧ σ1.1 (IA + 4 + 9 * m) 11 = σ.1 (IA + 4 + 9 * m) 11 ∧ ∃ t, L1 = L ++ t := by
  have h122 : ¬ (IA + 4 + 9 * m + 8 = 122) := by
    have hIA0 := hV.2.1.1
    have h60 := (IC_M hV.2.1 hm).1
    clear hV hx ho
    omega
  obtain ⟨bb, hbF, hbb⟩ := c_begins hV hm hx
  have hV0 := hV
  obtain ⟨⟨hV1, hW⟩, h, hB, hRw, hGO, hRl, hct, hLs, hnd, hmem⟩ := hV
  have hM := d_Mc h hm
  have hIA := h.1
  have h6 := (IC_M h hm).1
  obtain ⟨hl, hl1, hl2⟩ := IC_ln h hm
  have hc3 : cref SHc 120 3 = 122 := by decide
  -- nothing happens
  have triv : ∀ b, (b = true → Rch im m R z o) → (∀ Q, LeQ R Q → Rch im m Q z o → b = true) → F_Vf_reach 120 x (encO o) σ = some (b, σ) → ∃ b σ1 R1 L1, F_Vf_reach 120 x (encO o) σ = some (b, σ1) ∧ VS im m IA σ1 R1 L1 ∧ LeQ R R1 ∧ (b = true → Rch im m R1 z o) ∧ (∀ Q, LeQ R Q → Rch im m Q z o → b = true ∧ LeQ R1 Q) ∧ Vfr m IA σ σ1 ∧ σ1.1 (IA + 4 + 9 * m) 11 = σ.1 (IA + 4 + 9 * m) 11 ∧ ∃ t, L1 = L ++ t := by
    intro b hb1 hb2 hb3
    exact ⟨b, σ, R, L, hb3, hV0, LeQ_refl _, hb1, fun Q a c => ⟨hb2 Q a c, a⟩, Vfr_refl _ _ _, rfl, [], by simp⟩
  cases bb with
  | false =>
    refine triv false (fun e => by cases e) (fun Q _ hr => ?_) ?_
    · obtain ⟨q, e, hb, -⟩ := hr
      exact hbb.mpr ⟨q, e, hb⟩
    · simp (disch := omega) only [F_Vf_reach, F_Vf_reach_13, hbF, if_neg, ite_true, ite_false, if_true, if_false, Bool.false_eq_true, and_self, and_true, true_and, and_false, false_and]
  | true =>
    obtain ⟨q, hq, hbeg⟩ := hbb.mp rfl
    have hql := hbeg.1
    have hxq : x = Int32.ofNat q := by
      apply Int32.toInt_inj.mp
      rw [n_int (by omega), hx, hq]
    subst hxq
    cases o with
    | none =>
      refine triv false (fun e => by cases e) (fun Q _ hr => ?_) ?_
      · obtain ⟨q, -, -, hn, -⟩ := hr
        exact absurd rfl hn
      · simp (disch := omega) only [F_Vf_reach, F_Vf_reach_13, hbF, lit32, if_pos, encO, ite_true, ite_false, if_true, if_false, Bool.false_eq_true, and_self, and_true, true_and, and_false, false_and]
    | some l =>
      have hne : ¬ (encO (some l) = -Int32.ofNat 1) := fun e => by
        have := (encO_none ho).mp e
        cases this
      have hrow := hRw q hql
      cases hR : R q with
      | some l1 =>
        have hne1 : ¬ (encO (R q) = -Int32.ofNat 1) := fun e => by
          have := (encO_none (hGO q)).mp e
          rw [hR] at this
          cases this
        have hiff : encO (R q) = encO (some l) ↔ R q = some l := encO_inj (hGO q) ho
        by_cases e : R q = some l
        · have e1 := hiff.mpr e
          refine triv true (fun _ => ⟨q, hq, hbeg, by simp, e⟩) (fun _ _ _ => rfl) ?_
          rw [e1] at hrow
          simp (disch := omega) only [F_Vf_reach, F_Vf_reach_46, hbF, lit32, if_pos, if_neg, hne, hW, hM, n_nl0, n_cl, false_or, cM10 hM, hrow, ite_true, ite_false, if_true, if_false, Bool.false_eq_true, and_self, and_true, true_and, and_false, false_and]
        · have e1 : ¬ (encO (R q) = encO (some l)) := fun z => e (hiff.mp z)
          refine triv false (fun e => by cases e) (fun Q hQ hr => ?_) ?_
          · obtain ⟨q', e', -, -, hr⟩ := hr
            have e'' : q' = q := by omega
            rw [e'', hQ q l1 hR] at hr
            rw [hR] at e
            exact absurd hr e
          · simp (disch := omega) only [F_Vf_reach, F_Vf_reach_46, hbF, lit32, if_pos, if_neg, hne, hW, hM, n_nl0, n_cl, false_or, cM10 hM, hrow, hne1, e1, ite_true, ite_false, if_true, if_false, Bool.false_eq_true, and_self, and_true, true_and, and_false, false_and]
      | none =>
        have hnm : q ∉ L := fun z => (hmem q).mp z hR
        have hlen : L.length + 1 ≤ 100 := by
          have h1 := nodup_len (im 14 m) (q :: L) (List.nodup_cons.mpr ⟨hnm, hnd⟩) (fun x hx => by
            rcases List.mem_cons.mp hx with rfl | hx
            · exact hql
            · exact hRl x ((hmem x).mp hx))
          rw [List.length_cons] at h1
          omega
        rw [hR] at hrow
        refine ⟨true, setI (setA (setA σ (IA + 4 + 9 * m + 8) q (encO (some l))) 122 L.length (Int32.ofNat q)) 120 4 (Int32.ofNat (L.length + 1)), fun p => if p = q then some l else R p, L ++ [q], ?_, ?_, ?_, ?_, ?_, ?_, ?_, [q], rfl⟩
        · have hr2 : encO none = -Int32.ofNat 1 := rfl
          rw [hr2] at hrow
          simp (disch := omega) only [F_Vf_reach, hbF, lit32, if_pos, if_neg, hne, hW, hM, n_nl0, n_cl, false_or, cM10 hM, hrow, hct, n_lt, stl_e, rA1, rA3, rA, rI, hc3, n_add, ite_true, ite_false, if_true, if_false, Bool.false_eq_true, and_self, and_true, true_and, and_false, false_and]
        · refine ⟨⟨hV1, hW⟩, ?_, ?_, ?_, ?_, ?_, ?_, ?_, ?_, ?_⟩
          · refine ImC_vfr (m := m) h hm ⟨rfl, rfl, rfl, fun x f h1 h2 => ?_, fun x f h1 h2 => ?_⟩
            · rw [rI, if_neg h1]; rfl
            · simp (disch := omega) only [rI2, rA, if_neg, ite_true, ite_false, if_true, if_false, Bool.false_eq_true, and_self, and_true, true_and, and_false, false_and]
          · intro p hp
            have e : (setI (setA (setA σ (IA + 4 + 9 * m + 8) q (encO (some l))) 122 L.length (Int32.ofNat q)) 120 4 (Int32.ofNat (L.length + 1))).2.2.2.1 121 p = σ.2.2.2.1 121 p := by
              simp (disch := omega) only [rI2, rA, if_neg, ite_true, ite_false, if_true, if_false, Bool.false_eq_true, and_self, and_true, true_and, and_false, false_and]
            rw [e]
            exact hB p hp
          · intro p hp
            by_cases c : p = q
            · simp (disch := omega) only [rI2, rA, if_neg, if_pos, c, ite_true, ite_false, if_true, if_false, Bool.false_eq_true, and_self, and_true, true_and, and_false, false_and]
            · have e : (setI (setA (setA σ (IA + 4 + 9 * m + 8) q (encO (some l))) 122 L.length (Int32.ofNat q)) 120 4 (Int32.ofNat (L.length + 1))).2.2.2.1 (IA + 4 + 9 * m + 8) p = σ.2.2.2.1 (IA + 4 + 9 * m + 8) p := by
                rw [rI2, rA, if_neg (fun z => h122 z.1), rA, if_neg (fun z => c z.2)]
              rw [e]
              simp only [c, if_false]
              exact hRw p hp
          · intro p
            by_cases c : p = q
            · simp only [c, if_true]
              exact ho
            · simp only [c, if_false]
              exact hGO p
          · intro p
            by_cases c : p = q
            · intro _
              rw [c]
              exact hql
            · simp only [c, if_false]
              exact hRl p
          · simp (disch := omega) only [rI, if_pos, List.length_append, List.length_cons, List.length_nil, ite_true, ite_false, if_true, if_false, Bool.false_eq_true, and_self, and_true, true_and, and_false, false_and]
          · intro i hi
            rw [List.length_append, List.length_cons, List.length_nil] at hi
            by_cases c : i = L.length
            · simp (disch := omega) only [rI2, rA, if_pos, c, ite_true, ite_false, if_true, if_false, Bool.false_eq_true, and_self, and_true, true_and, and_false, false_and]
              simp
            · simp (disch := omega) only [rI2, rA, if_neg, ite_true, ite_false, if_true, if_false, Bool.false_eq_true, and_self, and_true, true_and, and_false, false_and]
              rw [hLs i (by omega)]
              congr 1
              simp [List.getD_eq_getElem?_getD, List.getElem?_append, show i < L.length by omega]
          · rw [List.nodup_append]
            refine ⟨hnd, by simp, ?_⟩
            intro a ha b hb
            rw [List.mem_singleton] at hb
            rw [hb]
            intro e
            rw [e] at ha
            exact hnm ha
          · intro p
            rw [List.mem_append, List.mem_singleton]
            by_cases c : p = q
            · simp [c]
            · simp only [c, or_false, if_false]
              exact hmem p
        · intro p l' hp
          by_cases c : p = q
          · rw [c, hR] at hp
            cases hp
          · simp only [c, if_false]
            exact hp
        · intro _
          exact ⟨q, hq, hbeg, by simp, by simp⟩
        · intro Q hQ hr
          refine ⟨rfl, fun p l' hp => ?_⟩
          by_cases c : p = q
          · simp only [c, if_true] at hp
            obtain ⟨q', e', -, -, hr⟩ := hr
            have e'' : q' = q := by omega
            rw [e''] at hr
            rw [c, hr]
            exact hp
          · simp only [c, if_false] at hp
            exact hQ p l' hp
        · refine ⟨rfl, rfl, rfl, fun x f h1 h2 => ?_, fun x f h1 h2 => ?_⟩
          · rw [rI, if_neg h1]; rfl
          · simp (disch := omega) only [rI2, rA, if_neg, ite_true, ite_false, if_true, if_false, Bool.false_eq_true, and_self, and_true, true_and, and_false, false_and]
        · simp (disch := omega) only [rI, rA1, if_neg, ite_true, ite_false, if_true, if_false, Bool.false_eq_true, and_self, and_true, true_and, and_false, false_and]
