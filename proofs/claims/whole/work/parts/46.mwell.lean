/-! The reference: beginnings and regions. -/
def FvM (m : Nat) (σ σ1 : SG) : Prop := (∀ a f, ¬ (a = 0 ∧ (f = 24 ∨ f = 25 ∨ f = 27)) → σ1.1 a f = σ.1 a f) ∧ (∀ a f, ¬ (a = 0 ∧ f = 26) → σ1.2.1 a f = σ.2.1 a f) ∧ σ1.2.2.1 = σ.2.2.1 ∧ (∀ a f, ¬ ((a = 16 ∨ a = 17) ∧ 100 * m ≤ f ∧ f < 100 * m + 100) → ¬ (a = 19 ∧ f = m) → a ≠ 32 → σ1.2.2.2.1 a f = σ.2.2.2.1 a f) ∧ (∀ a f, ¬ (a = 18 ∧ 100 * m ≤ f ∧ f < 100 * m + 100) → σ1.2.2.2.2 a f = σ.2.2.2.2 a f)
theorem FvM_refl (m : Nat) (σ : SG) : FvM m σ σ := ⟨fun _ _ _ => rfl, fun _ _ _ => rfl, rfl, fun _ _ _ _ _ => rfl, fun _ _ _ => rfl⟩
theorem FvM_trans {m : Nat} {a b c : SG} (h : FvM m a b) (g : FvM m b c) : FvM m a c :=
  ⟨fun x f p => (g.1 x f p).trans (h.1 x f p), fun x f p => (g.2.1 x f p).trans (h.2.1 x f p), g.2.2.1.trans h.2.2.1, fun x f p q r => (g.2.2.2.1 x f p q r).trans (h.2.2.2.1 x f p q r), fun x f p => (g.2.2.2.2 x f p).trans (h.2.2.2.2 x f p)⟩
theorem FM_FvM {m : Nat} {a b : SG} (h : FM m a b) : FvM m a b :=
  ⟨fun x f p => h.1 x f (fun z => p ⟨z.1, by omega⟩), h.2.1, h.2.2.1, fun x f p _ _ => h.2.2.2.1 x f (fun z => p ⟨Or.inr z.1, z.2⟩), h.2.2.2.2⟩
def B0 (im : Im) (m : Nat) (σ : SG) : Prop := RepM σ im ∧ σ.1 0 24 = Int32.ofNat m
theorem RepM_FvM {im : Im} {m : Nat} {σ σ1 : SG} (h : RepM σ im) (hf : FvM m σ σ1) : RepM σ1 im := by
  obtain ⟨h0, h1, h2, h3⟩ := h
  refine ⟨h0, ?_, ?_, fun a k x y => ?_⟩
  · rw [hf.1 _ _ (by omega)]; exact h1
  · rw [hf.1 _ _ (by omega)]; exact h2
  · rw [hf.2.2.2.1 _ _ (by omega) (by omega) (by omega)]; exact h3 a k x y
theorem sp_end {im : Im} {m k fuel : Nat} {σ : SG} (hw : WfI im) (hm : m < im 0 1) (hV : B0 im m σ) (hge : im 14 m ≤ pos im m k) (hpk : pos im m k < 200) (hj : ∀ j, j < k → pos im m j < im 14 m ∧ im 15 (100 * m + pos im m j) ≤ 37) (hz : ∀ p, p < im 14 m → (zb (σ.2.2.2.1 16 (100 * m + p)) = true ↔ ∃ j, j < k ∧ pos im m j = p)) :
    ∃ b, F_Mo_split_61 (fuel + 1) 0 (Int32.ofNat (pos im m k)) σ = some (b, σ) ∧ (b = true ↔ SpOK im m) ∧ (b = true → ∀ p, p < im 14 m → (zb (σ.2.2.2.1 16 (100 * m + p)) = true ↔ Beg im m p)) := by
  obtain ⟨hR, hN⟩ := hV
  obtain ⟨w1, w2, w3, w4, w5, w6, w7, w8, w9, w10, w11⟩ := wf_m hw hm
  have hl := RepM_A hR 14 m (by omega) (by omega)
  by_cases ce : pos im m k = im 14 m
  · refine ⟨true, ?_, ?_, fun _ p hp => ?_⟩
    · simp (disch := omega) only [F_Mo_split_61, F_Mo_split_113, F_Mo_split_131, hN, lit32, n_nl0, n_cl, false_or, if_neg, cm_18, hl, n_le, n_eq, if_pos, ite_true, ite_false, if_true, if_false, Bool.false_eq_true, and_self, and_true, true_and, and_false, false_and]
    · exact ⟨fun _ => ⟨k, ce, fun j hjk => (hj j hjk).2⟩, fun _ => rfl⟩
    · rw [hz p hp]
      constructor
      · rintro ⟨j, _, e⟩
        exact ⟨hp, j, e⟩
      · rintro ⟨_, j, e⟩
        refine ⟨j, ?_, e⟩
        refine Nat.lt_of_not_le (fun z => ?_)
        rcases Nat.lt_or_ge k j with z2 | z2
        · have := pos_mono im m z2; omega
        · have : k = j := by omega
          rw [this] at ce
          omega
  · refine ⟨false, ?_, ?_, fun e => nomatch e⟩
    · simp (disch := omega) only [F_Mo_split_61, F_Mo_split_113, F_Mo_split_131, hN, lit32, n_nl0, n_cl, false_or, if_neg, cm_18, hl, n_le, n_eq, if_pos, ite_true, ite_false, if_true, if_false, Bool.false_eq_true, and_self, and_true, true_and, and_false, false_and]
    · refine ⟨(fun e => nomatch e), ?_⟩
      rintro ⟨k', e, -⟩
      exfalso
      rcases Nat.lt_trichotomy k k' with z | z | z
      · have := pos_mono im m z; omega
      · rw [z] at ce; exact ce e
      · have := (hj k' z).1
        omega
theorem B0_FvM {im : Im} {m : Nat} {σ σ1 : SG} (h : B0 im m σ) (hf : FvM m σ σ1) (hn : σ1.1 0 24 = σ.1 0 24) : B0 im m σ1 := ⟨RepM_FvM h.1 hf, by rw [hn]; exact h.2⟩
theorem sp_61 {im : Im} {m : Nat} (hw : WfI im) (hm : m < im 0 1) : ∀ c k fuel σ, B0 im m σ → im 14 m ≤ pos im m k + c → pos im m k < 200 → c < fuel → (∀ j, j < k → pos im m j < im 14 m ∧ im 15 (100 * m + pos im m j) ≤ 37) → (∀ p, p < im 14 m → (zb (σ.2.2.2.1 16 (100 * m + p)) = true ↔ ∃ j, j < k ∧ pos im m j = p)) →
    ∃ b σ1, F_Mo_split_61 fuel 0 (Int32.ofNat (pos im m k)) σ = some (b, σ1) ∧ (b = true ↔ SpOK im m) ∧ FvM m σ σ1 ∧ σ1.1 = σ.1 ∧ (∀ f, σ1.2.2.2.1 17 f = σ.2.2.2.1 17 f) ∧ σ1.2.2.2.2 = σ.2.2.2.2 ∧ (b = true → ∀ p, p < im 14 m → (zb (σ1.2.2.2.1 16 (100 * m + p)) = true ↔ Beg im m p)) := by
  obtain ⟨w1, w2, w3, w4, w5, w6, w7, w8, w9, w10, w11⟩ := wf_m hw hm
  intro c
  induction c with
  | zero =>
    intro k fuel σ hV hc hpk hf hj hz
    obtain ⟨fuel, rfl⟩ : ∃ x, fuel = x + 1 := ⟨fuel - 1, by omega⟩
    obtain ⟨b, h1, h2, h3⟩ := sp_end (fuel := fuel) hw hm hV (by omega) hpk hj hz
    exact ⟨b, σ, h1, h2, FvM_refl _ _, rfl, fun _ => rfl, rfl, h3⟩
  | succ c ih =>
    intro k fuel σ hV hc hpk hf hj hz
    obtain ⟨fuel, rfl⟩ : ∃ x, fuel = x + 1 := ⟨fuel - 1, by omega⟩
    by_cases hge : im 14 m ≤ pos im m k
    · obtain ⟨b, h1, h2, h3⟩ := sp_end (fuel := fuel) hw hm hV hge hpk hj hz
      exact ⟨b, σ, h1, h2, FvM_refl _ _, rfl, fun _ => rfl, rfl, h3⟩
    · obtain ⟨hR, hN⟩ := id hV
      have hl := RepM_A hR 14 m (by omega) (by omega)
      have hcd := RepM_A hR 15 (100 * m + pos im m k) (by omega) (by omega)
      have hcb := RepM_b hR 15 (100 * m + pos im m k)
      have hop : F_Mo_op 0 (Int32.ofNat (pos im m k)) σ = some (Int32.ofNat (im 15 (100 * m + pos im m k)), σ) := by
        simp (disch := omega) only [F_Mo_op, hN, lit32, n_mul, n_add, n_nl0, n_cl, false_or, if_neg, cm_19, hcd, ite_true, ite_false, if_true, if_false, Bool.false_eq_true, and_self, and_true, true_and, and_false, false_and]
      by_cases ck : im 15 (100 * m + pos im m k) ≤ 37
      · have hfr : FvM m σ (setA σ 16 (100 * m + pos im m k) (Int32.ofNat 1)) := ⟨fun _ _ _ => rfl, fun _ _ _ => rfl, rfl, fun a f h1 _ _ => by rw [rA, if_neg (by omega)], fun _ _ _ => rfl⟩
        have hV1 : B0 im m (setA σ 16 (100 * m + pos im m k) (Int32.ofNat 1)) := B0_FvM hV hfr rfl
        have hcd1 := RepM_A hV1.1 15 (100 * m + pos im m k) (by omega) (by omega)
        have hop1 : F_Mo_op 0 (Int32.ofNat (pos im m k)) (setA σ 16 (100 * m + pos im m k) (Int32.ofNat 1)) = some (Int32.ofNat (im 15 (100 * m + pos im m k)), setA σ 16 (100 * m + pos im m k) (Int32.ofNat 1)) := by
          simp (disch := omega) only [F_Mo_op, hV1.2, lit32, n_mul, n_add, n_nl0, n_cl, false_or, if_neg, cm_19, hcd1, ite_true, ite_false, if_true, if_false, Bool.false_eq_true, and_self, and_true, true_and, and_false, false_and]
        have hwb := m_bytes (op := im 15 (100 * m + pos im m k)) (by omega) (setA σ 16 (100 * m + pos im m k) (Int32.ofNat 1))
        have hw2 := wdt_2 (im 15 (100 * m + pos im m k))
        have hps : pos im m (k + 1) = pos im m k + wdt (im 15 (100 * m + pos im m k)) := rfl
        obtain ⟨b, σ1, g1, g2, g3, g4, g5, g6, g7⟩ := ih (k + 1) fuel (setA σ 16 (100 * m + pos im m k) (Int32.ofNat 1)) hV1 (by omega) (by omega) (by omega) (fun j hj1 => by
          by_cases e : j = k
          · rw [e]; exact ⟨by omega, ck⟩
          · exact hj j (by omega)) (fun p hp => by
          rw [rA]
          by_cases e : p = pos im m k
          · rw [if_pos ⟨rfl, by omega⟩]
            refine ⟨fun _ => ⟨k, by omega, e.symm⟩, fun _ => zb1⟩
          · rw [if_neg (by omega), hz p hp]
            constructor
            · rintro ⟨j, a, b⟩
              exact ⟨j, by omega, b⟩
            · rintro ⟨j, a, b⟩
              refine ⟨j, ?_, b⟩
              by_cases e2 : j = k
              · rw [e2] at b
                exact absurd b.symm e
              · omega)
        refine ⟨b, σ1, ?_, g2, FvM_trans hfr g3, g4, fun f => ?_, g6, g7⟩
        · rw [hps] at g1
          simp (disch := omega) only [F_Mo_split_61, hN, lit32, n_nl0, n_cl, false_or, if_neg, cm_18, hl, n_le, hop, n_lt, n_mul, n_add, cm_20, bzt, stl_e, hop1, hwb, g1, ite_true, ite_false, if_true, if_false, Bool.false_eq_true, and_self, and_true, true_and, and_false, false_and]
        · rw [g5 f, rA, if_neg (by omega)]
      · refine ⟨false, σ, ?_, ?_, FvM_refl _ _, rfl, fun _ => rfl, rfl, fun e => nomatch e⟩
        · simp (disch := omega) only [F_Mo_split_61, F_Mo_split_113, F_Mo_split_131, hN, lit32, n_nl0, n_cl, false_or, if_neg, cm_18, hl, n_le, hop, n_lt, if_pos, n_eq, ite_true, ite_false, if_true, if_false, Bool.false_eq_true, and_self, and_true, true_and, and_false, false_and]
        · refine ⟨(fun e => nomatch e), ?_⟩
          rintro ⟨k', e, hall⟩
          exfalso
          rcases Nat.lt_or_ge k k' with z | z
          · exact ck (hall k z)
          · rcases Nat.lt_or_ge k' k with z2 | z2
            · have := (hj k' z2).1
              omega
            · have : k' = k := by omega
              rw [this] at e
              omega
theorem sp_2 {im : Im} {m : Nat} (hw : WfI im) (hm : m < im 0 1) : ∀ c i fuel σ, B0 im m σ → i + c = 100 → c < fuel → (∀ p, p < i → zb (σ.2.2.2.1 16 (100 * m + p)) = false ∧ σ.2.2.2.1 17 (100 * m + p) = -Int32.ofNat 1) →
    ∃ b σ1, F_Mo_split_2 fuel 0 (Int32.ofNat i) σ = some (b, σ1) ∧ (b = true ↔ SpOK im m) ∧ FvM m σ σ1 ∧ σ1.1 = σ.1 ∧ RS im m σ1 (fun _ => none) ∧ (b = true → ∀ p, p < im 14 m → (zb (σ1.2.2.2.1 16 (100 * m + p)) = true ↔ Beg im m p)) := by
  obtain ⟨w1, w2, w3, w4, w5, w6, w7, w8, w9, w10, w11⟩ := wf_m hw hm
  intro c
  induction c with
  | zero =>
    intro i fuel σ hV hi hf hz
    obtain ⟨fuel, rfl⟩ : ∃ x, fuel = x + 1 := ⟨fuel - 1, by omega⟩
    obtain ⟨b, σ1, g1, g2, g3, g4, g5, g6, g7⟩ := sp_61 hw hm (im 14 m) 0 5000 σ hV (by omega) (by show 0 < 200; omega) (by omega) (fun j hj => by omega) (fun p hp => by
      rw [(hz p (by omega)).1]
      refine ⟨(fun e => nomatch e), ?_⟩
      rintro ⟨j, a, -⟩
      omega)
    have g1' : F_Mo_split_61 5000 0 (Int32.ofNat 0) σ = some (b, σ1) := g1
    refine ⟨b, σ1, ?_, g2, g3, g4, ⟨fun p hp => ⟨?_, fun l e => nomatch e⟩, (fun p l e => nomatch e), (fun p e => absurd rfl e)⟩, g7⟩
    · simp (disch := omega) only [F_Mo_split_2, lit32, n_le, if_pos, g1', ite_true, ite_false, if_true, if_false, Bool.false_eq_true, and_self, and_true, true_and, and_false, false_and]
    · rw [g5]
      exact (hz p (by omega)).2
  | succ c ih =>
    intro i fuel σ hV hi hf hz
    obtain ⟨fuel, rfl⟩ : ∃ x, fuel = x + 1 := ⟨fuel - 1, by omega⟩
    have hN := hV.2
    have hfr : FvM m σ (setL (setA (setA σ 16 (100 * m + i) (Int32.ofNat 0)) 17 (100 * m + i) (-Int32.ofNat 1)) 18 (100 * m + i) (Int64.ofNat 0)) := by
      refine ⟨fun _ _ _ => rfl, fun _ _ _ => rfl, rfl, fun a f h1 _ _ => ?_, fun a f h1 => ?_⟩
      · rw [rL4, rA, if_neg (by omega), rA, if_neg (by omega)]
      · rw [rL, if_neg (by omega)]; rfl
    obtain ⟨b, σ1, g1, g2, g3, g4, g5, g6⟩ := ih (i + 1) fuel _ (B0_FvM hV hfr rfl) (by omega) (by omega) (fun p hp => by
      by_cases e : p = i
      · refine ⟨?_, ?_⟩
        · rw [rL4, rA, if_neg (by omega), rA, if_pos ⟨rfl, by omega⟩]; exact zb0
        · rw [rL4, rA, if_pos ⟨rfl, by omega⟩]
      · refine ⟨?_, ?_⟩
        · rw [rL4, rA, if_neg (by omega), rA, if_neg (by omega)]; exact (hz p (by omega)).1
        · rw [rL4, rA, if_neg (by omega), rA, if_neg (by omega)]; exact (hz p (by omega)).2)
    refine ⟨b, σ1, ?_, g2, FvM_trans hfr g3, g4, g5, g6⟩
    simp (disch := omega) only [F_Mo_split_2, lit32, lit64n, n_le, if_neg, hN, n_mul, n_add, n_nl0, n_cl, false_or, cm_20, cm_21, cm_22, bzf, stl_e, rA1, g1, ite_true, ite_false, if_true, if_false, Bool.false_eq_true, and_self, and_true, true_and, and_false, false_and]
theorem m_split {im : Im} {m : Nat} {σ : SG} (hw : WfI im) (hm : m < im 0 1) (hV : B0 im m σ) : ∃ b σ1, F_Mo_split 0 σ = some (b, σ1) ∧ (b = true ↔ SpOK im m) ∧ FvM m σ σ1 ∧ σ1.1 = σ.1 ∧ RS im m σ1 (fun _ => none) ∧ (b = true → ∀ p, p < im 14 m → (zb (σ1.2.2.2.1 16 (100 * m + p)) = true ↔ Beg im m p)) := by
  obtain ⟨b, σ1, g1, g2⟩ := sp_2 hw hm 100 0 5000 σ hV (by omega) (by omega) (fun p hp => by omega)
  refine ⟨b, σ1, ?_, g2⟩
  simp (disch := omega) only [F_Mo_split, lit32, g1, ite_true, ite_false, if_true, if_false, Bool.false_eq_true, and_self, and_true, true_and, and_false, false_and]
/-- regions -/
theorem w_step {im : Im} {m i j fuel : Nat} {σ : SG} {x1 : Bool} {rec9 : Nat → Bool → Int32 → SG → Option (Bool × SG)} (hw : WfI im) (hm : m < im 0 1) (h : BM im m σ) (hi : i < im 9 m) (hj : j < im 9 m) :
    ∃ b : Bool, (b = true ↔ x1 = true ∧ wm2 im m i j) ∧ F_Mo_wellMade_158 rec9 (fuel + 1) 0 x1 (Int32.ofNat (3 * m + i)) (Int32.ofNat (3 * m + j)) σ = F_Mo_wellMade_158 rec9 fuel 0 b (Int32.ofNat (3 * m + i)) (Int32.ofNat (3 * m + (j + 1))) σ := by
  obtain ⟨n1, n2, n3, n4⟩ := m_now hw hm h
  obtain ⟨w1, w2, w3, w4, w5, w6, w7, w8, w9, w10, w11⟩ := wf_m hw hm
  obtain ⟨bi1, bi2, bi3, bi4⟩ := w8 i hi
  obtain ⟨bj1, bj2, bj3, bj4⟩ := w8 j hj
  have i1 := RepM_A h.1 10 (3 * m + i) (by omega) (by omega)
  have i2 := RepM_A h.1 11 (3 * m + i) (by omega) (by omega)
  have i3 := RepM_A h.1 12 (3 * m + i) (by omega) (by omega)
  have j1 := RepM_A h.1 10 (3 * m + j) (by omega) (by omega)
  have j2 := RepM_A h.1 11 (3 * m + j) (by omega) (by omega)
  have j3 := RepM_A h.1 12 (3 * m + j) (by omega) (by omega)
  generalize hrec : F_Mo_wellMade_158 rec9 fuel = rc
  have h280 : ∀ x y z : Bool, F_Mo_wellMade_280 rec9 rc 0 x (Int32.ofNat (3 * m + i)) (Int32.ofNat (3 * m + j)) y z σ = rc 0 (x && (y || z)) (Int32.ofNat (3 * m + i)) (Int32.ofNat (3 * m + (j + 1))) σ := by
    intro x y z
    cases x <;> cases y <;> cases z <;> simp (disch := omega) only [F_Mo_wellMade_280, F_Mo_wellMade_296, F_Mo_wellMade_300, F_Mo_wellMade_301, if_pos, if_neg, lit32, n_add, Nat.add_assoc, Bool.and_true, Bool.and_false, Bool.or_true, Bool.or_false, Bool.true_or, Bool.false_and, ite_true, ite_false, if_true, if_false, Bool.false_eq_true, and_self, and_true, true_and, and_false, false_and]
  have h245 : ∀ x y : Bool, F_Mo_wellMade_245 rec9 rc 0 x (Int32.ofNat (3 * m + i)) (Int32.ofNat (3 * m + j)) y σ = rc 0 (x && (y || decide (im 11 (3 * m + j) ≤ im 10 (3 * m + i) ∧ im 12 (3 * m + i) ≤ im 12 (3 * m + j)))) (Int32.ofNat (3 * m + i)) (Int32.ofNat (3 * m + (j + 1))) σ := by
    intro x y
    by_cases c : im 10 (3 * m + i) < im 11 (3 * m + j)
    · rw [decide_eq_false (by omega)]
      simp (disch := omega) only [F_Mo_wellMade_245, F_Mo_wellMade_279, lit32, n_nl0, n_cl, false_or, if_neg, cm_14, cm_15, i1, j2, n_lt, if_pos, h280, ite_true, ite_false, if_true, if_false, Bool.false_eq_true, and_self, and_true, true_and, and_false, false_and]
    · by_cases c2 : im 12 (3 * m + j) < im 12 (3 * m + i)
      · rw [decide_eq_false (by omega)]
        simp (disch := omega) only [F_Mo_wellMade_245, F_Mo_wellMade_279, lit32, n_nl0, n_cl, false_or, if_neg, cm_14, cm_15, cm_16, i1, j2, i3, j3, n_lt, if_pos, h280, ite_true, ite_false, if_true, if_false, Bool.false_eq_true, and_self, and_true, true_and, and_false, false_and]
      · rw [decide_eq_true (by omega)]
        simp (disch := omega) only [F_Mo_wellMade_245, F_Mo_wellMade_275, lit32, n_nl0, n_cl, false_or, if_neg, cm_14, cm_15, cm_16, i1, j2, i3, j3, n_lt, h280, ite_true, ite_false, if_true, if_false, Bool.false_eq_true, and_self, and_true, true_and, and_false, false_and]
  have h213 : ∀ x y : Bool, F_Mo_wellMade_213 rec9 rc 0 x (Int32.ofNat (3 * m + i)) (Int32.ofNat (3 * m + j)) y σ = rc 0 (x && (y || (decide (im 10 (3 * m + j) ≤ im 10 (3 * m + i) ∧ im 12 (3 * m + i) ≤ im 11 (3 * m + j)) || decide (im 11 (3 * m + j) ≤ im 10 (3 * m + i) ∧ im 12 (3 * m + i) ≤ im 12 (3 * m + j))))) (Int32.ofNat (3 * m + i)) (Int32.ofNat (3 * m + (j + 1))) σ := by
    intro x y
    by_cases c : im 10 (3 * m + i) < im 10 (3 * m + j)
    · rw [decide_eq_false (p := im 10 (3 * m + j) ≤ im 10 (3 * m + i) ∧ im 12 (3 * m + i) ≤ im 11 (3 * m + j)) (by omega)]
      simp (disch := omega) only [F_Mo_wellMade_213, lit32, n_nl0, n_cl, false_or, if_neg, cm_14, i1, j1, n_lt, if_pos, h245, Bool.false_or, ite_true, ite_false, if_true, if_false, Bool.false_eq_true, and_self, and_true, true_and, and_false, false_and]
    · by_cases c2 : im 12 (3 * m + i) ≤ im 11 (3 * m + j)
      · rw [decide_eq_true (p := im 10 (3 * m + j) ≤ im 10 (3 * m + i) ∧ im 12 (3 * m + i) ≤ im 11 (3 * m + j)) (by omega)]
        simp (disch := omega) only [F_Mo_wellMade_213, F_Mo_wellMade_275, lit32, n_nl0, n_cl, false_or, if_neg, cm_14, cm_15, cm_16, i1, j1, i3, j2, n_lt, n_le, if_pos, h280, Bool.true_or, ite_true, ite_false, if_true, if_false, Bool.false_eq_true, and_self, and_true, true_and, and_false, false_and]
      · rw [decide_eq_false (p := im 10 (3 * m + j) ≤ im 10 (3 * m + i) ∧ im 12 (3 * m + i) ≤ im 11 (3 * m + j)) (by omega)]
        simp (disch := omega) only [F_Mo_wellMade_213, lit32, n_nl0, n_cl, false_or, if_neg, cm_14, cm_15, cm_16, i1, j1, i3, j2, n_lt, n_le, h245, Bool.false_or, ite_true, ite_false, if_true, if_false, Bool.false_eq_true, and_self, and_true, true_and, and_false, false_and]
  have hap : ∀ ap : Bool, (ap = true ↔ im 12 (3 * m + i) ≤ im 10 (3 * m + j) ∨ im 12 (3 * m + j) ≤ im 10 (3 * m + i)) → ((x1 && (ap || (decide (im 10 (3 * m + j) ≤ im 10 (3 * m + i) ∧ im 12 (3 * m + i) ≤ im 11 (3 * m + j)) || decide (im 11 (3 * m + j) ≤ im 10 (3 * m + i) ∧ im 12 (3 * m + i) ≤ im 12 (3 * m + j))))) = true ↔ x1 = true ∧ wm2 im m i j) := by
    intro ap ha
    rw [Bool.and_eq_true, Bool.or_eq_true, Bool.or_eq_true, ha, decide_eq_true_eq, decide_eq_true_eq]
    rfl
  by_cases c : im 12 (3 * m + i) ≤ im 10 (3 * m + j)
  · refine ⟨_, hap true ⟨fun _ => Or.inl c, fun _ => rfl⟩, ?_⟩
    simp (disch := omega) only [F_Mo_wellMade_158, F_Mo_wellMade_208, hrec, n1, lit32, n_nl0, n_cl, false_or, if_neg, cm_13, n3, n_mul, n_add, n_le, cm_14, cm_16, i3, j1, if_pos, h213, ite_true, ite_false, if_true, if_false, Bool.false_eq_true, and_self, and_true, true_and, and_false, false_and]
  · by_cases c2 : im 10 (3 * m + i) < im 12 (3 * m + j)
    · refine ⟨_, hap false ⟨(fun e => nomatch e), fun w => by omega⟩, ?_⟩
      simp (disch := omega) only [F_Mo_wellMade_158, F_Mo_wellMade_208, hrec, n1, lit32, n_nl0, n_cl, false_or, if_neg, cm_13, n3, n_mul, n_add, n_le, n_lt, cm_14, cm_16, i3, j1, i1, j3, if_pos, h213, ite_true, ite_false, if_true, if_false, Bool.false_eq_true, and_self, and_true, true_and, and_false, false_and]
    · refine ⟨_, hap true ⟨fun _ => Or.inr (by omega), fun _ => rfl⟩, ?_⟩
      simp (disch := omega) only [F_Mo_wellMade_158, F_Mo_wellMade_208, hrec, n1, lit32, n_nl0, n_cl, false_or, if_neg, cm_13, n3, n_mul, n_add, n_le, n_lt, cm_14, cm_16, i3, j1, i1, j3, if_pos, h213, ite_true, ite_false, if_true, if_false, Bool.false_eq_true, and_self, and_true, true_and, and_false, false_and]
theorem w_158 {im : Im} {m i : Nat} {σ : SG} {rec9 : Nat → Bool → Int32 → SG → Option (Bool × SG)} {P : Prop} (hw : WfI im) (hm : m < im 0 1) (h : BM im m σ) (hi : i < im 9 m) (hrec : ∀ x1, ∃ b, rec9 0 x1 (Int32.ofNat (3 * m + (i + 1))) σ = some (b, σ) ∧ (b = true ↔ x1 = true ∧ P)) : ∀ c j fuel x1, j + c = im 9 m → c < fuel →
    ∃ b, F_Mo_wellMade_158 rec9 fuel 0 x1 (Int32.ofNat (3 * m + i)) (Int32.ofNat (3 * m + j)) σ = some (b, σ) ∧ (b = true ↔ (x1 = true ∧ ∀ q, j ≤ q → q < im 9 m → wm2 im m i q) ∧ P) := by
  obtain ⟨n1, n2, n3, n4⟩ := m_now hw hm h
  intro c
  induction c with
  | zero =>
    intro j fuel x1 hj hf
    obtain ⟨fuel, rfl⟩ : ∃ x, fuel = x + 1 := ⟨fuel - 1, by omega⟩
    obtain ⟨b, hF, hb⟩ := hrec x1
    refine ⟨b, ?_, ?_⟩
    · rw [← hF]
      simp (disch := omega) only [F_Mo_wellMade_158, n1, lit32, n_nl0, n_cl, false_or, if_neg, cm_13, n3, n_mul, n_add, n_le, if_pos, Nat.add_assoc, ite_true, ite_false, if_true, if_false, Bool.false_eq_true, and_self, and_true, true_and, and_false, false_and]
    · rw [hb]
      exact ⟨fun z => ⟨⟨z.1, fun q a b => by omega⟩, z.2⟩, fun z => ⟨z.1.1, z.2⟩⟩
  | succ c ih =>
    intro j fuel x1 hj hf
    obtain ⟨fuel, rfl⟩ : ∃ x, fuel = x + 1 := ⟨fuel - 1, by omega⟩
    obtain ⟨b0, hb0, hF0⟩ := w_step (rec9 := rec9) (fuel := fuel) (x1 := x1) hw hm h hi (show j < im 9 m by omega)
    obtain ⟨b, hF, hb⟩ := ih (j + 1) fuel b0 (by omega) (by omega)
    refine ⟨b, hF0.trans hF, ?_⟩
    rw [hb, hb0]
    constructor
    · rintro ⟨⟨⟨a, b⟩, c⟩, d⟩
      refine ⟨⟨a, fun q x y => ?_⟩, d⟩
      by_cases e : q = j
      · rw [e]; exact b
      · exact c q (by omega) y
    · rintro ⟨⟨a, b⟩, d⟩
      exact ⟨⟨⟨a, b j (by omega) (by omega)⟩, fun q x y => b q (by omega) y⟩, d⟩
theorem w_86 {im : Im} {m i : Nat} {σ : SG} {r9 : Nat → Bool → Int32 → SG → Option (Bool × SG)} {G : Bool → Option (Bool × SG)} {b1 b2 b3 : Bool} (hw : WfI im) (hm : m < im 0 1) (h : BM im m σ) (hi : i < im 9 m) (hG : ∀ b, F_Mo_wellMade_153 r9 0 (Int32.ofNat (3 * m + i)) b σ = G b)
    (f1 : F_Mo_isBeginning 0 (Int32.ofNat (im 10 (3 * m + i))) σ = some (b1, σ)) (f2 : F_Mo_isBeginning 0 (Int32.ofNat (im 11 (3 * m + i))) σ = some (b2, σ)) (f3 : F_Mo_isBeginning 0 (Int32.ofNat (im 12 (3 * m + i))) σ = some (b3, σ)) (z : Bool) :
    F_Mo_wellMade_86 r9 0 (Int32.ofNat (3 * m + i)) z σ = G (z && (b1 && (b2 && (decide (im 12 (3 * m + i) = im 14 m) || b3)))) := by
  obtain ⟨n1, n2, n3, n4⟩ := m_now hw hm h
  obtain ⟨w1, w2, w3, w4, w5, w6, w7, w8, w9, w10, w11⟩ := wf_m hw hm
  obtain ⟨bi1, bi2, bi3, bi4⟩ := w8 i hi
  have i1 := RepM_A h.1 10 (3 * m + i) (by omega) (by omega)
  have i2 := RepM_A h.1 11 (3 * m + i) (by omega) (by omega)
  have i3 := RepM_A h.1 12 (3 * m + i) (by omega) (by omega)
  have hl := RepM_A h.1 14 m (by omega) (by omega)
  have g148 : F_Mo_wellMade_148 r9 0 (Int32.ofNat (3 * m + i)) σ = G true := hG true
  have g152 : F_Mo_wellMade_152 r9 0 (Int32.ofNat (3 * m + i)) σ = G false := hG false
  by_cases ce : im 12 (3 * m + i) = im 14 m
  · rw [decide_eq_true ce]
    cases z <;> cases b1 <;> cases b2 <;> simp (disch := omega) only [F_Mo_wellMade_86, g148, g152, if_pos, if_neg, lit32, n_nl0, n_cl, false_or, cm_14, cm_15, cm_16, cm_18, i1, i2, i3, f1, f2, n1, hl, n_eq, Bool.and_true, Bool.and_false, Bool.true_and, Bool.false_and, Bool.true_or, ite_true, ite_false, if_true, if_false, Bool.false_eq_true, and_self, and_true, true_and, and_false, false_and]
  · rw [decide_eq_false ce]
    cases z <;> cases b1 <;> cases b2 <;> cases b3 <;> simp (disch := omega) only [F_Mo_wellMade_86, g148, g152, if_pos, if_neg, lit32, n_nl0, n_cl, false_or, cm_14, cm_15, cm_16, cm_18, i1, i2, i3, f1, f2, f3, n1, hl, n_eq, Bool.and_true, Bool.and_false, Bool.true_and, Bool.false_and, Bool.false_or, ite_true, ite_false, if_true, if_false, Bool.false_eq_true, and_self, and_true, true_and, and_false, false_and]
theorem w_9s {im : Im} {m i fuel : Nat} {σ : SG} {x1 : Bool} {H : Bool → Option (Bool × SG)} (hw : WfI im) (hm : m < im 0 1) (h : BM im m σ) (hi : i < im 9 m) (hH : ∀ b, F_Mo_wellMade_86 (F_Mo_wellMade_9 fuel) 0 (Int32.ofNat (3 * m + i)) b σ = H b) :
    F_Mo_wellMade_9 (fuel + 1) 0 x1 (Int32.ofNat (3 * m + i)) σ = H (x1 && decide (im 10 (3 * m + i) < im 11 (3 * m + i) ∧ im 11 (3 * m + i) < im 12 (3 * m + i) ∧ im 12 (3 * m + i) ≤ im 14 m)) := by
  obtain ⟨n1, n2, n3, n4⟩ := m_now hw hm h
  obtain ⟨w1, w2, w3, w4, w5, w6, w7, w8, w9, w10, w11⟩ := wf_m hw hm
  obtain ⟨bi1, bi2, bi3, bi4⟩ := w8 i hi
  have i1 := RepM_A h.1 10 (3 * m + i) (by omega) (by omega)
  have i2 := RepM_A h.1 11 (3 * m + i) (by omega) (by omega)
  have i3 := RepM_A h.1 12 (3 * m + i) (by omega) (by omega)
  have hl := RepM_A h.1 14 m (by omega) (by omega)
  have g85 : F_Mo_wellMade_85 (F_Mo_wellMade_9 fuel) 0 (Int32.ofNat (3 * m + i)) σ = H false := hH false
  cases x1 with
  | false => simp (disch := omega) only [F_Mo_wellMade_9, g85, n1, lit32, n_nl0, n_cl, false_or, if_neg, cm_13, n3, n_mul, n_add, n_le, Bool.false_and, ite_true, ite_false, if_true, if_false, Bool.false_eq_true, and_self, and_true, true_and, and_false, false_and]
  | true =>
    by_cases c1 : im 11 (3 * m + i) ≤ im 10 (3 * m + i)
    · rw [decide_eq_false (by omega)]
      simp (disch := omega) only [F_Mo_wellMade_9, g85, n1, lit32, n_nl0, n_cl, false_or, if_neg, if_pos, cm_13, cm_14, cm_15, i1, i2, n3, n_mul, n_add, n_le, Bool.and_false, ite_true, ite_false, if_true, if_false, Bool.false_eq_true, and_self, and_true, true_and, and_false, false_and]
    · by_cases c2 : im 12 (3 * m + i) ≤ im 11 (3 * m + i)
      · rw [decide_eq_false (by omega)]
        simp (disch := omega) only [F_Mo_wellMade_9, g85, n1, lit32, n_nl0, n_cl, false_or, if_neg, if_pos, cm_13, cm_14, cm_15, cm_16, i1, i2, i3, n3, n_mul, n_add, n_le, Bool.and_false, ite_true, ite_false, if_true, if_false, Bool.false_eq_true, and_self, and_true, true_and, and_false, false_and]
      · by_cases c3 : im 14 m < im 12 (3 * m + i)
        · rw [decide_eq_false (by omega)]
          simp (disch := omega) only [F_Mo_wellMade_9, g85, n1, lit32, n_nl0, n_cl, false_or, if_neg, if_pos, cm_13, cm_14, cm_15, cm_16, cm_18, i1, i2, i3, hl, n3, n_mul, n_add, n_le, n_lt, Bool.and_false, ite_true, ite_false, if_true, if_false, Bool.false_eq_true, and_self, and_true, true_and, and_false, false_and]
        · rw [decide_eq_true (by omega)]
          simp (disch := omega) only [F_Mo_wellMade_9, hH, n1, lit32, n_nl0, n_cl, false_or, if_neg, if_pos, cm_13, cm_14, cm_15, cm_16, cm_18, i1, i2, i3, hl, n3, n_mul, n_add, n_le, n_lt, Bool.and_true, ite_true, ite_false, if_true, if_false, Bool.false_eq_true, and_self, and_true, true_and, and_false, false_and]
theorem w_153 {m i : Nat} {σ : SG} {r9 : Nat → Bool → Int32 → SG → Option (Bool × SG)} {y : Bool} : F_Mo_wellMade_153 r9 0 (Int32.ofNat (3 * m + i)) y σ = F_Mo_wellMade_158 r9 5000 0 y (Int32.ofNat (3 * m + i)) (Int32.ofNat (3 * m + (i + 1))) σ := by
  have e : Int32.ofNat (3 * m + i) + (1 : Int32) = Int32.ofNat (3 * m + (i + 1)) := by
    rw [lit32, n_add, Nat.add_assoc]
  unfold F_Mo_wellMade_153
  rw [e]
theorem w_9 {im : Im} {m : Nat} {σ : SG} (hw : WfI im) (hm : m < im 0 1) (h : BM im m σ) : ∀ c i fuel x1, i + c = im 9 m → c < fuel →
    ∃ b, F_Mo_wellMade_9 fuel 0 x1 (Int32.ofNat (3 * m + i)) σ = some (b, σ) ∧ (b = true ↔ x1 = true ∧ ∀ r, i ≤ r → r < im 9 m → wm1 im m r ∧ ∀ q, r < q → q < im 9 m → wm2 im m r q) := by
  obtain ⟨n1, n2, n3, n4⟩ := m_now hw hm h
  obtain ⟨w1, w2, w3, w4, w5, w6, w7, w8, w9, w10, w11⟩ := wf_m hw hm
  intro c
  induction c with
  | zero =>
    intro i fuel x1 hi hf
    obtain ⟨fuel, rfl⟩ : ∃ x, fuel = x + 1 := ⟨fuel - 1, by omega⟩
    refine ⟨x1, ?_, fun z => ⟨z, fun r a b => by omega⟩, fun z => z.1⟩
    simp (disch := omega) only [F_Mo_wellMade_9, n1, lit32, n_nl0, n_cl, false_or, if_neg, cm_13, n3, n_mul, n_add, n_le, if_pos, ite_true, ite_false, if_true, if_false, Bool.false_eq_true, and_self, and_true, true_and, and_false, false_and]
  | succ c ih =>
    intro i fuel x1 hi hf
    obtain ⟨fuel, rfl⟩ : ∃ x, fuel = x + 1 := ⟨fuel - 1, by omega⟩
    obtain ⟨bi1, bi2, bi3, bi4⟩ := w8 i (by omega)
    obtain ⟨b1, f1, k1⟩ := m_isBeg (x := Int32.ofNat (im 10 (3 * m + i))) (z := im 10 (3 * m + i)) hw hm h (n_int (by omega))
    obtain ⟨b2, f2, k2⟩ := m_isBeg (x := Int32.ofNat (im 11 (3 * m + i))) (z := im 11 (3 * m + i)) hw hm h (n_int (by omega))
    obtain ⟨b3, f3, k3⟩ := m_isBeg (x := Int32.ofNat (im 12 (3 * m + i))) (z := im 12 (3 * m + i)) hw hm h (n_int (by omega))
    rw [beg_n] at k1 k2 k3
    have hin : ∀ y, ∃ b, F_Mo_wellMade_153 (F_Mo_wellMade_9 fuel) 0 (Int32.ofNat (3 * m + i)) y σ = some (b, σ) ∧ (b = true ↔ (y = true ∧ ∀ q, i + 1 ≤ q → q < im 9 m → wm2 im m i q) ∧ ∀ r, i + 1 ≤ r → r < im 9 m → wm1 im m r ∧ ∀ q, r < q → q < im 9 m → wm2 im m r q) := by
      intro y
      obtain ⟨b, hF, hb⟩ := w_158 (rec9 := F_Mo_wellMade_9 fuel) (i := i) hw hm h (by omega) (fun x => ih (i + 1) fuel x (by omega) (by omega)) c (i + 1) 5000 y (by omega) (by omega)
      exact ⟨b, w_153.trans hF, hb⟩
    have hFy := w_9s (x1 := x1) hw hm h (show i < im 9 m by omega) (fun b => w_86 hw hm h (show i < im 9 m by omega) (r9 := F_Mo_wellMade_9 fuel) (fun _ => rfl) f1 f2 f3 b)
    obtain ⟨b, hF, hb⟩ := hin ((x1 && decide (im 10 (3 * m + i) < im 11 (3 * m + i) ∧ im 11 (3 * m + i) < im 12 (3 * m + i) ∧ im 12 (3 * m + i) ≤ im 14 m)) && (b1 && (b2 && (decide (im 12 (3 * m + i) = im 14 m) || b3))))
    refine ⟨b, hFy.trans hF, ?_⟩
    have hy : (((x1 && decide (im 10 (3 * m + i) < im 11 (3 * m + i) ∧ im 11 (3 * m + i) < im 12 (3 * m + i) ∧ im 12 (3 * m + i) ≤ im 14 m)) && (b1 && (b2 && (decide (im 12 (3 * m + i) = im 14 m) || b3)))) = true) ↔ x1 = true ∧ wm1 im m i := by
      rw [Bool.and_eq_true, Bool.and_eq_true, Bool.and_eq_true, Bool.and_eq_true, Bool.or_eq_true, decide_eq_true_eq, decide_eq_true_eq, k1, k2, k3]
      unfold wm1
      constructor
      · rintro ⟨⟨a, b, c, d⟩, e, f, g⟩
        exact ⟨a, b, c, e, f, g⟩
      · rintro ⟨a, b, c, e, f, g⟩
        refine ⟨⟨a, b, c, ?_⟩, e, f, g⟩
        rcases g with g | g
        · omega
        · have := g.1
          omega
    rw [hb, hy]
    constructor
    · rintro ⟨⟨⟨a, b⟩, c⟩, d⟩
      refine ⟨a, fun r x y => ?_⟩
      by_cases e : r = i
      · rw [e]
        exact ⟨b, fun q u v => c q (by omega) v⟩
      · exact d r (by omega) y
    · rintro ⟨a, b⟩
      have bi := b i (by omega) (by omega)
      exact ⟨⟨⟨a, bi.1⟩, fun q u v => bi.2 q (by omega) v⟩, fun r u v => b r (by omega) v⟩
theorem m_well {im : Im} {m : Nat} {σ : SG} (hw : WfI im) (hm : m < im 0 1) (h : BM im m σ) : ∃ b, F_Mo_wellMade 0 σ = some (b, σ) ∧ (b = true ↔ WM im m) := by
  obtain ⟨n1, n2, n3, n4⟩ := m_now hw hm h
  obtain ⟨b, hF, hb⟩ := w_9 hw hm h (im 9 m) 0 5000 true (by omega) (by omega)
  refine ⟨b, ?_, ?_⟩
  · rw [← hF]
    simp (disch := omega) only [F_Mo_wellMade, n1, lit32, n_mul, Nat.add_zero, ite_true, ite_false, if_true, if_false, Bool.false_eq_true, and_self, and_true, true_and, and_false, false_and]
  · rw [hb]
    constructor
    · intro w r hr
      have w1 := w.2 r (by omega) hr
      exact ⟨w1.1.1, w1.1.2.1, w1.1.2.2.1, w1.1.2.2.2.1, w1.1.2.2.2.2, fun q a b => w1.2 q a b⟩
    · intro w
      refine ⟨rfl, fun r _ hr => ?_⟩
      have w1 := w r hr
      exact ⟨⟨w1.1, w1.2.1, w1.2.2.1, w1.2.2.2.1, w1.2.2.2.2.1⟩, fun q a b => w1.2.2.2.2.2 q a b⟩
