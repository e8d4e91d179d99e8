/-! The class verifies. -/
def V0 (im : Im) (m IA : Nat) (σ : SG) : Prop := (σ.2.2.1 120 0 = IA ∧ σ.2.2.1 120 1 = IA + 4 + 9 * m) ∧ ImC σ IA im
def Vf0 (m IA : Nat) (σ σ1 : SG) : Prop := σ1.1 = σ.1 ∧ σ1.2.1 = σ.2.1 ∧ σ1.2.2.1 = σ.2.2.1 ∧ σ1.2.2.2.2 = σ.2.2.2.2 ∧ (∀ x f, x ≠ IA + 4 + 9 * m + 8 → x ≠ 121 → σ1.2.2.2.1 x f = σ.2.2.2.1 x f)
theorem Vf0_refl (m IA : Nat) (σ : SG) : Vf0 m IA σ σ := ⟨rfl, rfl, rfl, rfl, fun _ _ _ _ => rfl⟩
theorem Vf0_trans {m IA : Nat} {a b c : SG} (h : Vf0 m IA a b) (g : Vf0 m IA b c) : Vf0 m IA a c :=
  ⟨g.1.trans h.1, g.2.1.trans h.2.1, g.2.2.1.trans h.2.2.1, g.2.2.2.1.trans h.2.2.2.1, fun x f p q => (g.2.2.2.2 x f p q).trans (h.2.2.2.2 x f p q)⟩
theorem V0_f {im : Im} {m IA : Nat} {σ σ1 : SG} (h : V0 im m IA σ) (hm : m < im 0 1) (hf : Vf0 m IA σ σ1) : V0 im m IA σ1 := by
  obtain ⟨⟨h1, h2⟩, h3⟩ := h
  have h6 := (IC_M h3 hm).1
  have hIA := h3.1
  refine ⟨⟨by rw [hf.2.2.1]; exact h1, by rw [hf.2.2.1]; exact h2⟩, ?_⟩
  refine ImC_congr h3 (fun x f _ _ _ => by rw [hf.1]) (fun x f hx _ _ => hf.2.2.2.2 x f ?_ (by omega))
  have := hx m h6
  omega
theorem fb_end {im : Im} {m IA k fuel : Nat} {σ : SG} (hm : m < im 0 1) (hV : V0 im m IA σ) (hge : im 14 m ≤ pos im m k) (hpk : pos im m k < 200) (hj : ∀ j, j < k → pos im m j < im 14 m ∧ im 15 (100 * m + pos im m j) ≤ 37) (hz : ∀ p, p < im 14 m → (zb (σ.2.2.2.1 121 p) = true ↔ ∃ j, j < k ∧ pos im m j = p)) :
    ∃ b, F_Vf_findBeginnings_38 (fuel + 1) 120 (Int32.ofNat (pos im m k)) σ = some (b, σ) ∧ (b = true ↔ SpOK im m) ∧ (b = true → ∀ p, p < im 14 m → (zb (σ.2.2.2.1 121 p) = true ↔ Beg im m p)) := by
  obtain ⟨⟨hV1, hW⟩, h⟩ := hV
  have hM := d_Mc h hm
  obtain ⟨hl, hl1, hl2⟩ := IC_ln h hm
  by_cases ce : pos im m k = im 14 m
  · refine ⟨true, ?_, ?_, fun _ p hp => ?_⟩
    · simp (disch := omega) only [F_Vf_findBeginnings_38, F_Vf_findBeginnings_101, hW, hM, hl, n_le, n_eq, if_pos, ite_true, ite_false, if_true, if_false, Bool.false_eq_true, and_self, and_true, true_and, and_false, false_and]
    · exact ⟨fun _ => ⟨k, ce, fun j hjk => (hj j hjk).2⟩, fun _ => rfl⟩
    · rw [hz p hp]
      constructor
      · rintro ⟨j, _, e⟩
        exact ⟨hp, j, e⟩
      · rintro ⟨_, j, e⟩
        refine ⟨j, ?_, e⟩
        refine Nat.lt_of_not_le (fun z => ?_)
        rcases Nat.lt_or_ge k j with z2 | z2
        · have := pos_mono im m z2; omega
        · have : k = j := by omega
          rw [this] at ce
          omega
  · refine ⟨false, ?_, ?_, fun e => nomatch e⟩
    · simp (disch := omega) only [F_Vf_findBeginnings_38, F_Vf_findBeginnings_101, hW, hM, hl, n_le, n_eq, if_pos, if_neg, ite_true, ite_false, if_true, if_false, Bool.false_eq_true, and_self, and_true, true_and, and_false, false_and]
    · refine ⟨(fun e => nomatch e), ?_⟩
      rintro ⟨k', e, -⟩
      exfalso
      rcases Nat.lt_trichotomy k k' with z | z | z
      · have := pos_mono im m z; omega
      · rw [z] at ce; exact ce e
      · have := (hj k' z).1
        omega
theorem fb_38 {im : Im} {m IA : Nat} (hm : m < im 0 1) : ∀ c k fuel σ, V0 im m IA σ → im 14 m ≤ pos im m k + c → pos im m k < 200 → c < fuel → (∀ j, j < k → pos im m j < im 14 m ∧ im 15 (100 * m + pos im m j) ≤ 37) → (∀ p, p < im 14 m → (zb (σ.2.2.2.1 121 p) = true ↔ ∃ j, j < k ∧ pos im m j = p)) →
    ∃ b σ1, F_Vf_findBeginnings_38 fuel 120 (Int32.ofNat (pos im m k)) σ = some (b, σ1) ∧ (b = true ↔ SpOK im m) ∧ Vf0 m IA σ σ1 ∧ (∀ p, σ1.2.2.2.1 (IA + 4 + 9 * m + 8) p = σ.2.2.2.1 (IA + 4 + 9 * m + 8) p) ∧ (b = true → ∀ p, p < im 14 m → (zb (σ1.2.2.2.1 121 p) = true ↔ Beg im m p)) := by
  have hc2 : cref SHc 120 2 = 121 := by decide
  intro c
  induction c with
  | zero =>
    intro k fuel σ hV hc hpk hf hj hz
    obtain ⟨fuel, rfl⟩ : ∃ x, fuel = x + 1 := ⟨fuel - 1, by omega⟩
    obtain ⟨b, h1, h2, h3⟩ := fb_end (fuel := fuel) hm hV (by omega) hpk hj hz
    exact ⟨b, σ, h1, h2, Vf0_refl _ _ _, fun _ => rfl, h3⟩
  | succ c ih =>
    intro k fuel σ hV hc hpk hf hj hz
    obtain ⟨fuel, rfl⟩ : ∃ x, fuel = x + 1 := ⟨fuel - 1, by omega⟩
    by_cases hge : im 14 m ≤ pos im m k
    · obtain ⟨b, h1, h2, h3⟩ := fb_end (fuel := fuel) hm hV hge hpk hj hz
      exact ⟨b, σ, h1, h2, Vf0_refl _ _ _, fun _ => rfl, h3⟩
    · have hV0 := hV
      obtain ⟨⟨hV1, hW⟩, h⟩ := hV
      have hM := d_Mc h hm
      have hIA := h.1
      have h6 := (IC_M h hm).1
      obtain ⟨hl, hl1, hl2⟩ := IC_ln h hm
      obtain ⟨hcd, hcd2⟩ := IC_cd (p := pos im m k) h hm (by omega)
      have hkn := a_known (op := im 15 (100 * m + pos im m k)) (by omega) σ
      by_cases ck : im 15 (100 * m + pos im m k) ≤ 37
      · rw [decide_eq_true ck] at hkn
        have hw := a_width (op := im 15 (100 * m + pos im m k)) (by omega) (setA σ 121 (pos im m k) (Int32.ofNat 1))
        have hfr : Vf0 m IA σ (setA σ 121 (pos im m k) (Int32.ofNat 1)) := ⟨rfl, rfl, rfl, rfl, fun x f _ h2 => by rw [rA, if_neg (fun z => h2 z.1)]⟩
        have hw2 := wdt_2 (im 15 (100 * m + pos im m k))
        have hps : pos im m (k + 1) = pos im m k + wdt (im 15 (100 * m + pos im m k)) := rfl
        obtain ⟨b, σ1, g1, g2, g3, g4, g5⟩ := ih (k + 1) fuel (setA σ 121 (pos im m k) (Int32.ofNat 1)) (V0_f hV0 hm hfr) (by omega) (by omega) (by omega) (fun j hj1 => by
          by_cases e : j = k
          · rw [e]; exact ⟨by omega, ck⟩
          · exact hj j (by omega)) (fun p hp => by
          rw [rA]
          by_cases e : p = pos im m k
          · rw [if_pos ⟨rfl, e⟩]
            refine ⟨fun _ => ⟨k, by omega, e.symm⟩, fun _ => zb1⟩
          · rw [if_neg (fun z => e z.2), hz p hp]
            constructor
            · rintro ⟨j, a, b⟩
              exact ⟨j, by omega, b⟩
            · rintro ⟨j, a, b⟩
              refine ⟨j, ?_, b⟩
              by_cases e2 : j = k
              · rw [e2] at b
                exact absurd b.symm e
              · omega)
        refine ⟨b, σ1, ?_, g2, Vf0_trans hfr g3, fun p => ?_, g5⟩
        · rw [hps] at g1
          simp (disch := omega) only [F_Vf_findBeginnings_38, hW, hM, hl, n_le, if_neg, if_pos, lit32, n_nl0, n_cl, false_or, cM8 hM, hcd, hkn, hc2, bzt, stl_e, hw, n_add, g1, ite_true, ite_false, if_true, if_false, Bool.false_eq_true, and_self, and_true, true_and, and_false, false_and]
        · rw [g4 p, rA, if_neg (by omega)]
      · rw [decide_eq_false ck] at hkn
        refine ⟨false, σ, ?_, ?_, Vf0_refl _ _ _, fun _ => rfl, fun e => nomatch e⟩
        · simp (disch := omega) only [F_Vf_findBeginnings_38, hW, hM, hl, n_le, if_neg, if_pos, lit32, n_nl0, n_cl, false_or, cM8 hM, hcd, hkn, ite_true, ite_false, if_true, if_false, Bool.false_eq_true, and_self, and_true, true_and, and_false, false_and]
        · refine ⟨(fun e => nomatch e), ?_⟩
          rintro ⟨k', e, hall⟩
          exfalso
          rcases Nat.lt_or_ge k k' with z | z
          · exact ck (hall k z)
          · rcases Nat.lt_or_ge k' k with z2 | z2
            · have := (hj k' z2).1
              omega
            · have : k' = k := by omega
              rw [this] at e
              omega
theorem fb_2 {im : Im} {m IA : Nat} (hm : m < im 0 1) : ∀ c i fuel σ, V0 im m IA σ → i + c = im 14 m → c < fuel → (∀ p, p < i → zb (σ.2.2.2.1 121 p) = false ∧ σ.2.2.2.1 (IA + 4 + 9 * m + 8) p = -Int32.ofNat 1) →
    ∃ b σ1, F_Vf_findBeginnings_2 fuel 120 (Int32.ofNat i) σ = some (b, σ1) ∧ (b = true ↔ SpOK im m) ∧ Vf0 m IA σ σ1 ∧ (∀ p, p < im 14 m → σ1.2.2.2.1 (IA + 4 + 9 * m + 8) p = -Int32.ofNat 1) ∧ (b = true → ∀ p, p < im 14 m → (zb (σ1.2.2.2.1 121 p) = true ↔ Beg im m p)) := by
  have hc2 : cref SHc 120 2 = 121 := by decide
  intro c
  induction c with
  | zero =>
    intro i fuel σ hV hi hf hz
    obtain ⟨fuel, rfl⟩ : ∃ x, fuel = x + 1 := ⟨fuel - 1, by omega⟩
    have hV0 := hV
    obtain ⟨⟨hV1, hW⟩, h⟩ := hV
    have hM := d_Mc h hm
    obtain ⟨hl, hl1, hl2⟩ := IC_ln h hm
    obtain ⟨b, σ1, g1, g2, g3, g4, g5⟩ := fb_38 hm (im 14 m) 0 5000 σ hV0 (by omega) (by show 0 < 200; omega) (by omega) (fun j hj => by omega) (fun p hp => by
      rw [(hz p (by omega)).1]
      refine ⟨(fun e => nomatch e), ?_⟩
      rintro ⟨j, a, -⟩
      omega)
    have g1' : F_Vf_findBeginnings_38 5000 120 (Int32.ofNat 0) σ = some (b, σ1) := g1
    refine ⟨b, σ1, ?_, g2, g3, fun p hp => ?_, g5⟩
    · simp (disch := omega) only [F_Vf_findBeginnings_2, hW, hM, hl, n_le, if_pos, lit32, g1', ite_true, ite_false, if_true, if_false, Bool.false_eq_true, and_self, and_true, true_and, and_false, false_and]
    · rw [g4 p]
      exact (hz p (by omega)).2
  | succ c ih =>
    intro i fuel σ hV hi hf hz
    obtain ⟨fuel, rfl⟩ : ∃ x, fuel = x + 1 := ⟨fuel - 1, by omega⟩
    have hV0 := hV
    obtain ⟨⟨hV1, hW⟩, h⟩ := hV
    have hM := d_Mc h hm
    have hIA := h.1
    have h6 := (IC_M h hm).1
    obtain ⟨hl, hl1, hl2⟩ := IC_ln h hm
    have hfr : Vf0 m IA σ (setA (setA σ 121 i (Int32.ofNat 0)) (IA + 4 + 9 * m + 8) i (-Int32.ofNat 1)) := ⟨rfl, rfl, rfl, rfl, fun x f h1 h2 => by rw [rA, if_neg (fun z => h1 z.1), rA, if_neg (fun z => h2 z.1)]⟩
    obtain ⟨b, σ1, g1, g2, g3, g4, g5⟩ := ih (i + 1) fuel _ (V0_f hV0 hm hfr) (by omega) (by omega) (fun p hp => by
      by_cases e : p = i
      · refine ⟨?_, ?_⟩
        · rw [rA, if_neg (by omega), rA, if_pos ⟨rfl, e⟩]; exact zb0
        · rw [rA, if_pos ⟨rfl, e⟩]
      · refine ⟨?_, ?_⟩
        · rw [rA, if_neg (by omega), rA, if_neg (fun z => e z.2)]; exact (hz p (by omega)).1
        · rw [rA, if_neg (fun z => e z.2), rA, if_neg (by omega)]; exact (hz p (by omega)).2)
    refine ⟨b, σ1, ?_, g2, Vf0_trans hfr g3, g4, g5⟩
    simp (disch := omega) only [F_Vf_findBeginnings_2, hW, hM, hl, n_le, if_neg, if_pos, lit32, n_nl0, n_cl, false_or, hc2, bzf, stl_e, rA3, cM10 hM, n_add, g1, ite_true, ite_false, if_true, if_false, Bool.false_eq_true, and_self, and_true, true_and, and_false, false_and]
theorem c_find {im : Im} {m IA : Nat} {σ : SG} (hm : m < im 0 1) (hV : V0 im m IA σ) :
    ∃ b σ1, F_Vf_findBeginnings 120 σ = some (b, σ1) ∧ (b = true ↔ SpOK im m) ∧ Vf0 m IA σ σ1 ∧ (∀ p, p < im 14 m → σ1.2.2.2.1 (IA + 4 + 9 * m + 8) p = -Int32.ofNat 1) ∧ (b = true → ∀ p, p < im 14 m → (zb (σ1.2.2.2.1 121 p) = true ↔ Beg im m p)) := by
  have hl := (IC_ln hV.2 hm).2
  obtain ⟨b, σ1, g1, g2⟩ := fb_2 hm (im 14 m) 0 5000 σ hV (by omega) (by omega) (fun p hp => by omega)
  refine ⟨b, σ1, ?_, g2⟩
  simp (disch := omega) only [F_Vf_findBeginnings, lit32, g1, ite_true, ite_false, if_true, if_false, Bool.false_eq_true, and_self, and_true, true_and, and_false, false_and]
/-- the regions -/
def wm1 (im : Im) (m r : Nat) : Prop := im 10 (3 * m + r) < im 11 (3 * m + r) ∧ im 11 (3 * m + r) < im 12 (3 * m + r) ∧ Beg im m (im 10 (3 * m + r)) ∧ Beg im m (im 11 (3 * m + r)) ∧ (im 12 (3 * m + r) = im 14 m ∨ Beg im m (im 12 (3 * m + r)))
def wm2 (im : Im) (m r q : Nat) : Prop := (im 12 (3 * m + r) ≤ im 10 (3 * m + q) ∨ im 12 (3 * m + q) ≤ im 10 (3 * m + r)) ∨ (im 10 (3 * m + q) ≤ im 10 (3 * m + r) ∧ im 12 (3 * m + r) ≤ im 11 (3 * m + q)) ∨ (im 11 (3 * m + q) ≤ im 10 (3 * m + r) ∧ im 12 (3 * m + r) ≤ im 12 (3 * m + q))
theorem beg_n {im : Im} {m x : Nat} : (∃ q : Nat, (x : Int) = q ∧ Beg im m q) ↔ Beg im m x := by
  constructor
  · rintro ⟨q, e, h⟩
    have : q = x := by omega
    rw [this] at h
    exact h
  · intro h
    exact ⟨x, rfl, h⟩
theorem c_wm1 {im : Im} {m IA : Nat} {σ : SG} {R : RQ} {L : List Nat} {r : Nat} (hV : VS im m IA σ R L) (hm : m < im 0 1) (hr : r < im 9 m) : ∃ b, F_Vf_isWellMade 120 (IA + 4 + 9 * m + 4 + r) σ = some (b, σ) ∧ (b = true ↔ wm1 im m r) := by
  have h := VS_I hV
  have hM := d_Mc h hm
  have hW := VS_W hV
  obtain ⟨hl, hl1, hl2⟩ := IC_ln h hm
  obtain ⟨r1, r2, r3, r4, r5, r6, r7, r8⟩ := IC_rg h hm hr
  obtain ⟨b1, f1, k1⟩ := c_begins (x := Int32.ofNat (im 10 (3 * m + r))) (z := im 10 (3 * m + r)) hV hm (n_int (by omega))
  obtain ⟨b2, f2, k2⟩ := c_begins (x := Int32.ofNat (im 11 (3 * m + r))) (z := im 11 (3 * m + r)) hV hm (n_int (by omega))
  obtain ⟨b3, f3, k3⟩ := c_begins (x := Int32.ofNat (im 12 (3 * m + r))) (z := im 12 (3 * m + r)) hV hm (n_int (by omega))
  rw [beg_n] at k1 k2 k3
  have h58 : ∀ x y, F_Vf_isWellMade_58 120 (IA + 4 + 9 * m + 4 + r) x y σ = some (x && y && b1 && b2, σ) := by
    intro x y
    cases x <;> cases y <;> cases b1 <;> cases b2 <;> simp (disch := omega) only [F_Vf_isWellMade_58, F_Vf_isWellMade_93, F_Vf_isWellMade_94, r1, r2, f1, f2, if_pos, if_neg, Bool.and_true, Bool.true_and, Bool.and_false, Bool.false_and, ite_true, ite_false, if_true, if_false, Bool.false_eq_true, and_self, and_true, true_and, and_false, false_and]
  have h27 : ∀ x, ∃ y : Bool, (y = true ↔ im 12 (3 * m + r) = im 14 m ∨ Beg im m (im 12 (3 * m + r))) ∧ F_Vf_isWellMade_27 120 (IA + 4 + 9 * m + 4 + r) x σ = some (x && y && b1 && b2, σ) := by
    intro x
    by_cases c : im 12 (3 * m + r) = im 14 m
    · refine ⟨true, by simp [c], ?_⟩
      simp (disch := omega) only [F_Vf_isWellMade_27, F_Vf_isWellMade_53, hW, hM, if_pos, r3, hl, n_eq, h58, ite_true, ite_false, if_true, if_false, Bool.false_eq_true, and_self, and_true, true_and, and_false, false_and]
    · refine ⟨b3, by rw [k3]; simp [c], ?_⟩
      cases b3 <;> simp (disch := omega) only [F_Vf_isWellMade_27, F_Vf_isWellMade_53, hW, hM, if_pos, if_neg, r3, hl, n_eq, f3, h58, ite_true, ite_false, if_true, if_false, Bool.false_eq_true, and_self, and_true, true_and, and_false, false_and]
  by_cases c1 : im 11 (3 * m + r) ≤ im 10 (3 * m + r)
  · obtain ⟨y, hy, hF⟩ := h27 false
    refine ⟨false, ?_, (fun e => nomatch e), fun w => by have := w.1; omega⟩
    simp (disch := omega) only [F_Vf_isWellMade, F_Vf_isWellMade_26, r1, r2, n_le, if_pos, hF, Bool.false_and, ite_true, ite_false, if_true, if_false, Bool.false_eq_true, and_self, and_true, true_and, and_false, false_and]
  · by_cases c2 : im 12 (3 * m + r) ≤ im 11 (3 * m + r)
    · obtain ⟨y, hy, hF⟩ := h27 false
      refine ⟨false, ?_, (fun e => nomatch e), fun w => by have := w.2.1; omega⟩
      simp (disch := omega) only [F_Vf_isWellMade, F_Vf_isWellMade_26, r1, r2, r3, n_le, if_pos, if_neg, hF, Bool.false_and, ite_true, ite_false, if_true, if_false, Bool.false_eq_true, and_self, and_true, true_and, and_false, false_and]
    · obtain ⟨y, hy, hF⟩ := h27 true
      refine ⟨true && y && b1 && b2, ?_, ?_⟩
      · simp (disch := omega) only [F_Vf_isWellMade, F_Vf_isWellMade_26, r1, r2, r3, n_le, if_neg, hF, ite_true, ite_false, if_true, if_false, Bool.false_eq_true, and_self, and_true, true_and, and_false, false_and]
      · rw [Bool.and_eq_true, Bool.and_eq_true, Bool.and_eq_true, hy, k1, k2]
        unfold wm1
        constructor
        · rintro ⟨⟨⟨-, a⟩, b⟩, c⟩
          exact ⟨by omega, by omega, b, c, a⟩
        · rintro ⟨-, -, b, c, a⟩
          exact ⟨⟨⟨rfl, a⟩, b⟩, c⟩
theorem c_wm2 {im : Im} {m IA : Nat} {σ : SG} {r q : Nat} (h : ImC σ IA im) (hm : m < im 0 1) (hr : r < im 9 m) (hq : q < im 9 m) : ∃ b, F_Rg_isApartFromOrWithin (IA + 4 + 9 * m + 4 + r) (IA + 4 + 9 * m + 4 + q) σ = some (b, σ) ∧ (b = true ↔ wm2 im m r q) := by
  obtain ⟨r1, r2, r3, r4, r5, r6, r7, r8⟩ := IC_rg h hm hr
  obtain ⟨q1, q2, q3, q4, q5, q6, q7, q8⟩ := IC_rg h hm hq
  have h83 : ∀ x y z, F_Rg_isApartFromOrWithin_83 x y z σ = some (x || y || z, σ) := by
    intro x y z
    cases x <;> cases y <;> cases z <;> simp (disch := omega) only [F_Rg_isApartFromOrWithin_83, F_Rg_isApartFromOrWithin_98, F_Rg_isApartFromOrWithin_103, if_pos, if_neg, Bool.or_true, Bool.true_or, Bool.or_false, ite_true, ite_false, if_true, if_false, Bool.false_eq_true, and_self, and_true, true_and, and_false, false_and]
  have h55 : ∀ x y, F_Rg_isApartFromOrWithin_55 (IA + 4 + 9 * m + 4 + r) (IA + 4 + 9 * m + 4 + q) x y σ = some (x || y || decide (im 11 (3 * m + q) ≤ im 10 (3 * m + r) ∧ im 12 (3 * m + r) ≤ im 12 (3 * m + q)), σ) := by
    intro x y
    by_cases c : im 10 (3 * m + r) < im 11 (3 * m + q)
    · rw [decide_eq_false (by omega)]
      simp (disch := omega) only [F_Rg_isApartFromOrWithin_55, F_Rg_isApartFromOrWithin_82, r1, q2, n_lt, if_pos, h83, ite_true, ite_false, if_true, if_false, Bool.false_eq_true, and_self, and_true, true_and, and_false, false_and]
    · by_cases c2 : im 12 (3 * m + q) < im 12 (3 * m + r)
      · rw [decide_eq_false (by omega)]
        simp (disch := omega) only [F_Rg_isApartFromOrWithin_55, F_Rg_isApartFromOrWithin_82, r1, q2, r3, q3, n_lt, if_pos, if_neg, h83, ite_true, ite_false, if_true, if_false, Bool.false_eq_true, and_self, and_true, true_and, and_false, false_and]
      · rw [decide_eq_true (by omega)]
        simp (disch := omega) only [F_Rg_isApartFromOrWithin_55, F_Rg_isApartFromOrWithin_82, r1, q2, r3, q3, n_lt, if_neg, h83, ite_true, ite_false, if_true, if_false, Bool.false_eq_true, and_self, and_true, true_and, and_false, false_and]
  have h27 : ∀ x, F_Rg_isApartFromOrWithin_27 (IA + 4 + 9 * m + 4 + r) (IA + 4 + 9 * m + 4 + q) x σ = some (x || decide (im 10 (3 * m + q) ≤ im 10 (3 * m + r) ∧ im 12 (3 * m + r) ≤ im 11 (3 * m + q)) || decide (im 11 (3 * m + q) ≤ im 10 (3 * m + r) ∧ im 12 (3 * m + r) ≤ im 12 (3 * m + q)), σ) := by
    intro x
    by_cases c : im 10 (3 * m + r) < im 10 (3 * m + q)
    · rw [decide_eq_false (p := im 10 (3 * m + q) ≤ im 10 (3 * m + r) ∧ im 12 (3 * m + r) ≤ im 11 (3 * m + q)) (by omega)]
      simp (disch := omega) only [F_Rg_isApartFromOrWithin_27, F_Rg_isApartFromOrWithin_54, r1, q1, n_lt, if_pos, h55, ite_true, ite_false, if_true, if_false, Bool.false_eq_true, and_self, and_true, true_and, and_false, false_and]
    · by_cases c2 : im 11 (3 * m + q) < im 12 (3 * m + r)
      · rw [decide_eq_false (p := im 10 (3 * m + q) ≤ im 10 (3 * m + r) ∧ im 12 (3 * m + r) ≤ im 11 (3 * m + q)) (by omega)]
        simp (disch := omega) only [F_Rg_isApartFromOrWithin_27, F_Rg_isApartFromOrWithin_54, r1, q1, r3, q2, n_lt, if_pos, if_neg, h55, ite_true, ite_false, if_true, if_false, Bool.false_eq_true, and_self, and_true, true_and, and_false, false_and]
      · rw [decide_eq_true (p := im 10 (3 * m + q) ≤ im 10 (3 * m + r) ∧ im 12 (3 * m + r) ≤ im 11 (3 * m + q)) (by omega)]
        simp (disch := omega) only [F_Rg_isApartFromOrWithin_27, F_Rg_isApartFromOrWithin_54, r1, q1, r3, q2, n_lt, if_neg, h55, ite_true, ite_false, if_true, if_false, Bool.false_eq_true, and_self, and_true, true_and, and_false, false_and]
  have hfin : ∀ x : Bool, (x = true ↔ im 12 (3 * m + r) ≤ im 10 (3 * m + q) ∨ im 12 (3 * m + q) ≤ im 10 (3 * m + r)) → ((x || decide (im 10 (3 * m + q) ≤ im 10 (3 * m + r) ∧ im 12 (3 * m + r) ≤ im 11 (3 * m + q)) || decide (im 11 (3 * m + q) ≤ im 10 (3 * m + r) ∧ im 12 (3 * m + r) ≤ im 12 (3 * m + q))) = true ↔ wm2 im m r q) := by
    intro x hx
    rw [Bool.or_eq_true, Bool.or_eq_true, hx, decide_eq_true_eq, decide_eq_true_eq, or_assoc]
    rfl
  by_cases c : im 12 (3 * m + r) ≤ im 10 (3 * m + q)
  · refine ⟨_, ?_, hfin true ⟨fun _ => Or.inl c, fun _ => rfl⟩⟩
    simp (disch := omega) only [F_Rg_isApartFromOrWithin, F_Rg_isApartFromOrWithin_22, r3, q1, n_le, if_pos, h27, ite_true, ite_false, if_true, if_false, Bool.false_eq_true, and_self, and_true, true_and, and_false, false_and]
  · by_cases c2 : im 10 (3 * m + r) < im 12 (3 * m + q)
    · refine ⟨_, ?_, hfin false ⟨(fun e => nomatch e), fun w => by omega⟩⟩
      simp (disch := omega) only [F_Rg_isApartFromOrWithin, F_Rg_isApartFromOrWithin_22, r3, q1, r1, q3, n_le, n_lt, if_pos, if_neg, h27, ite_true, ite_false, if_true, if_false, Bool.false_eq_true, and_self, and_true, true_and, and_false, false_and]
    · refine ⟨_, ?_, hfin true ⟨fun _ => Or.inr (by omega), fun _ => rfl⟩⟩
      simp (disch := omega) only [F_Rg_isApartFromOrWithin, F_Rg_isApartFromOrWithin_22, r3, q1, r1, q3, n_le, n_lt, if_neg, h27, ite_true, ite_false, if_true, if_false, Bool.false_eq_true, and_self, and_true, true_and, and_false, false_and]
theorem c_wm_37 {im : Im} {m IA : Nat} {σ : SG} {r : Nat} {rec2 : Nat → Int32 → SG → Option (Bool × SG)} {b2 : Bool} (h : ImC σ IA im) (hW : σ.2.2.1 120 1 = IA + 4 + 9 * m) (hm : m < im 0 1) (hr : r < im 9 m) (hrec : rec2 120 (Int32.ofNat (r + 1)) σ = some (b2, σ)) :
    ∀ c i fuel, i + c = im 9 m → r < i → c < fuel → ∃ b, F_Vf_areRegionsWellMade_37 rec2 fuel 120 (Int32.ofNat r) (IA + 4 + 9 * m + 4 + r) (Int32.ofNat i) σ = some (b, σ) ∧ (b = true ↔ (∀ q, i ≤ q → q < im 9 m → wm2 im m r q) ∧ b2 = true) := by
  have hM := d_Mc h hm
  obtain ⟨h1, h2⟩ := IC_rc h hm
  intro c
  induction c with
  | zero =>
    intro i fuel hi hri hf
    obtain ⟨fuel, rfl⟩ : ∃ x, fuel = x + 1 := ⟨fuel - 1, by omega⟩
    refine ⟨b2, ?_, ⟨fun e => ⟨fun q a b => by omega, e⟩, fun w => w.2⟩⟩
    simp (disch := omega) only [F_Vf_areRegionsWellMade_37, hW, hM, h1, n_le, if_pos, lit32, n_add, hrec, ite_true, ite_false, if_true, if_false, Bool.false_eq_true, and_self, and_true, true_and, and_false, false_and]
  | succ c ih =>
    intro i fuel hi hri hf
    obtain ⟨fuel, rfl⟩ : ∃ x, fuel = x + 1 := ⟨fuel - 1, by omega⟩
    obtain ⟨b0, hF0, hb0⟩ := c_wm2 (q := i) h hm hr (by omega)
    cases b0 with
    | true =>
      obtain ⟨b, hF, hb⟩ := ih (i + 1) fuel (by omega) (by omega) (by omega)
      refine ⟨b, ?_, ?_⟩
      · simp (disch := omega) only [F_Vf_areRegionsWellMade_37, hW, hM, h1, n_le, if_pos, if_neg, lit32, n_nl0, n_cl, false_or, cM7 hM, cMr hM, hF0, n_add, hF, ite_true, ite_false, if_true, if_false, Bool.false_eq_true, and_self, and_true, true_and, and_false, false_and]
      · rw [hb]
        refine ⟨fun w => ⟨fun q a b => ?_, w.2⟩, fun w => ⟨fun q a b => w.1 q (by omega) b, w.2⟩⟩
        by_cases e : q = i
        · rw [e]; exact hb0.mp rfl
        · exact w.1 q (by omega) b
    | false =>
      refine ⟨false, ?_, (fun e => nomatch e), fun w => hb0.mpr (w.1 i (by omega) (by omega))⟩
      simp (disch := omega) only [F_Vf_areRegionsWellMade_37, hW, hM, h1, n_le, if_pos, if_neg, lit32, n_nl0, n_cl, false_or, cM7 hM, cMr hM, hF0, ite_true, ite_false, if_true, if_false, Bool.false_eq_true, and_self, and_true, true_and, and_false, false_and]
theorem c_wm_2 {im : Im} {m IA : Nat} {σ : SG} {R : RQ} {L : List Nat} (hV : VS im m IA σ R L) (hm : m < im 0 1) :
    ∀ c i fuel, i + c = im 9 m → c < fuel → ∃ b, F_Vf_areRegionsWellMade_2 fuel 120 (Int32.ofNat i) σ = some (b, σ) ∧ (b = true ↔ ∀ r, i ≤ r → r < im 9 m → wm1 im m r ∧ ∀ q, r < q → q < im 9 m → wm2 im m r q) := by
  have h := VS_I hV
  have hM := d_Mc h hm
  have hW := VS_W hV
  obtain ⟨h1, h2⟩ := IC_rc h hm
  intro c
  induction c with
  | zero =>
    intro i fuel hi hf
    obtain ⟨fuel, rfl⟩ : ∃ x, fuel = x + 1 := ⟨fuel - 1, by omega⟩
    refine ⟨true, ?_, fun _ r a b => by omega, fun _ => rfl⟩
    simp (disch := omega) only [F_Vf_areRegionsWellMade_2, hW, hM, h1, n_le, if_pos, ite_true, ite_false, if_true, if_false, Bool.false_eq_true, and_self, and_true, true_and, and_false, false_and]
  | succ c ih =>
    intro i fuel hi hf
    obtain ⟨fuel, rfl⟩ : ∃ x, fuel = x + 1 := ⟨fuel - 1, by omega⟩
    obtain ⟨b2, hF2, hb2⟩ := ih (i + 1) fuel (by omega) (by omega)
    obtain ⟨b0, hF0, hb0⟩ := c_wm1 (r := i) hV hm (by omega)
    cases b0 with
    | true =>
      obtain ⟨b, hF, hb⟩ := c_wm_37 (rec2 := F_Vf_areRegionsWellMade_2 fuel) (r := i) h hW hm (by omega) hF2 c (i + 1) 5000 (by omega) (by omega) (by omega)
      refine ⟨b, ?_, ?_⟩
      · simp (disch := omega) only [F_Vf_areRegionsWellMade_2, hW, hM, h1, n_le, if_pos, if_neg, lit32, n_nl0, n_cl, false_or, cM7 hM, cMr hM, hF0, n_add, hF, ite_true, ite_false, if_true, if_false, Bool.false_eq_true, and_self, and_true, true_and, and_false, false_and]
      · rw [hb, hb2]
        constructor
        · intro w r a b
          by_cases e : r = i
          · rw [e]
            exact ⟨hb0.mp rfl, fun q x y => w.1 q (by omega) y⟩
          · exact w.2 r (by omega) b
        · intro w
          exact ⟨fun q x y => (w i (by omega) (by omega)).2 q (by omega) y, fun r x y => w r (by omega) y⟩
    | false =>
      refine ⟨false, ?_, (fun e => nomatch e), fun w => hb0.mpr (w i (by omega) (by omega)).1⟩
      simp (disch := omega) only [F_Vf_areRegionsWellMade_2, hW, hM, h1, n_le, if_pos, if_neg, lit32, n_nl0, n_cl, false_or, cM7 hM, cMr hM, hF0, ite_true, ite_false, if_true, if_false, Bool.false_eq_true, and_self, and_true, true_and, and_false, false_and]
theorem c_wm {im : Im} {m IA : Nat} {σ : SG} {R : RQ} {L : List Nat} (hV : VS im m IA σ R L) (hm : m < im 0 1) : ∃ b, F_Vf_areRegionsWellMade 120 σ = some (b, σ) ∧ (b = true ↔ WM im m) := by
  have h2 := (IC_rc (VS_I hV) hm).2
  obtain ⟨b, hF, hb⟩ := c_wm_2 hV hm (im 9 m) 0 5000 (by omega) (by omega)
  refine ⟨b, ?_, ?_⟩
  · simp (disch := omega) only [F_Vf_areRegionsWellMade, lit32, hF, ite_true, ite_false, if_true, if_false, Bool.false_eq_true, and_self, and_true, true_and, and_false, false_and]
  · rw [hb]
    constructor
    · intro w r hr
      have w1 := w r (by omega) hr
      exact ⟨w1.1.1, w1.1.2.1, w1.1.2.2.1, w1.1.2.2.2.1, w1.1.2.2.2.2, fun q a b => w1.2 q a b⟩
    · intro w r _ hr
      have w1 := w r hr
      exact ⟨⟨w1.1, w1.2.1, w1.2.2.1, w1.2.2.2.1, w1.2.2.2.2.1⟩, fun q a b => w1.2.2.2.2.2 q a b⟩
