/-! The call load. -/
def DrC (d : Nat → Nat) (n : Nat) (σ : SG) : Prop := σ.1 0 1 = Int32.ofNat n ∧ n ≤ 400 ∧ ∀ k, k < n → σ.2.2.2.1 1 k = Int32.ofNat (d k) ∧ d k < 256
def VCc (im : Im) (m IA : Nat) (σ : SG) : Prop := ∃ (b : Bool) (R : RQ), zb (σ.1 (IA + 4 + 9 * m) 9) = b ∧ (b = true ↔ VOK im m) ∧ (b = true → RwOK im m IA σ R)
def VCm (im : Im) (m : Nat) (σ : SG) : Prop := ∃ (b : Bool) (R : RQ), zb (σ.2.2.2.1 19 m) = b ∧ (b = true ↔ VOK im m) ∧ (b = true → RS im m σ R ∧ Clo im m R ∧ (∀ Q, Clo im m Q → LeQ R Q) ∧ ∀ p, p < im 14 m → (zb (σ.2.2.2.1 16 (100 * m + p)) = true ↔ Beg im m p))
def VerI (im : Im) (m IA : Nat) (σc σm : SG) : Prop := ∃ (b : Bool) (R : RQ), zb (σc.1 (IA + 4 + 9 * m) 9) = b ∧ zb (σm.2.2.2.1 19 m) = b ∧ (b = true ↔ VOK im m) ∧ (b = true → RwOK im m IA σc R ∧ RS im m σm R ∧ ∀ p, p < im 14 m → (zb (σm.2.2.2.1 16 (100 * m + p)) = true ↔ Beg im m p))
theorem LeQ_anti {R S : RQ} (h : LeQ R S) (g : LeQ S R) : R = S := by
  funext p
  cases hR : R p with
  | some l => exact (h p l hR).symm
  | none =>
    cases hS : S p with
    | none => rfl
    | some l =>
      have := g p l hS
      rw [hR] at this
      exact this
theorem VerI_of {im : Im} {m IA : Nat} {σc σm : SG} (h : VCc im m IA σc) (g : VCm im m σm) : VerI im m IA σc σm := by
  obtain ⟨b, R, h1, h2, h3⟩ := h
  obtain ⟨b', R', g1, g2, g3⟩ := g
  have e : b = b' := by
    cases b <;> cases b'
    · rfl
    · exact absurd (h2.mpr (g2.mp rfl)) (by simp)
    · exact absurd (g2.mpr (h2.mp rfl)) (by simp)
    · rfl
  subst e
  refine ⟨b, R, h1, g1, h2, fun e => ?_⟩
  obtain ⟨k1, k2, k3, k4⟩ := g3 e
  have k5 := h3 e
  have e2 : R' = R := LeQ_anti (k3 R k5.1) (k5.2.1 R' k2)
  rw [e2] at k1
  exact ⟨k5, k1, k4⟩
def FLc (B : Nat) (σ σ1 : SG) : Prop := σ1.2.1 = σ.2.1 ∧ σ1.2.2.2.2 = σ.2.2.2.2 ∧ (∀ x f, x ≠ 118 → x ≠ 120 → ¬ (x = 0 ∧ (f = 2 ∨ f = 3)) → σ1.2.2.1 x f = σ.2.2.1 x f) ∧ (∀ x f, (x < B ∨ B + 58 ≤ x) → x ≠ 118 → x ≠ 120 → ¬ (x = 123 ∧ (f = 9 ∨ f = 10)) → σ1.1 x f = σ.1 x f) ∧ (∀ x f, (x < B ∨ B + 58 ≤ x) → x ≠ 121 → x ≠ 122 → σ1.2.2.2.1 x f = σ.2.2.2.1 x f)
theorem FLc_trans {B : Nat} {a b c : SG} (h : FLc B a b) (g : FLc B b c) : FLc B a c :=
  ⟨g.1.trans h.1, g.2.1.trans h.2.1, fun x f p q r => (g.2.2.1 x f p q r).trans (h.2.2.1 x f p q r), fun x f p q r s => (g.2.2.2.1 x f p q r s).trans (h.2.2.2.1 x f p q r s), fun x f p q r => (g.2.2.2.2 x f p q r).trans (h.2.2.2.2 x f p q r)⟩
theorem VCc_Vfz {im : Im} {m m' IA : Nat} {σ σ1 : SG} (h : VCc im m IA σ) (hf : Vfz m' IA σ σ1) (hne : m ≠ m') (hIA : IA = 2 ∨ IA = 60) (hm : m < 6) : VCc im m IA σ1 := by
  obtain ⟨b, R, h1, h2, h3⟩ := h
  refine ⟨b, R, ?_, h2, fun e => ?_⟩
  · rw [hf.2.2.2.1 _ _ (by omega) (by omega)]; exact h1
  · obtain ⟨k1, k2, k3, k4, k5, c, k6, k7⟩ := h3 e
    refine ⟨k1, k2, fun p hp => ?_, k4, k5, c, ?_, k7⟩
    · rw [hf.2.2.2.2 _ _ (by omega) (by omega) (by omega)]; exact k3 p hp
    · rw [hf.2.2.2.1 _ _ (by omega) (by omega)]; exact k6
theorem Vfz_FLc {m IA : Nat} {σ σ1 : SG} (hm : m < 6) (h : Vfz m IA σ σ1) : FLc IA σ σ1 :=
  ⟨h.1, h.2.2.1, fun x f _ q _ => h.2.1 x f q, fun x f p _ q _ => h.2.2.2.1 x f q (by omega), fun x f p q r => h.2.2.2.2 x f (by omega) q r⟩
theorem c_load_l {im : Im} {IA : Nat} : ∀ c i fuel σ, i + c = im 0 1 → c < fuel → σ.2.2.1 0 2 = IA → ImC σ IA im → (∀ m, m < i → VCc im m IA σ) →
    ∃ σ1, F_TE_load_44 fuel 0 (Int32.ofNat i) σ = some (Int32.ofNat (im 0 1), σ1) ∧ FLc IA σ σ1 ∧ ImC σ1 IA im ∧ (∀ m, m < im 0 1 → VCc im m IA σ1) ∧ σ1.2.2.1 0 2 = IA ∧ σ1.2.2.1 0 3 = σ.2.2.1 0 3 ∧ σ1.1 123 9 = Int32.ofNat 0 ∧ σ1.1 123 10 = Int32.ofNat 0 := by
  have hc6 : cref SHc 0 6 = 123 := by decide
  have hc5 : cref SHc 0 5 = 120 := by decide
  intro c
  induction c with
  | zero =>
    intro i fuel σ hi hf hP h hV
    obtain ⟨fuel, rfl⟩ : ∃ x, fuel = x + 1 := ⟨fuel - 1, by omega⟩
    obtain ⟨hn, hn1, hn6⟩ := IC_nm h
    have hIA := h.1
    have hI := h.2.1
    have hn2 : (setI (setI σ 123 9 (Int32.ofNat 0)) 123 10 (Int32.ofNat 0)).1 IA 1 = Int32.ofNat (im 0 1) := by
      rw [rI, if_neg (by omega), rI, if_neg (by omega)]; exact hn
    refine ⟨setI (setI σ 123 9 (Int32.ofNat 0)) 123 10 (Int32.ofNat 0), ?_, ?_, ?_, ?_, hP, rfl, ?_, ?_⟩
    · simp (disch := omega) only [F_TE_load_44, F_Ru_drop, hP, hI, if_pos, hn, n_le, hc6, stl_e, lit32, rI2, hn2, ite_true, ite_false, if_true, if_false, Bool.false_eq_true, and_self, and_true, true_and, and_false, false_and]
    · refine ⟨rfl, rfl, fun _ _ _ _ _ => rfl, fun x f _ _ _ h4 => ?_, fun _ _ _ _ _ => rfl⟩
      rw [rI, if_neg (by omega), rI, if_neg (by omega)]
    · refine ImC_congr h (fun x f _ _ _ => ?_) (fun _ _ _ _ _ => rfl)
      rw [rI, if_neg (by omega), rI, if_neg (by omega)]
    · intro m hm
      obtain ⟨b, R, h1, h2, h3⟩ := hV m (by omega)
      refine ⟨b, R, ?_, h2, fun e => ?_⟩
      · rw [rI, if_neg (by omega), rI, if_neg (by omega)]; exact h1
      · obtain ⟨k1, k2, k3, k4, k5, c, k6, k7⟩ := h3 e
        refine ⟨k1, k2, k3, k4, k5, c, ?_, k7⟩
        rw [rI, if_neg (by omega), rI, if_neg (by omega)]; exact k6
    · rw [rI, if_neg (by omega), rI, if_pos ⟨rfl, rfl⟩]
    · rw [rI, if_pos ⟨rfl, rfl⟩]
  | succ c ih =>
    intro i fuel σ hi hf hP h hV
    obtain ⟨fuel, rfl⟩ : ∃ x, fuel = x + 1 := ⟨fuel - 1, by omega⟩
    obtain ⟨hn, hn1, hn6⟩ := IC_nm h
    have hIA := h.1
    have hI := h.2.1
    obtain ⟨s1, b, R, f1, k1, k2, k3, k4, k5⟩ := c_verify h (show i < im 0 1 by omega)
    have hP1 : s1.2.2.1 0 2 = IA := by rw [k4.2.1 _ _ (by omega)]; exact hP
    have hP3 : s1.2.2.1 0 3 = σ.2.2.1 0 3 := k4.2.1 _ _ (by omega)
    obtain ⟨σ1, g1, g2, g3, g4, g5, g6, g7⟩ := ih (i + 1) fuel s1 (by omega) (by omega) hP1 k5 (fun m hm => by
      by_cases e : m = i
      · rw [e]
        exact ⟨b, R, by rw [k1, zbz], k2, k3⟩
      · exact VCc_Vfz (hV m (by omega)) k4 e hIA (by omega))
    refine ⟨σ1, ?_, FLc_trans (Vfz_FLc (by omega) k4) g2, g3, g4, g5, g6.trans hP3, g7⟩
    simp (disch := omega) only [F_TE_load_44, hP, hI, if_pos, if_neg, hn, n_le, lit32, n_nl0, n_cl, false_or, hc5, cI4 hI, cIm hI, f1, n_add, g1, ite_true, ite_false, if_true, if_false, Bool.false_eq_true, and_self, and_true, true_and, and_false, false_and]
/-- the reference's -/
def FLm (σ σ1 : SG) : Prop := (∀ f, f ≠ 2 → f ≠ 3 → f ≠ 4 → f ≠ 7 → f ≠ 24 → f ≠ 25 → f ≠ 27 → f ≠ 28 → σ1.1 0 f = σ.1 0 f) ∧ (∀ f, σ1.2.2.2.1 1 f = σ.2.2.2.1 1 f)
theorem VCm_FvM {im : Im} {m m' : Nat} {σ σ1 : SG} (hw : WfI im) (hm : m < im 0 1) (h : VCm im m σ) (hf : FvM m' σ σ1) (hne : m ≠ m') : VCm im m σ1 := by
  have h14 := (wf_m hw hm).2.2.2.2.2.2.2.2.2.1
  obtain ⟨b, R, h1, h2, h3⟩ := h
  refine ⟨b, R, ?_, h2, fun e => ?_⟩
  · rw [hf.2.2.2.1 _ _ (by omega) (by omega) (by omega)]; exact h1
  · obtain ⟨k1, k2, k3, k4⟩ := h3 e
    refine ⟨⟨fun p hp => ?_, k1.2⟩, k2, k3, fun p hp => ?_⟩
    · rw [hf.2.2.2.1 _ _ (by omega) (by omega) (by omega), hf.2.2.2.2 _ _ (by omega)]; exact k1.1 p hp
    · rw [hf.2.2.2.1 _ _ (by omega) (by omega) (by omega)]; exact k4 p hp
theorem m_load_l {im : Im} (hw : WfI im) : ∀ c i fuel σ, i + c = im 0 1 → c < fuel → RepM σ im → (∀ m, m < i → VCm im m σ) →
    ∃ σ1, F_Mo_load_26 fuel 0 (Int32.ofNat i) σ = some (Int32.ofNat (im 0 1), σ1) ∧ RepM σ1 im ∧ (∀ m, m < im 0 1 → VCm im m σ1) ∧ σ1.1 0 28 = σ.1 0 28 ∧ FLm σ σ1 := by
  have wc := wf_c hw
  intro c
  induction c with
  | zero =>
    intro i fuel σ hi hf hR hV
    obtain ⟨fuel, rfl⟩ : ∃ x, fuel = x + 1 := ⟨fuel - 1, by omega⟩
    have hn := hR.2.2.1
    refine ⟨σ, ?_, hR, fun m hm => hV m (by omega), rfl, ⟨fun _ _ _ _ _ _ _ _ _ => rfl, fun _ => rfl⟩⟩
    simp (disch := omega) only [F_Mo_load_26, hn, n_le, if_pos, ite_true, ite_false, if_true, if_false, Bool.false_eq_true, and_self, and_true, true_and, and_false, false_and]
  | succ c ih =>
    intro i fuel σ hi hf hR hV
    obtain ⟨fuel, rfl⟩ : ∃ x, fuel = x + 1 := ⟨fuel - 1, by omega⟩
    have hn := hR.2.2.1
    obtain ⟨s1, f1, k1, k2, b, k3, k4, k5⟩ := m_verify hw (show i < im 0 1 by omega) hR
    obtain ⟨σ1, g1, g2, g3, g4, g5⟩ := ih (i + 1) fuel s1 (by omega) (by omega) k2 (fun m hm => by
      by_cases e : m = i
      · rw [e]
        cases b with
        | true =>
          obtain ⟨R, r1, r2, r3, r4⟩ := k5 rfl
          exact ⟨true, R, k3, k4, fun _ => ⟨r1, r2, r3, r4⟩⟩
        | false => exact ⟨false, fun _ => none, k3, k4, (fun e => nomatch e)⟩
      · exact VCm_FvM hw (by omega) (hV m (by omega)) k1 e)
    refine ⟨σ1, ?_, g2, g3, ?_, ⟨fun f a1 a2 a3 a4 a5 a6 a7 a8 => ?_, fun f => ?_⟩⟩
    · simp (disch := omega) only [F_Mo_load_26, hn, n_le, if_neg, f1, lit32, n_add, g1, ite_true, ite_false, if_true, if_false, Bool.false_eq_true, and_self, and_true, true_and, and_false, false_and]
    · rw [g4, k1.1 _ _ (by omega)]
    · rw [g5.1 f a1 a2 a3 a4 a5 a6 a7 a8, k1.1 _ _ (by omega)]
    · rw [g5.2 f, k1.2.2.2.1 _ _ (by omega) (by omega) (by omega)]
/-- the image, in both -/
def ImgI (σc σm : SG) (im : Im) (IA IB : Nat) : Prop := σc.2.2.1 0 2 = IA ∧ σc.2.2.1 0 3 = IB ∧ ((IA = 2 ∧ IB = 60) ∨ (IA = 60 ∧ IB = 2)) ∧ (∃ y, RelC σc IB y) ∧ RepM σm im ∧ ((im 0 1 = 0 ∧ σc.1 IA 1 = Int32.ofNat 0 ∧ ∃ y, RelC σc IA y) ∨ (ImC σc IA im ∧ WfI im ∧ ∀ m, m < im 0 1 → VerI im m IA σc σm))
theorem isI2 : isC SHc 2 1 = true := by decide
theorem isI60 : isC SHc 60 1 = true := by decide
theorem load_sim {d : Nat → Nat} {n : Nat} {σc σm : SG} {im : Im} {IA IB : Nat} (hc : DrC d n σc) (hd : Drf d n σm) (h : ImgI σc σm im IA IB) :
    (∃ σc1 σm1, F_TE_load 0 σc = some (-Int32.ofNat 1, σc1) ∧ F_Mo_load 0 σm = some (-Int32.ofNat 1, σm1) ∧ Fa IB (IB + 58) (setP σc 118 0 1) σc1 ∧ (∃ y, RelC σc1 IB y) ∧ FaM σm σm1 ∧ RepM σm1 im) ∨
    (∃ σc1 σm1 im1, F_TE_load 0 σc = some (Int32.ofNat (im1 0 1), σc1) ∧ F_Mo_load 0 σm = some (Int32.ofNat (im1 0 1), σm1) ∧ DrC d n σc1 ∧ Drf d n σm1 ∧ ImgI σc1 σm1 im1 IB IA ∧ FLc IB σc σc1 ∧ FLm σm σm1 ∧ σc1.1 123 9 = Int32.ofNat 0 ∧ σc1.1 123 10 = Int32.ofNat 0 ∧ σm1.1 0 28 = Int32.ofNat 0) := by
  obtain ⟨hP2, hP3, hAB, ⟨yB, hyB⟩, hR, him⟩ := h
  have hc4 : cref SHc 0 4 = 118 := by decide
  have hc0 : cref SHc 0 0 = 1 := by decide
  have hIB : IB = 2 ∨ IB = 60 := by omega
  have hIA : IA = 2 ∨ IA = 60 := by omega
  have hcB : isC SHc IB 1 = true := by rcases hIB with e | e <;> rw [e] <;> decide
  have hcA : isC SHc IA 1 = true := by rcases hIA with e | e <;> rw [e] <;> decide
  obtain ⟨hc1, hn4, hcd⟩ := id hc
  obtain ⟨b, s1, f1, k1, k2, k3, k4⟩ := c_read hIB hcB hn4 hcd hyB
  obtain ⟨m1, f2, g2, q2⟩ := m_scan (K := false) hd hR
  have hrd : F_TE_load 0 σc = if b = true then (if isC SHc (s1.2.2.1 0 3) 1 = true then if isC SHc (s1.2.2.1 0 2) 1 = true then F_TE_load_44 5000 0 (Int32.ofNat 0) (setP (setP s1 0 3 (s1.2.2.1 0 2)) 0 2 (s1.2.2.1 0 3)) else none else none) else some (-Int32.ofNat 1, s1) := by
    cases b <;> simp (disch := omega) only [F_TE_load, hP3, hcB, if_pos, if_neg, hc4, hc0, hc1, f1, lit32, stl_e, ite_true, ite_false, if_true, if_false, Bool.false_eq_true, and_self, and_true, true_and, and_false, false_and]
  rcases par_all d n im yB with ⟨p1, p2⟩ | ⟨sM, sC, p1, p2, p3⟩
  · left
    have hb : b = false := by
      cases b with
      | false => rfl
      | true =>
        obtain ⟨s, hs⟩ := k1.mp rfl
        rw [p2] at hs
        cases hs
    subst hb
    rw [p1] at g2
    have hbad : zb (m1.1 0 3) = true := g2.2.2
    refine ⟨s1, m1, by rw [hrd]; rfl, ?_, k3, k4, q2, g2.2.1 rfl⟩
    simp (disch := omega) only [F_Mo_load, f2, hbad, if_pos, lit32, ite_true, ite_false, if_true, if_false, Bool.false_eq_true, and_self, and_true, true_and, and_false, false_and]
  · right
    have hb : b = true := k1.mpr ⟨sC, p2⟩
    subst hb
    have hRC : RelC s1 IB sC.1 := k2 sC p2
    rw [p1] at g2
    have hbad : zb (m1.1 0 3) = false := g2.2.2.1
    obtain ⟨m2, f3, g3, q3⟩ := m_scan (K := true) (im0 := im) g2.1 (g2.2.1 rfl)
    rw [p1] at g3
    have hRM : RepM m2 sM.1 := g3.2.2.2.2.2 rfl
    have hw : WfI sM.1 := ⟨sC.1, p3⟩
    have hn1 : s1.1 IB 1 = Int32.ofNat (sM.1 0 1) := by rw [RelC_c1 hRC, ← p3.2.2.1.1]
    have hs2 : s1.2.2.1 0 2 = IA := by rw [k3.2.1, rP, if_neg (by omega)]; exact hP2
    have hs3 : s1.2.2.1 0 3 = IB := by rw [k3.2.1, rP, if_neg (by omega)]; exact hP3
    have hIm : ImC (setP (setP s1 0 3 IA) 0 2 IB) IB sM.1 := ⟨hIB, hcB, sC.1, RelC_congr hRC (fun _ _ _ _ => rfl) (fun _ _ _ _ => rfl), p3⟩
    have wc := wf_c hw
    obtain ⟨c1, e1, e2, e3, e4, e5, e6, e7, e8⟩ := c_load_l (im := sM.1) (IA := IB) (sM.1 0 1) 0 5000 (setP (setP s1 0 3 IA) 0 2 IB) (by omega) (by omega) (by rw [rP, if_pos ⟨rfl, rfl⟩]) hIm (fun m hm => by omega)
    have hRM2 : RepM (setI m2 0 28 (Int32.ofNat 0)) sM.1 := by
      obtain ⟨x0, x1, x2, x3⟩ := hRM
      refine ⟨x0, ?_, ?_, x3⟩
      · rw [rI, if_neg (by omega)]; exact x1
      · rw [rI, if_neg (by omega)]; exact x2
    obtain ⟨m3, j1, j2, j3, j4, j5⟩ := m_load_l hw (sM.1 0 1) 0 5000 (setI m2 0 28 (Int32.ofNat 0)) (by omega) (by omega) hRM2 (fun m hm => by omega)
    have hFa : FLc IB σc (setP (setP s1 0 3 IA) 0 2 IB) := by
      refine ⟨k3.1, k3.2.2.1, fun x f h1 h2 h3 => ?_, fun x f h1 h2 h3 h4 => ?_, fun x f h1 h2 h3 => ?_⟩
      · rw [rP, if_neg (by omega), rP, if_neg (by omega), k3.2.1, rP, if_neg (by omega)]
      · exact k3.2.2.2.1 x f h2 h1
      · exact k3.2.2.2.2 x f h1
    have hFL := FLc_trans hFa e2
    refine ⟨c1, m3, sM.1, ?_, ?_, ?_, ?_, ?_, hFL, ?_, e7, e8, ?_⟩
    · rw [hrd, if_pos rfl, hs2, hs3, if_pos hcB, if_pos hcA]
      exact e1
    · simp (disch := omega) only [F_Mo_load, f2, hbad, if_neg, f3, stl_e, lit32, j1, ite_true, ite_false, if_true, if_false, Bool.false_eq_true, and_self, and_true, true_and, and_false, false_and]
    · refine ⟨by rw [hFL.2.2.2.1 _ _ (by omega) (by omega) (by omega) (by omega)]; exact hc1, hn4, fun k hk => ?_⟩
      rw [hFL.2.2.2.2 _ _ (by omega) (by omega) (by omega)]
      exact hcd k hk
    · obtain ⟨y1, y2, y3⟩ := g3.1
      refine ⟨?_, y2, fun k hk => ?_⟩
      · rw [j5.1 0 (by omega) (by omega) (by omega) (by omega) (by omega) (by omega) (by omega) (by omega), rI, if_neg (by omega)]; exact y1
      · rw [j5.2 k]; exact y3 k hk
    · refine ⟨e5, ?_, by omega, ?_, j2, Or.inr ⟨e3, hw, fun m hm => VerI_of (e4 m hm) (j3 m hm)⟩⟩
      · rw [e6, rP, if_neg (by omega), rP, if_pos ⟨rfl, rfl⟩]
      · obtain ⟨yA, hyA⟩ : ∃ y, RelC σc IA y := by
          rcases him with ⟨-, -, hy⟩ | ⟨hy, -⟩
          · exact hy
          · obtain ⟨-, -, y, hy, -⟩ := hy
            exact ⟨y, hy⟩
        refine ⟨yA, RelC_congr hyA (fun a f h1 h2 => hFL.2.2.2.1 a f (by omega) (by omega) (by omega) (by omega)) (fun a f h1 h2 => hFL.2.2.2.2 a f (by omega) (by omega) (by omega))⟩
    · refine ⟨fun f a1 a2 a3 a4 a5 a6 a7 a8 => ?_, fun f => ?_⟩
      · rw [j5.1 f a1 a2 a3 a4 a5 a6 a7 a8, rI, if_neg (by omega), q3.2.2.2.1 _ _ (by omega), q2.2.2.2.1 _ _ (by omega)]
      · rw [j5.2 f]
        show m2.2.2.2.1 1 f = _
        rw [q3.2.2.2.2 _ _ (by omega), q2.2.2.2.2 _ _ (by omega)]
    · rw [j4, rI, if_pos ⟨rfl, rfl⟩]
