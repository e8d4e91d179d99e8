/-! Rows of types: lists, the top first; the class keeps them in an int. -/
theorem n_eqw {x y : Nat} (hx : x < 4294967296) (hy : y < 4294967296) : (Int32.ofNat x = Int32.ofNat y) ↔ x = y := by
  constructor
  · intro h
    have h1 := congrArg (fun z : Int32 => z.toBitVec.toNat) h
    have h2 : x % 4294967296 = y % 4294967296 := h1
    omega
  · intro h
    rw [h]
theorem m1w : (-Int32.ofNat 1) = Int32.ofNat 4294967295 := by decide
def enc : List Nat → Nat
  | [] => 0
  | t :: l => enc l + t * 2 ^ (4 * l.length)
def Gr (l : List Nat) : Prop := l.length ≤ 8 ∧ ∀ t, t ∈ l → 1 ≤ t ∧ t < 15
def encO : Option (List Nat) → Int32
  | none => -Int32.ofNat 1
  | some l => Int32.ofNat (enc l)
def GO (o : Option (List Nat)) : Prop := ∀ l, o = some l → Gr l
def wth (t : Nat) (l : List Nat) : Option (List Nat) := if l.length < 8 ∧ t ≠ 0 then some (t :: l) else none
def wot (t : Nat) : List Nat → Option (List Nat)
  | [] => none
  | x :: l => if x = t ∧ t ≠ 0 then some l else none
theorem wot_c (t x : Nat) (l : List Nat) : wot t (x :: l) = if x = t ∧ t ≠ 0 then some l else none := rfl
theorem p4 (n : Nat) : 2 ^ (4 * (n + 1)) = 16 * 2 ^ (4 * n) := by
  rw [Nat.mul_add, Nat.pow_add, Nat.mul_comm]
theorem p_pos (n : Nat) : 1 ≤ 2 ^ (4 * n) := Nat.one_le_two_pow
theorem enc_lt : ∀ l : List Nat, (∀ t, t ∈ l → t < 16) → enc l < 2 ^ (4 * l.length)
  | [], _ => by decide
  | t :: l, h => by
    have h1 := enc_lt l (fun x hx => h x (List.mem_cons_of_mem _ hx))
    have h2 := h t List.mem_cons_self
    show enc l + t * 2 ^ (4 * l.length) < 2 ^ (4 * (l.length + 1))
    rw [p4]
    generalize 2 ^ (4 * l.length) = q at h1
    have h3 : t * q ≤ 15 * q := Nat.mul_le_mul_right q (by omega)
    omega
theorem Gr_tl {t : Nat} {l : List Nat} (h : Gr (t :: l)) : Gr l := by
  refine ⟨?_, fun x hx => h.2 x (List.mem_cons_of_mem _ hx)⟩
  have := h.1
  rw [List.length_cons] at this
  omega
theorem Gr_lt {l : List Nat} (h : Gr l) : enc l < 2 ^ (4 * l.length) := enc_lt l (fun t ht => by have := h.2 t ht; omega)
theorem p_mono {a b : Nat} (h : a ≤ b) : 2 ^ (4 * a) ≤ 2 ^ (4 * b) := Nat.pow_le_pow_right (by omega) (by omega)
theorem Gr_32 {l : List Nat} (h : Gr l) : enc l < 4294967295 := by
  cases l with
  | nil => decide
  | cons t l =>
    have h1 := Gr_lt (Gr_tl h)
    have h2 := h.2 t List.mem_cons_self
    have h3 := h.1
    rw [List.length_cons] at h3
    show enc l + t * 2 ^ (4 * l.length) < 4294967295
    have h4 : 2 ^ (4 * l.length) ≤ 2 ^ (4 * 7) := p_mono (by omega)
    have h6 : (2 : Nat) ^ (4 * 7) = 268435456 := by decide
    rw [h6] at h4
    generalize 2 ^ (4 * l.length) = q at h1 h4
    have h5 : t * q ≤ 14 * q := Nat.mul_le_mul_right q (by omega)
    omega
theorem enc_z {l : List Nat} (h : Gr l) (i : Nat) : enc l / 2 ^ (4 * i) = 0 ↔ l.length ≤ i := by
  constructor
  · intro z
    cases l with
    | nil => exact Nat.zero_le _
    | cons t l =>
      refine Nat.le_of_not_lt (fun c => ?_)
      rw [List.length_cons] at c
      have h2 := h.2 t List.mem_cons_self
      have h3 : 2 ^ (4 * i) ≤ 2 ^ (4 * l.length) := p_mono (by omega)
      have h4 : enc (t :: l) < 2 ^ (4 * i) := by
        rcases Nat.div_eq_zero_iff.mp z with w | w
        · have := p_pos i; omega
        · exact w
      have h5 : enc (t :: l) = enc l + t * 2 ^ (4 * l.length) := rfl
      have h6 : 1 * 2 ^ (4 * l.length) ≤ t * 2 ^ (4 * l.length) := Nat.mul_le_mul_right _ h2.1
      omega
  · intro z
    exact Nat.div_eq_of_lt (Nat.lt_of_lt_of_le (Gr_lt h) (p_mono z))
theorem div32 {e k : Nat} (he : e < 4294967296) : e / k < 4294967296 := Nat.lt_of_le_of_lt (Nat.div_le_self _ _) he
theorem size_any (e : Nat) (he : e < 4294967296) (σ : SG) : ∀ c i fuel, i + c = 8 → c < fuel → ∃ k, k ≤ 8 ∧ F_Rw_size_2 fuel (Int32.ofNat e) (Int32.ofNat i) σ = some (Int32.ofNat k, σ) := by
  intro c
  induction c with
  | zero =>
    intro i fuel hi hf
    obtain ⟨fuel, rfl⟩ : ∃ x, fuel = x + 1 := ⟨fuel - 1, by omega⟩
    refine ⟨i, by omega, ?_⟩
    simp (disch := omega) only [F_Rw_size_2, F_Rw_size_22, lit32, n_le, if_pos, ite_true, ite_false, if_true, if_false, Bool.false_eq_true, and_self, and_true, true_and, and_false, false_and]
  | succ c ih =>
    intro i fuel hi hf
    obtain ⟨fuel, rfl⟩ : ∃ x, fuel = x + 1 := ⟨fuel - 1, by omega⟩
    by_cases z : e / 2 ^ (4 * i) = 0
    · refine ⟨i, by omega, ?_⟩
      simp (disch := omega) only [F_Rw_size_2, F_Rw_size_22, lit32, n_le, if_neg, n_mul, i_shr, z, if_pos, ite_true, ite_false, if_true, if_false, Bool.false_eq_true, and_self, and_true, true_and, and_false, false_and]
    · obtain ⟨k, hk, h⟩ := ih (i + 1) fuel (by omega) (by omega)
      refine ⟨k, hk, ?_⟩
      have z2 : ¬ (Int32.ofNat (e / 2 ^ (4 * i)) = Int32.ofNat 0) := by rw [n_eqw (div32 he) (by omega)]; exact z
      simp (disch := omega) only [F_Rw_size_2, lit32, n_le, if_neg, n_mul, i_shr, z2, n_add, h, ite_true, ite_false, if_true, if_false, Bool.false_eq_true, and_self, and_true, true_and, and_false, false_and]
theorem size_row {l : List Nat} (hl : Gr l) (σ : SG) : ∀ c i fuel, i + c = l.length → c < fuel → F_Rw_size_2 fuel (Int32.ofNat (enc l)) (Int32.ofNat i) σ = some (Int32.ofNat l.length, σ) := by
  have he := Gr_32 hl
  have hl8 := hl.1
  intro c
  induction c with
  | zero =>
    intro i fuel hi hf
    obtain ⟨fuel, rfl⟩ : ∃ x, fuel = x + 1 := ⟨fuel - 1, by omega⟩
    have e : i = l.length := by omega
    by_cases c8 : 8 ≤ i
    · simp (disch := omega) only [F_Rw_size_2, F_Rw_size_22, lit32, n_le, if_pos, e, ite_true, ite_false, if_true, if_false, Bool.false_eq_true, and_self, and_true, true_and, and_false, false_and]
    · have z := (enc_z hl i).mpr (by omega)
      simp (disch := omega) only [F_Rw_size_2, F_Rw_size_22, lit32, n_le, if_neg, n_mul, i_shr, z, if_pos, ite_true, ite_false, if_true, if_false, Bool.false_eq_true, and_self, and_true, true_and, and_false, false_and]
      rw [e]
  | succ c ih =>
    intro i fuel hi hf
    obtain ⟨fuel, rfl⟩ : ∃ x, fuel = x + 1 := ⟨fuel - 1, by omega⟩
    have z : ¬ enc l / 2 ^ (4 * i) = 0 := by rw [enc_z hl i]; omega
    have h := ih (i + 1) fuel (by omega) (by omega)
    have z2 : ¬ (Int32.ofNat (enc l / 2 ^ (4 * i)) = Int32.ofNat 0) := by rw [n_eqw (div32 (by omega)) (by omega)]; exact z
    simp (disch := omega) only [F_Rw_size_2, lit32, n_le, if_neg, n_mul, i_shr, z2, n_add, h, ite_true, ite_false, if_true, if_false, Bool.false_eq_true, and_self, and_true, true_and, and_false, false_and]
theorem f_size {l : List Nat} (hl : Gr l) (σ : SG) : F_Rw_size (Int32.ofNat (enc l)) σ = some (Int32.ofNat l.length, σ) := by
  have h := size_row hl σ l.length 0 5000 (by omega) (by have := hl.1; omega)
  simp (disch := omega) only [F_Rw_size, lit32, h, ite_true, ite_false, if_true, if_false, Bool.false_eq_true, and_self, and_true, true_and, and_false, false_and]
theorem f_sizeN (σ : SG) : ∃ k, k ≤ 8 ∧ F_Rw_size (-Int32.ofNat 1) σ = some (Int32.ofNat k, σ) := by
  obtain ⟨k, hk, h⟩ := size_any 4294967295 (by omega) σ 8 0 5000 (by omega) (by omega)
  refine ⟨k, hk, ?_⟩
  rw [m1w]
  simp (disch := omega) only [F_Rw_size, lit32, h, ite_true, ite_false, if_true, if_false, Bool.false_eq_true, and_self, and_true, true_and, and_false, false_and]
theorem f_typeAt {e i : Nat} (he : e < 4294967296) (hi : i < 8) (σ : SG) : F_Rw_typeAt (Int32.ofNat e) (Int32.ofNat i) σ = some (Int32.ofNat (e / 2 ^ (4 * i) % 16), σ) := by
  simp (disch := omega) only [F_Rw_typeAt, F_Rw_typeAt_22, lit32, n_nl0, n_lt, if_pos, if_neg, n_mul, i_shr, i_and, b_15, ite_true, ite_false, if_true, if_false, Bool.false_eq_true, and_self, and_true, true_and, and_false, false_and]
theorem f_typeAt0 {x y : Int32} (hi : y < 0) (σ : SG) : F_Rw_typeAt x y σ = some (Int32.ofNat 0, σ) := by
  unfold F_Rw_typeAt
  rw [if_pos hi]
  rfl
theorem f_typeAt8 {x : Int32} {i : Nat} (h : 8 ≤ i) (h2 : i < 2147483648) (σ : SG) : F_Rw_typeAt x (Int32.ofNat i) σ = some (Int32.ofNat 0, σ) := by
  simp (disch := omega) only [F_Rw_typeAt, F_Rw_typeAt_10, F_Rw_typeAt_22, lit32, n_nl0, n_lt, if_neg, ite_true, ite_false, if_true, if_false, Bool.false_eq_true, and_self, and_true, true_and, and_false, false_and]
theorem enc_top {t : Nat} {l : List Nat} (h : Gr (t :: l)) : enc (t :: l) / 2 ^ (4 * l.length) % 16 = t := by
  have h1 := Gr_lt (Gr_tl h)
  have h2 := h.2 t List.mem_cons_self
  show (enc l + t * 2 ^ (4 * l.length)) / 2 ^ (4 * l.length) % 16 = t
  rw [Nat.add_mul_div_right _ _ (p_pos _), Nat.div_eq_of_lt h1]
  omega
theorem enc_tl {t : Nat} {l : List Nat} (h : Gr (t :: l)) : enc (t :: l) % 2 ^ (4 * l.length) = enc l := by
  have h1 := Gr_lt (Gr_tl h)
  show (enc l + t * 2 ^ (4 * l.length)) % 2 ^ (4 * l.length) = enc l
  rw [Nat.add_mul_mod_self_right, Nat.mod_eq_of_lt h1]
theorem f_with {o : Option (List Nat)} {t : Nat} (ho : GO o) (ht : t < 15) (σ : SG) : F_Rw_with (encO o) (Int32.ofNat t) σ = some (encO (o.bind (wth t)), σ) := by
  cases o with
  | none =>
    obtain ⟨k, hk, h⟩ := f_sizeN σ
    show F_Rw_with (-Int32.ofNat 1) (Int32.ofNat t) σ = some (-Int32.ofNat 1, σ)
    simp (disch := omega) only [F_Rw_with, F_Rw_with_20, lit32, h, if_pos, ite_true, ite_false, if_true, if_false, Bool.false_eq_true, and_self, and_true, true_and, and_false, false_and]
  | some l =>
    have hl := ho l rfl
    have he := Gr_32 hl
    have hs := f_size hl σ
    have h8 := hl.1
    have hn : ¬ (Int32.ofNat (enc l) = -Int32.ofNat 1) := by rw [m1w, n_eqw (by omega) (by omega)]; omega
    show F_Rw_with (Int32.ofNat (enc l)) (Int32.ofNat t) σ = some (encO (wth t l), σ)
    unfold wth
    by_cases c8 : l.length < 8
    · by_cases c0 : t = 0
      · rw [if_neg (fun z => z.2 c0), c0]
        simp (disch := omega) only [F_Rw_with, F_Rw_with_20, lit32, hs, hn, n_le, if_neg, if_pos, encO, ite_true, ite_false, if_true, if_false, Bool.false_eq_true, and_self, and_true, true_and, and_false, false_and]
      · rw [if_pos ⟨c8, c0⟩]
        have e : Int32.ofNat (enc l) ||| Int32.ofNat (t * 2 ^ (4 * l.length)) = Int32.ofNat (enc (t :: l)) := by
          rw [i_or, b_or _ _ _ (Gr_lt hl)]
          rfl
        simp (disch := omega) only [F_Rw_with, F_Rw_with_20, lit32, hs, hn, n_le, n_eq, if_neg, n_mul, i_shl, e, encO, ite_true, ite_false, if_true, if_false, Bool.false_eq_true, and_self, and_true, true_and, and_false, false_and]
    · rw [if_neg (fun z => c8 z.1)]
      simp (disch := omega) only [F_Rw_with, F_Rw_with_20, lit32, hs, hn, n_le, if_neg, if_pos, encO, ite_true, ite_false, if_true, if_false, Bool.false_eq_true, and_self, and_true, true_and, and_false, false_and]
theorem f_without {o : Option (List Nat)} {t : Nat} (ho : GO o) (ht : t < 15) (σ : SG) : F_Rw_without (encO o) (Int32.ofNat t) σ = some (encO (o.bind (wot t)), σ) := by
  cases o with
  | none =>
    obtain ⟨k, hk, h⟩ := f_sizeN σ
    show F_Rw_without (-Int32.ofNat 1) (Int32.ofNat t) σ = some (-Int32.ofNat 1, σ)
    simp (disch := omega) only [F_Rw_without, F_Rw_without_29, lit32, h, if_pos, ite_true, ite_false, if_true, if_false, Bool.false_eq_true, and_self, and_true, true_and, and_false, false_and]
  | some l =>
    have hl := ho l rfl
    have he := Gr_32 hl
    have hs := f_size hl σ
    have h8 := hl.1
    have hn : ¬ (Int32.ofNat (enc l) = -Int32.ofNat 1) := by rw [m1w, n_eqw (by omega) (by omega)]; omega
    show F_Rw_without (Int32.ofNat (enc l)) (Int32.ofNat t) σ = some (encO (wot t l), σ)
    cases l with
    | nil =>
      have hneg : Int32.ofNat 0 - Int32.ofNat 1 < Int32.ofNat 0 := by decide
      simp (disch := omega) only [F_Rw_without, F_Rw_without_29, lit32, hs, hn, if_neg, List.length_nil, hneg, if_pos, encO, wot, ite_true, ite_false, if_true, if_false, Bool.false_eq_true, and_self, and_true, true_and, and_false, false_and]
    | cons x l =>
      rw [List.length_cons] at h8
      have htx := hl.2 x List.mem_cons_self
      rw [wot_c]
      by_cases c0 : t = 0
      · rw [if_neg (fun z => z.2 c0), c0]
        simp (disch := omega) only [F_Rw_without, F_Rw_without_29, lit32, hs, hn, if_neg, List.length_cons, n_sub, Nat.add_sub_cancel, n_nl0, if_pos, encO, ite_true, ite_false, if_true, if_false, Bool.false_eq_true, and_self, and_true, true_and, and_false, false_and]
      · have hty := f_typeAt (e := enc (x :: l)) (i := l.length) (by omega) (by omega) σ
        rw [enc_top hl] at hty
        by_cases c : x = t
        · rw [if_pos ⟨c, c0⟩]
          have hclr := i_clr (enc (x :: l)) l.length (by omega) (by have := Gr_lt hl; rw [List.length_cons] at this; exact this)
          rw [enc_tl hl] at hclr
          subst c
          simp (disch := omega) only [F_Rw_without, F_Rw_without_29, lit32, hs, hn, if_neg, List.length_cons, n_sub, Nat.add_sub_cancel, n_nl0, n_eq, hty, if_pos, n_mul, encO, hclr, ite_true, ite_false, if_true, if_false, Bool.false_eq_true, and_self, and_true, true_and, and_false, false_and]
        · rw [if_neg (fun z => c z.1)]
          simp (disch := omega) only [F_Rw_without, F_Rw_without_29, lit32, hs, hn, if_neg, List.length_cons, n_sub, Nat.add_sub_cancel, n_nl0, n_eq, hty, encO, ite_true, ite_false, if_true, if_false, Bool.false_eq_true, and_self, and_true, true_and, and_false, false_and]
theorem f_top {l : List Nat} (hl : Gr l) (σ : SG) : F_Rw_top (Int32.ofNat (enc l)) σ = some (Int32.ofNat (l.headD 0), σ) := by
  have he := Gr_32 hl
  have hs := f_size hl σ
  have h8 := hl.1
  cases l with
  | nil =>
    have hneg : Int32.ofNat 0 - Int32.ofNat 1 < 0 := by decide
    have h := f_typeAt0 (x := Int32.ofNat (enc [])) hneg σ
    simp (disch := omega) only [F_Rw_top, lit32, hs, List.length_nil, h, ite_true, ite_false, if_true, if_false, Bool.false_eq_true, and_self, and_true, true_and, and_false, false_and]
    rfl
  | cons x l =>
    rw [List.length_cons] at h8
    have hty := f_typeAt (e := enc (x :: l)) (i := l.length) (by omega) (by omega) σ
    rw [enc_top hl] at hty
    simp (disch := omega) only [F_Rw_top, lit32, hs, List.length_cons, n_sub, Nat.add_sub_cancel, hty, ite_true, ite_false, if_true, if_false, Bool.false_eq_true, and_self, and_true, true_and, and_false, false_and]
    rfl
theorem GO_wth {o : Option (List Nat)} {t : Nat} (ho : GO o) (ht : t < 15) : GO (o.bind (wth t)) := by
  intro l hl
  cases o with
  | none => cases hl
  | some x =>
    have hx := ho x rfl
    have hl' : wth t x = some l := hl
    unfold wth at hl'
    by_cases c : x.length < 8 ∧ t ≠ 0
    · rw [if_pos c] at hl'
      cases hl'
      refine ⟨by rw [List.length_cons]; omega, fun y hy => ?_⟩
      rcases List.mem_cons.mp hy with rfl | hy
      · omega
      · exact hx.2 y hy
    · rw [if_neg c] at hl'
      cases hl'
theorem GO_wot {o : Option (List Nat)} {t : Nat} (ho : GO o) : GO (o.bind (wot t)) := by
  intro l hl
  cases o with
  | none => cases hl
  | some x =>
    have hx := ho x rfl
    have hl' : wot t x = some l := hl
    cases x with
    | nil => cases hl'
    | cons y x =>
      rw [wot_c] at hl'
      by_cases c : y = t ∧ t ≠ 0
      · rw [if_pos c] at hl'
        cases hl'
        exact Gr_tl hx
      · rw [if_neg c] at hl'
        cases hl'
theorem encO_none {o : Option (List Nat)} (ho : GO o) : encO o = -Int32.ofNat 1 ↔ o = none := by
  cases o with
  | none => simp [encO]
  | some l =>
    have he := Gr_32 (ho l rfl)
    have h : ¬ (encO (some l) = -Int32.ofNat 1) := by
      show ¬ (Int32.ofNat (enc l) = -Int32.ofNat 1)
      rw [m1w, n_eqw (by omega) (by omega)]
      omega
    exact ⟨fun z => absurd z h, fun z => by cases z⟩
theorem enc_inj {l : List Nat} : ∀ {r : List Nat}, Gr l → Gr r → enc l = enc r → l = r := by
  induction l with
  | nil =>
    intro r hl hr h
    cases r with
    | nil => rfl
    | cons t r =>
      have z := (enc_z hr 0).mp (by rw [← h]; rfl)
      rw [List.length_cons] at z
      omega
  | cons x l ih =>
    intro r hl hr h
    have hlen : (x :: l).length = r.length := by
      have a := (enc_z hl r.length).mp (by rw [h]; exact (enc_z hr _).mpr (Nat.le_refl _))
      have b := (enc_z hr (x :: l).length).mp (by rw [← h]; exact (enc_z hl _).mpr (Nat.le_refl _))
      omega
    cases r with
    | nil => cases hlen
    | cons y r =>
      have hlen' : l.length = r.length := by
        rw [List.length_cons, List.length_cons] at hlen
        omega
      have e1 := enc_top hl
      have e2 := enc_top hr
      rw [h, hlen'] at e1
      have e3 := enc_tl hl
      have e4 := enc_tl hr
      rw [h, hlen'] at e3
      rw [ih (Gr_tl hl) (Gr_tl hr) (by omega)]
      rw [show x = y by omega]
theorem encO_inj {o p : Option (List Nat)} (ho : GO o) (hp : GO p) : encO o = encO p ↔ o = p := by
  constructor
  · intro h
    cases o with
    | none => exact ((encO_none hp).mp h.symm).symm
    | some l =>
      cases p with
      | none => exact (encO_none ho).mp h
      | some r =>
        have h1 := Gr_32 (ho l rfl)
        have h2 := Gr_32 (hp r rfl)
        have h3 : enc l = enc r := (n_eqw (by omega) (by omega)).mp h
        rw [enc_inj (ho l rfl) (hp r rfl) h3]
  · intro h
    rw [h]
