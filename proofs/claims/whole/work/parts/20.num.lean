/-! Numbers and states: what layer 3 reckons with. -/
theorem lit32 (k : Nat) : (no_index (OfNat.ofNat k) : Int32) = Int32.ofNat (OfNat.ofNat k) := by cases k <;> rfl
theorem stl_e {α : Type} (s : SG) (f : SG → α) : stl s f = f s := by
  cases s with
  | mk a b => rfl
theorem n_le {m n : Nat} (hm : m < 2147483648) (hn : n < 2147483648) : (Int32.ofNat m ≤ Int32.ofNat n) ↔ m ≤ n := Int32.ofNat_le_iff_le hm hn
theorem n_lt {m n : Nat} (hm : m < 2147483648) (hn : n < 2147483648) : (Int32.ofNat m < Int32.ofNat n) ↔ m < n := Int32.ofNat_lt_iff_lt hm hn
theorem n_int {m : Nat} (hm : m < 2147483648) : (Int32.ofNat m).toInt = m := Int32.toInt_ofNat_of_lt hm
theorem n_eq {m n : Nat} (hm : m < 2147483648) (hn : n < 2147483648) : (Int32.ofNat m = Int32.ofNat n) ↔ m = n := by
  constructor
  · intro h
    have h1 := congrArg Int32.toInt h
    rw [n_int hm, n_int hn] at h1
    omega
  · intro h
    rw [h]
theorem n_add (m n : Nat) : Int32.ofNat m + Int32.ofNat n = Int32.ofNat (m + n) := (Int32.ofNat_add m n).symm
theorem n_mul (m n : Nat) : Int32.ofNat m * Int32.ofNat n = Int32.ofNat (m * n) := (Int32.ofNat_mul m n).symm
theorem n_sub {m n : Nat} (h : n ≤ m) : Int32.ofNat m - Int32.ofNat n = Int32.ofNat (m - n) := (Int32.ofNat_sub m n h).symm
theorem n_div {m n : Nat} (hm : m < 2147483648) (hn : n < 2147483648) : Int32.ofNat m / Int32.ofNat n = Int32.ofNat (m / n) := (Int32.ofNat_div hm hn).symm
theorem n_cl {m : Nat} (hm : m < 2147483648) : (Int32.ofNat m).toNatClampNeg = m := Int32.toNatClampNeg_ofNat_of_lt hm
theorem n_m1i : ((-1) : Int32).toInt = -1 := by decide
theorem n_ne1 {m : Nat} (hm : m < 2147483648) : (Int32.ofNat m = -Int32.ofNat 1) ↔ False := by
  constructor
  · intro h
    have h1 := congrArg Int32.toInt h
    rw [n_int hm] at h1
    have h2 : (-Int32.ofNat 1).toInt = -1 := by decide
    omega
  · exact False.elim
theorem n_1ne {m : Nat} (hm : m < 2147483648) : (-Int32.ofNat 1 = Int32.ofNat m) ↔ False := by
  rw [eq_comm]
  exact n_ne1 hm
theorem n_1lt {m : Nat} (hm : m < 2147483648) : (-Int32.ofNat 1 < Int32.ofNat m) ↔ True := by
  rw [Int32.lt_iff_toInt_lt, n_int hm]
  have h2 : (-Int32.ofNat 1).toInt = -1 := by decide
  simp only [iff_true]
  omega
theorem n_1le {m : Nat} (hm : m < 2147483648) : (-Int32.ofNat 1 ≤ Int32.ofNat m) ↔ True := by
  rw [Int32.le_iff_toInt_le, n_int hm]
  have h2 : (-Int32.ofNat 1).toInt = -1 := by decide
  simp only [iff_true]
  omega
theorem n_le1 {m : Nat} (hm : m < 2147483648) : (Int32.ofNat m ≤ -Int32.ofNat 1) ↔ False := by
  rw [Int32.le_iff_toInt_le, n_int hm]
  have h2 : (-Int32.ofNat 1).toInt = -1 := by decide
  simp only [iff_false]
  omega
theorem n_lt1 {m : Nat} (hm : m < 2147483648) : (Int32.ofNat m < -Int32.ofNat 1) ↔ False := by
  rw [Int32.lt_iff_toInt_lt, n_int hm]
  have h2 : (-Int32.ofNat 1).toInt = -1 := by decide
  simp only [iff_false]
  omega
theorem n_nn (x : Int32) (h : ¬ x < 0) : ∃ m, m < 2147483648 ∧ x = Int32.ofNat m := by
  have h1 : (0 : Int32) ≤ x := by
    rw [Int32.le_iff_toInt_le]
    rw [Int32.lt_iff_toInt_lt] at h
    omega
  exact ⟨x.toNatClampNeg, Int32.toNatClampNeg_lt x, (Int32.ofNat_toNatClampNeg x h1).symm⟩
theorem n_case (x : Int32) : x < 0 ∨ ∃ m, m < 2147483648 ∧ x = Int32.ofNat m := by
  by_cases h : x < 0
  · exact Or.inl h
  · exact Or.inr (n_nn x h)
theorem n_ltr {x : Int32} {m : Nat} (hx : x < 0) (hm : m < 2147483648) : (x < Int32.ofNat m) := by
  rw [Int32.lt_iff_toInt_lt] at hx ⊢
  rw [n_int hm]
  have h2 : (0 : Int32).toInt = 0 := by decide
  omega
theorem n_nle {x : Int32} {m : Nat} (hx : x < 0) (hm : m < 2147483648) : ¬ (Int32.ofNat m ≤ x) := by
  rw [Int32.lt_iff_toInt_lt] at hx
  rw [Int32.le_iff_toInt_le, n_int hm]
  have h2 : (0 : Int32).toInt = 0 := by decide
  omega
theorem n_nlt {x : Int32} {m : Nat} (hx : x < 0) (hm : m < 2147483648) : ¬ (Int32.ofNat m < x) := by
  rw [Int32.lt_iff_toInt_lt] at hx
  rw [Int32.lt_iff_toInt_lt, n_int hm]
  have h2 : (0 : Int32).toInt = 0 := by decide
  omega
theorem n_nl0 {m : Nat} (hm : m < 2147483648) : (Int32.ofNat m < Int32.ofNat 0) ↔ False := by
  rw [n_lt hm (by omega)]
  simp
/-- reading a state behind a writing -/
theorem rI (σ : SG) (k f : Nat) (v : Int32) (a g : Nat) : (setI σ k f v).1 a g = if a = k ∧ g = f then v else σ.1 a g := rfl
theorem rI2 (σ : SG) (k f : Nat) (v : Int32) : (setI σ k f v).2 = σ.2 := rfl
theorem rJ1 (σ : SG) (k f : Nat) (v : Int64) : (setJ σ k f v).1 = σ.1 := rfl
theorem rJ (σ : SG) (k f : Nat) (v : Int64) (a g : Nat) : (setJ σ k f v).2.1 a g = if a = k ∧ g = f then v else σ.2.1 a g := rfl
theorem rJ2 (σ : SG) (k f : Nat) (v : Int64) : (setJ σ k f v).2.2 = σ.2.2 := rfl
theorem rP1 (σ : SG) (k f v : Nat) : (setP σ k f v).1 = σ.1 := rfl
theorem rP2 (σ : SG) (k f v : Nat) : (setP σ k f v).2.1 = σ.2.1 := rfl
theorem rP (σ : SG) (k f v : Nat) (a g : Nat) : (setP σ k f v).2.2.1 a g = if a = k ∧ g = f then v else σ.2.2.1 a g := rfl
theorem rP3 (σ : SG) (k f v : Nat) : (setP σ k f v).2.2.2 = σ.2.2.2 := rfl
theorem rA1 (σ : SG) (k f : Nat) (v : Int32) : (setA σ k f v).1 = σ.1 := rfl
theorem rA2 (σ : SG) (k f : Nat) (v : Int32) : (setA σ k f v).2.1 = σ.2.1 := rfl
theorem rA3 (σ : SG) (k f : Nat) (v : Int32) : (setA σ k f v).2.2.1 = σ.2.2.1 := rfl
theorem rA (σ : SG) (k f : Nat) (v : Int32) (a g : Nat) : (setA σ k f v).2.2.2.1 a g = if a = k ∧ g = f then v else σ.2.2.2.1 a g := rfl
theorem rA4 (σ : SG) (k f : Nat) (v : Int32) : (setA σ k f v).2.2.2.2 = σ.2.2.2.2 := rfl
theorem rL1 (σ : SG) (k f : Nat) (v : Int64) : (setL σ k f v).1 = σ.1 := rfl
theorem rL2 (σ : SG) (k f : Nat) (v : Int64) : (setL σ k f v).2.1 = σ.2.1 := rfl
theorem rL3 (σ : SG) (k f : Nat) (v : Int64) : (setL σ k f v).2.2.1 = σ.2.2.1 := rfl
theorem rL4 (σ : SG) (k f : Nat) (v : Int64) : (setL σ k f v).2.2.2.1 = σ.2.2.2.1 := rfl
theorem rL (σ : SG) (k f : Nat) (v : Int64) (a g : Nat) : (setL σ k f v).2.2.2.2 a g = if a = k ∧ g = f then v else σ.2.2.2.2 a g := rfl
theorem zbz (x : Bool) : zb (bz x) = x := by cases x <;> decide
theorem zb0 : zb (Int32.ofNat 0) = false := by decide
theorem zb1 : zb (Int32.ofNat 1) = true := by decide
theorem bzt : bz true = Int32.ofNat 1 := rfl
theorem bzf : bz false = Int32.ofNat 0 := rfl
/-- where the class's rows lie -/
theorem cM5 {a : Nat} (h : isC SHc a 2 = true) : cref SHc a 5 = a + 1 := by
  have h1 : ∀ k, k < 176 → isC SHc k 2 = true → cref SHc k 5 = k + 1 := by decide +kernel
  exact h1 a (isC_lt h) h
theorem cM6 {a : Nat} (h : isC SHc a 2 = true) : cref SHc a 6 = a + 2 := by
  have h1 : ∀ k, k < 176 → isC SHc k 2 = true → cref SHc k 6 = k + 2 := by decide +kernel
  exact h1 a (isC_lt h) h
theorem cM7 {a : Nat} (h : isC SHc a 2 = true) : cref SHc a 7 = a + 3 := by
  have h1 : ∀ k, k < 176 → isC SHc k 2 = true → cref SHc k 7 = k + 3 := by decide +kernel
  exact h1 a (isC_lt h) h
theorem cM8 {a : Nat} (h : isC SHc a 2 = true) : cref SHc a 8 = a + 7 := by
  have h1 : ∀ k, k < 176 → isC SHc k 2 = true → cref SHc k 8 = k + 7 := by decide +kernel
  exact h1 a (isC_lt h) h
theorem cM10 {a : Nat} (h : isC SHc a 2 = true) : cref SHc a 10 = a + 8 := by
  have h1 : ∀ k, k < 176 → isC SHc k 2 = true → cref SHc k 10 = k + 8 := by decide +kernel
  exact h1 a (isC_lt h) h
theorem cMr {a r : Nat} (h : isC SHc a 2 = true) (hr : r < 3) : relem SHc (a + 3) r = a + 4 + r := by
  have h1 : ∀ k, k < 176 → isC SHc k 2 = true → ∀ r, r < 3 → relem SHc (k + 3) r = k + 4 + r := by decide +kernel
  exact h1 a (isC_lt h) h r hr
theorem cI2 {a : Nat} (h : isC SHc a 1 = true) : cref SHc a 2 = a + 1 := by
  have h1 : ∀ k, k < 176 → isC SHc k 1 = true → cref SHc k 2 = k + 1 := by decide +kernel
  exact h1 a (isC_lt h) h
theorem cI3 {a : Nat} (h : isC SHc a 1 = true) : cref SHc a 3 = a + 2 := by
  have h1 : ∀ k, k < 176 → isC SHc k 1 = true → cref SHc k 3 = k + 2 := by decide +kernel
  exact h1 a (isC_lt h) h
theorem cI4 {a : Nat} (h : isC SHc a 1 = true) : cref SHc a 4 = a + 3 := by
  have h1 : ∀ k, k < 176 → isC SHc k 1 = true → cref SHc k 4 = k + 3 := by decide +kernel
  exact h1 a (isC_lt h) h
theorem cIm {a m : Nat} (h : isC SHc a 1 = true) (hm : m < 6) : relem SHc (a + 3) m = a + 4 + 9 * m := by
  have h1 : ∀ k, k < 176 → isC SHc k 1 = true → ∀ m, m < 6 → relem SHc (k + 3) m = k + 4 + 9 * m := by decide +kernel
  exact h1 a (isC_lt h) h m hm
theorem isIm {a : Nat} (h : isC SHc a 1 = true) : a = 2 ∨ a = 60 := by
  have h1 : ∀ k, k < 176 → isC SHc k 1 = true → k = 2 ∨ k = 60 := by decide +kernel
  exact h1 a (isC_lt h) h
theorem isMe {a m : Nat} (h : isC SHc a 1 = true) (hm : m < 6) : isC SHc (a + 4 + 9 * m) 2 = true := by
  have h1 : ∀ k, k < 176 → isC SHc k 1 = true → ∀ m, m < 6 → isC SHc (k + 4 + 9 * m) 2 = true := by decide +kernel
  exact h1 a (isC_lt h) h m hm
theorem isRg {a r : Nat} (h : isC SHc a 2 = true) (hr : r < 3) : isC SHc (a + 4 + r) 4 = true := by
  have h1 : ∀ k, k < 176 → isC SHc k 2 = true → ∀ r, r < 3 → isC SHc (k + 4 + r) 4 = true := by decide +kernel
  exact h1 a (isC_lt h) h r hr
/-- where the reference's rows lie -/
theorem cm_1 : cref SHm 0 1 = 1 := by decide
theorem cm_5 : cref SHm 0 5 = 2 := by decide
theorem cm_6 : cref SHm 0 6 = 3 := by decide
theorem cm_8 : cref SHm 0 8 = 4 := by decide
theorem cm_9 : cref SHm 0 9 = 5 := by decide
theorem cm_10 : cref SHm 0 10 = 6 := by decide
theorem cm_11 : cref SHm 0 11 = 7 := by decide
theorem cm_12 : cref SHm 0 12 = 8 := by decide
theorem cm_13 : cref SHm 0 13 = 9 := by decide
theorem cm_14 : cref SHm 0 14 = 10 := by decide
theorem cm_15 : cref SHm 0 15 = 11 := by decide
theorem cm_16 : cref SHm 0 16 = 12 := by decide
theorem cm_17 : cref SHm 0 17 = 13 := by decide
theorem cm_18 : cref SHm 0 18 = 14 := by decide
theorem cm_19 : cref SHm 0 19 = 15 := by decide
theorem cm_20 : cref SHm 0 20 = 16 := by decide
theorem cm_21 : cref SHm 0 21 = 17 := by decide
theorem cm_22 : cref SHm 0 22 = 18 := by decide
theorem cm_23 : cref SHm 0 23 = 19 := by decide
theorem cm_32 : cref SHm 0 32 = 20 := by decide
theorem cm_33 : cref SHm 0 33 = 21 := by decide
theorem cm_34 : cref SHm 0 34 = 22 := by decide
theorem cm_35 : cref SHm 0 35 = 23 := by decide
theorem cm_36 : cref SHm 0 36 = 24 := by decide
theorem cm_37 : cref SHm 0 37 = 25 := by decide
theorem cm_38 : cref SHm 0 38 = 26 := by decide
theorem cm_39 : cref SHm 0 39 = 27 := by decide
theorem cm_40 : cref SHm 0 40 = 28 := by decide
theorem cm_41 : cref SHm 0 41 = 29 := by decide
theorem cm_42 : cref SHm 0 42 = 30 := by decide
theorem cm_43 : cref SHm 0 43 = 31 := by decide
theorem cm_45 : cref SHm 0 45 = 32 := by decide
