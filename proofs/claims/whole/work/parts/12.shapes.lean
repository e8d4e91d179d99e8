/-! The cells' shapes behind the constructors; what is constant in them. -/
def stl {α : Type} (s : SG) (f : SG → α) : α := f s
theorem stl_eq {α : Type} (s : SG) (f : SG → α) : stl s f = f s := rfl
def SHc : List SH := [.inl (7, [1, 0, 0, 0, 118, 120, 123]), .inr (0, 400, []), .inl (1, [0, 0, 3, 4, 5]), .inr (0, 4, []), .inr (0, 16, []), .inr (3, 6, [6, 15, 24, 33, 42, 51]), .inl (2, [0, 0, 0, 0, 0, 7, 8, 9, 13, 0, 14, 0]), .inr (0, 3, []), .inr (0, 4, []), .inr (4, 3, [10, 11, 12]), .inl (4, [0, 0, 0, 0]), .inl (4, [0, 0, 0, 0]), .inl (4, [0, 0, 0, 0]), .inr (0, 100, []), .inr (0, 100, []), .inl (2, [0, 0, 0, 0, 0, 16, 17, 18, 22, 0, 23, 0]), .inr (0, 3, []), .inr (0, 4, []), .inr (4, 3, [19, 20, 21]), .inl (4, [0, 0, 0, 0]), .inl (4, [0, 0, 0, 0]), .inl (4, [0, 0, 0, 0]), .inr (0, 100, []), .inr (0, 100, []), .inl (2, [0, 0, 0, 0, 0, 25, 26, 27, 31, 0, 32, 0]), .inr (0, 3, []), .inr (0, 4, []), .inr (4, 3, [28, 29, 30]), .inl (4, [0, 0, 0, 0]), .inl (4, [0, 0, 0, 0]), .inl (4, [0, 0, 0, 0]), .inr (0, 100, []), .inr (0, 100, []), .inl (2, [0, 0, 0, 0, 0, 34, 35, 36, 40, 0, 41, 0]), .inr (0, 3, []), .inr (0, 4, []), .inr (4, 3, [37, 38, 39]), .inl (4, [0, 0, 0, 0]), .inl (4, [0, 0, 0, 0]), .inl (4, [0, 0, 0, 0]), .inr (0, 100, []), .inr (0, 100, []), .inl (2, [0, 0, 0, 0, 0, 43, 44, 45, 49, 0, 50, 0]), .inr (0, 3, []), .inr (0, 4, []), .inr (4, 3, [46, 47, 48]), .inl (4, [0, 0, 0, 0]), .inl (4, [0, 0, 0, 0]), .inl (4, [0, 0, 0, 0]), .inr (0, 100, []), .inr (0, 100, []), .inl (2, [0, 0, 0, 0, 0, 52, 53, 54, 58, 0, 59, 0]), .inr (0, 3, []), .inr (0, 4, []), .inr (4, 3, [55, 56, 57]), .inl (4, [0, 0, 0, 0]), .inl (4, [0, 0, 0, 0]), .inl (4, [0, 0, 0, 0]), .inr (0, 100, []), .inr (0, 100, []), .inl (1, [0, 0, 61, 62, 63]), .inr (0, 4, []), .inr (0, 16, []), .inr (3, 6, [64, 73, 82, 91, 100, 109]), .inl (2, [0, 0, 0, 0, 0, 65, 66, 67, 71, 0, 72, 0]), .inr (0, 3, []), .inr (0, 4, []), .inr (4, 3, [68, 69, 70]), .inl (4, [0, 0, 0, 0]), .inl (4, [0, 0, 0, 0]), .inl (4, [0, 0, 0, 0]), .inr (0, 100, []), .inr (0, 100, []), .inl (2, [0, 0, 0, 0, 0, 74, 75, 76, 80, 0, 81, 0]), .inr (0, 3, []), .inr (0, 4, []), .inr (4, 3, [77, 78, 79]), .inl (4, [0, 0, 0, 0]), .inl (4, [0, 0, 0, 0]), .inl (4, [0, 0, 0, 0]), .inr (0, 100, []), .inr (0, 100, []), .inl (2, [0, 0, 0, 0, 0, 83, 84, 85, 89, 0, 90, 0]), .inr (0, 3, []), .inr (0, 4, []), .inr (4, 3, [86, 87, 88]), .inl (4, [0, 0, 0, 0]), .inl (4, [0, 0, 0, 0]), .inl (4, [0, 0, 0, 0]), .inr (0, 100, []), .inr (0, 100, []), .inl (2, [0, 0, 0, 0, 0, 92, 93, 94, 98, 0, 99, 0]), .inr (0, 3, []), .inr (0, 4, []), .inr (4, 3, [95, 96, 97]), .inl (4, [0, 0, 0, 0]), .inl (4, [0, 0, 0, 0]), .inl (4, [0, 0, 0, 0]), .inr (0, 100, []), .inr (0, 100, []), .inl (2, [0, 0, 0, 0, 0, 101, 102, 103, 107, 0, 108, 0]), .inr (0, 3, []), .inr (0, 4, []), .inr (4, 3, [104, 105, 106]), .inl (4, [0, 0, 0, 0]), .inl (4, [0, 0, 0, 0]), .inl (4, [0, 0, 0, 0]), .inr (0, 100, []), .inr (0, 100, []), .inl (2, [0, 0, 0, 0, 0, 110, 111, 112, 116, 0, 117, 0]), .inr (0, 3, []), .inr (0, 4, []), .inr (4, 3, [113, 114, 115]), .inl (4, [0, 0, 0, 0]), .inl (4, [0, 0, 0, 0]), .inl (4, [0, 0, 0, 0]), .inr (0, 100, []), .inr (0, 100, []), .inl (3, [0, 0, 0, 0]), .inr (0, 0, []), .inl (6, [0, 0, 121, 122, 0]), .inr (2, 100, []), .inr (0, 100, []), .inl (5, [0, 124, 173, 174, 175, 0, 0, 0, 0, 0, 0, 0, 0]), .inr (5, 8, [125, 131, 137, 143, 149, 155, 161, 167]), .inl (0, [0, 0, 0, 0, 0, 126, 127, 128, 129, 130]), .inr (1, 8, []), .inr (1, 3, []), .inr (0, 3, []), .inr (0, 3, []), .inr (0, 3, []), .inl (0, [0, 0, 0, 0, 0, 132, 133, 134, 135, 136]), .inr (1, 8, []), .inr (1, 3, []), .inr (0, 3, []), .inr (0, 3, []), .inr (0, 3, []), .inl (0, [0, 0, 0, 0, 0, 138, 139, 140, 141, 142]), .inr (1, 8, []), .inr (1, 3, []), .inr (0, 3, []), .inr (0, 3, []), .inr (0, 3, []), .inl (0, [0, 0, 0, 0, 0, 144, 145, 146, 147, 148]), .inr (1, 8, []), .inr (1, 3, []), .inr (0, 3, []), .inr (0, 3, []), .inr (0, 3, []), .inl (0, [0, 0, 0, 0, 0, 150, 151, 152, 153, 154]), .inr (1, 8, []), .inr (1, 3, []), .inr (0, 3, []), .inr (0, 3, []), .inr (0, 3, []), .inl (0, [0, 0, 0, 0, 0, 156, 157, 158, 159, 160]), .inr (1, 8, []), .inr (1, 3, []), .inr (0, 3, []), .inr (0, 3, []), .inr (0, 3, []), .inl (0, [0, 0, 0, 0, 0, 162, 163, 164, 165, 166]), .inr (1, 8, []), .inr (1, 3, []), .inr (0, 3, []), .inr (0, 3, []), .inr (0, 3, []), .inl (0, [0, 0, 0, 0, 0, 168, 169, 170, 171, 172]), .inr (1, 8, []), .inr (1, 3, []), .inr (0, 3, []), .inr (0, 3, []), .inr (0, 3, []), .inr (1, 832, []), .inr (0, 40, []), .inr (0, 18, [])]
def SHm : List SH := [.inl (8, [0, 1, 0, 0, 0, 2, 3, 0, 4, 5, 6, 7, 8, 9, 10, 11, 12, 13, 14, 15, 16, 17, 18, 19, 0, 0, 0, 0, 0, 0, 0, 0, 20, 21, 22, 23, 24, 25, 26, 27, 28, 29, 30, 31, 0, 32, 0]), .inr (0, 400, []), .inr (0, 4, []), .inr (0, 16, []), .inr (0, 6, []), .inr (0, 6, []), .inr (0, 18, []), .inr (0, 6, []), .inr (0, 24, []), .inr (0, 6, []), .inr (0, 18, []), .inr (0, 18, []), .inr (0, 18, []), .inr (2, 18, []), .inr (0, 6, []), .inr (0, 600, []), .inr (2, 600, []), .inr (0, 600, []), .inr (1, 600, []), .inr (2, 6, []), .inr (0, 8, []), .inr (0, 8, []), .inr (0, 8, []), .inr (0, 64, []), .inr (0, 64, []), .inr (0, 856, []), .inr (0, 856, []), .inr (0, 40, []), .inr (0, 24, []), .inr (0, 24, []), .inr (0, 24, []), .inr (0, 18, []), .inr (2, 100, [])]
theorem isC_lt {shp : List SH} {k c : Nat} (h : isC shp k c = true) : k < shp.length := by
  obtain ⟨rs, hs, -⟩ := isC_at h
  exact (List.getElem?_eq_some_iff.mp hs).1
theorem isA_lt {shp : List SH} {k t n : Nat} (h : isA shp k t n = true) : k < shp.length := by
  obtain ⟨es, hs, -⟩ := isA_at h
  exact (List.getElem?_eq_some_iff.mp hs).1
theorem isA_alen {shp : List SH} {k t n : Nat} (h : isA shp k t n = true) : isA shp k t (alen shp k) = true := by
  obtain ⟨es, hs, -⟩ := isA_at h
  have : alen shp k = n := by unfold alen; rw [hs]
  rw [this]
  exact h
theorem nlt {x : Int32} {n : Nat} (h : ¬ (x < 0 ∨ n ≤ x.toNatClampNeg)) : x.toNatClampNeg < n := Nat.not_le.mp (fun z => h (Or.inr z))
theorem bz_t {x : Bool} (h : ¬ bz x = 0) : x = true := by cases x <;> simp [bz] at h ⊢
theorem bz_nt {x : Bool} (h : bz x = 0) : ¬ x = true := by cases x <;> simp [bz] at h ⊢
theorem catO (B : Nat) (o : Option Nat) : (ov B o).category = 1 := by cases o <;> rfl
theorem cc_0_5 {k : Nat} (h : isC SHc k 0 = true) : isA SHc (cref SHc k 5) 1 8 = true := by
  have h1 : ∀ k, k < 176 → isC SHc k 0 = true → isA SHc (cref SHc k 5) 1 8 = true := by decide +kernel
  exact h1 k (isC_lt h) h
theorem cc_0_6 {k : Nat} (h : isC SHc k 0 = true) : isA SHc (cref SHc k 6) 1 3 = true := by
  have h1 : ∀ k, k < 176 → isC SHc k 0 = true → isA SHc (cref SHc k 6) 1 3 = true := by decide +kernel
  exact h1 k (isC_lt h) h
theorem cc_0_7 {k : Nat} (h : isC SHc k 0 = true) : isA SHc (cref SHc k 7) 0 3 = true := by
  have h1 : ∀ k, k < 176 → isC SHc k 0 = true → isA SHc (cref SHc k 7) 0 3 = true := by decide +kernel
  exact h1 k (isC_lt h) h
theorem cc_0_8 {k : Nat} (h : isC SHc k 0 = true) : isA SHc (cref SHc k 8) 0 3 = true := by
  have h1 : ∀ k, k < 176 → isC SHc k 0 = true → isA SHc (cref SHc k 8) 0 3 = true := by decide +kernel
  exact h1 k (isC_lt h) h
theorem cc_0_9 {k : Nat} (h : isC SHc k 0 = true) : isA SHc (cref SHc k 9) 0 3 = true := by
  have h1 : ∀ k, k < 176 → isC SHc k 0 = true → isA SHc (cref SHc k 9) 0 3 = true := by decide +kernel
  exact h1 k (isC_lt h) h
theorem cc_1_2 {k : Nat} (h : isC SHc k 1 = true) : isA SHc (cref SHc k 2) 0 4 = true := by
  have h1 : ∀ k, k < 176 → isC SHc k 1 = true → isA SHc (cref SHc k 2) 0 4 = true := by decide +kernel
  exact h1 k (isC_lt h) h
theorem cc_1_3 {k : Nat} (h : isC SHc k 1 = true) : isA SHc (cref SHc k 3) 0 16 = true := by
  have h1 : ∀ k, k < 176 → isC SHc k 1 = true → isA SHc (cref SHc k 3) 0 16 = true := by decide +kernel
  exact h1 k (isC_lt h) h
theorem cc_1_4 {k : Nat} (h : isC SHc k 1 = true) : isA SHc (cref SHc k 4) 3 6 = true := by
  have h1 : ∀ k, k < 176 → isC SHc k 1 = true → isA SHc (cref SHc k 4) 3 6 = true := by decide +kernel
  exact h1 k (isC_lt h) h
theorem cc_2_5 {k : Nat} (h : isC SHc k 2 = true) : isA SHc (cref SHc k 5) 0 3 = true := by
  have h1 : ∀ k, k < 176 → isC SHc k 2 = true → isA SHc (cref SHc k 5) 0 3 = true := by decide +kernel
  exact h1 k (isC_lt h) h
theorem cc_2_6 {k : Nat} (h : isC SHc k 2 = true) : isA SHc (cref SHc k 6) 0 4 = true := by
  have h1 : ∀ k, k < 176 → isC SHc k 2 = true → isA SHc (cref SHc k 6) 0 4 = true := by decide +kernel
  exact h1 k (isC_lt h) h
theorem cc_2_7 {k : Nat} (h : isC SHc k 2 = true) : isA SHc (cref SHc k 7) 4 3 = true := by
  have h1 : ∀ k, k < 176 → isC SHc k 2 = true → isA SHc (cref SHc k 7) 4 3 = true := by decide +kernel
  exact h1 k (isC_lt h) h
theorem cc_2_8 {k : Nat} (h : isC SHc k 2 = true) : isA SHc (cref SHc k 8) 0 100 = true := by
  have h1 : ∀ k, k < 176 → isC SHc k 2 = true → isA SHc (cref SHc k 8) 0 100 = true := by decide +kernel
  exact h1 k (isC_lt h) h
theorem cc_2_10 {k : Nat} (h : isC SHc k 2 = true) : isA SHc (cref SHc k 10) 0 100 = true := by
  have h1 : ∀ k, k < 176 → isC SHc k 2 = true → isA SHc (cref SHc k 10) 0 100 = true := by decide +kernel
  exact h1 k (isC_lt h) h
theorem cc_5_1 {k : Nat} (h : isC SHc k 5 = true) : isA SHc (cref SHc k 1) 5 8 = true := by
  have h1 : ∀ k, k < 176 → isC SHc k 5 = true → isA SHc (cref SHc k 1) 5 8 = true := by decide +kernel
  exact h1 k (isC_lt h) h
theorem cc_5_2 {k : Nat} (h : isC SHc k 5 = true) : isA SHc (cref SHc k 2) 1 832 = true := by
  have h1 : ∀ k, k < 176 → isC SHc k 5 = true → isA SHc (cref SHc k 2) 1 832 = true := by decide +kernel
  exact h1 k (isC_lt h) h
theorem cc_5_3 {k : Nat} (h : isC SHc k 5 = true) : isA SHc (cref SHc k 3) 0 40 = true := by
  have h1 : ∀ k, k < 176 → isC SHc k 5 = true → isA SHc (cref SHc k 3) 0 40 = true := by decide +kernel
  exact h1 k (isC_lt h) h
theorem cc_5_4 {k : Nat} (h : isC SHc k 5 = true) : isA SHc (cref SHc k 4) 0 18 = true := by
  have h1 : ∀ k, k < 176 → isC SHc k 5 = true → isA SHc (cref SHc k 4) 0 18 = true := by decide +kernel
  exact h1 k (isC_lt h) h
theorem cc_6_2 {k : Nat} (h : isC SHc k 6 = true) : isA SHc (cref SHc k 2) 2 100 = true := by
  have h1 : ∀ k, k < 176 → isC SHc k 6 = true → isA SHc (cref SHc k 2) 2 100 = true := by decide +kernel
  exact h1 k (isC_lt h) h
theorem cc_6_3 {k : Nat} (h : isC SHc k 6 = true) : isA SHc (cref SHc k 3) 0 100 = true := by
  have h1 : ∀ k, k < 176 → isC SHc k 6 = true → isA SHc (cref SHc k 3) 0 100 = true := by decide +kernel
  exact h1 k (isC_lt h) h
theorem cc_7_0 {k : Nat} (h : isC SHc k 7 = true) : isA SHc (cref SHc k 0) 0 400 = true := by
  have h1 : ∀ k, k < 176 → isC SHc k 7 = true → isA SHc (cref SHc k 0) 0 400 = true := by decide +kernel
  exact h1 k (isC_lt h) h
theorem cc_7_4 {k : Nat} (h : isC SHc k 7 = true) : isC SHc (cref SHc k 4) 3 = true := by
  have h1 : ∀ k, k < 176 → isC SHc k 7 = true → isC SHc (cref SHc k 4) 3 = true := by decide +kernel
  exact h1 k (isC_lt h) h
theorem cc_7_5 {k : Nat} (h : isC SHc k 7 = true) : isC SHc (cref SHc k 5) 6 = true := by
  have h1 : ∀ k, k < 176 → isC SHc k 7 = true → isC SHc (cref SHc k 5) 6 = true := by decide +kernel
  exact h1 k (isC_lt h) h
theorem cc_7_6 {k : Nat} (h : isC SHc k 7 = true) : isC SHc (cref SHc k 6) 5 = true := by
  have h1 : ∀ k, k < 176 → isC SHc k 7 = true → isC SHc (cref SHc k 6) 5 = true := by decide +kernel
  exact h1 k (isC_lt h) h
theorem cc_8_1 {k : Nat} (h : isC SHm k 8 = true) : isA SHm (cref SHm k 1) 0 400 = true := by
  have h1 : ∀ k, k < 33 → isC SHm k 8 = true → isA SHm (cref SHm k 1) 0 400 = true := by decide +kernel
  exact h1 k (isC_lt h) h
theorem cc_8_5 {k : Nat} (h : isC SHm k 8 = true) : isA SHm (cref SHm k 5) 0 4 = true := by
  have h1 : ∀ k, k < 33 → isC SHm k 8 = true → isA SHm (cref SHm k 5) 0 4 = true := by decide +kernel
  exact h1 k (isC_lt h) h
theorem cc_8_6 {k : Nat} (h : isC SHm k 8 = true) : isA SHm (cref SHm k 6) 0 16 = true := by
  have h1 : ∀ k, k < 33 → isC SHm k 8 = true → isA SHm (cref SHm k 6) 0 16 = true := by decide +kernel
  exact h1 k (isC_lt h) h
theorem cc_8_8 {k : Nat} (h : isC SHm k 8 = true) : isA SHm (cref SHm k 8) 0 6 = true := by
  have h1 : ∀ k, k < 33 → isC SHm k 8 = true → isA SHm (cref SHm k 8) 0 6 = true := by decide +kernel
  exact h1 k (isC_lt h) h
theorem cc_8_9 {k : Nat} (h : isC SHm k 8 = true) : isA SHm (cref SHm k 9) 0 6 = true := by
  have h1 : ∀ k, k < 33 → isC SHm k 8 = true → isA SHm (cref SHm k 9) 0 6 = true := by decide +kernel
  exact h1 k (isC_lt h) h
theorem cc_8_10 {k : Nat} (h : isC SHm k 8 = true) : isA SHm (cref SHm k 10) 0 18 = true := by
  have h1 : ∀ k, k < 33 → isC SHm k 8 = true → isA SHm (cref SHm k 10) 0 18 = true := by decide +kernel
  exact h1 k (isC_lt h) h
theorem cc_8_11 {k : Nat} (h : isC SHm k 8 = true) : isA SHm (cref SHm k 11) 0 6 = true := by
  have h1 : ∀ k, k < 33 → isC SHm k 8 = true → isA SHm (cref SHm k 11) 0 6 = true := by decide +kernel
  exact h1 k (isC_lt h) h
theorem cc_8_12 {k : Nat} (h : isC SHm k 8 = true) : isA SHm (cref SHm k 12) 0 24 = true := by
  have h1 : ∀ k, k < 33 → isC SHm k 8 = true → isA SHm (cref SHm k 12) 0 24 = true := by decide +kernel
  exact h1 k (isC_lt h) h
theorem cc_8_13 {k : Nat} (h : isC SHm k 8 = true) : isA SHm (cref SHm k 13) 0 6 = true := by
  have h1 : ∀ k, k < 33 → isC SHm k 8 = true → isA SHm (cref SHm k 13) 0 6 = true := by decide +kernel
  exact h1 k (isC_lt h) h
theorem cc_8_14 {k : Nat} (h : isC SHm k 8 = true) : isA SHm (cref SHm k 14) 0 18 = true := by
  have h1 : ∀ k, k < 33 → isC SHm k 8 = true → isA SHm (cref SHm k 14) 0 18 = true := by decide +kernel
  exact h1 k (isC_lt h) h
theorem cc_8_15 {k : Nat} (h : isC SHm k 8 = true) : isA SHm (cref SHm k 15) 0 18 = true := by
  have h1 : ∀ k, k < 33 → isC SHm k 8 = true → isA SHm (cref SHm k 15) 0 18 = true := by decide +kernel
  exact h1 k (isC_lt h) h
theorem cc_8_16 {k : Nat} (h : isC SHm k 8 = true) : isA SHm (cref SHm k 16) 0 18 = true := by
  have h1 : ∀ k, k < 33 → isC SHm k 8 = true → isA SHm (cref SHm k 16) 0 18 = true := by decide +kernel
  exact h1 k (isC_lt h) h
theorem cc_8_17 {k : Nat} (h : isC SHm k 8 = true) : isA SHm (cref SHm k 17) 2 18 = true := by
  have h1 : ∀ k, k < 33 → isC SHm k 8 = true → isA SHm (cref SHm k 17) 2 18 = true := by decide +kernel
  exact h1 k (isC_lt h) h
theorem cc_8_18 {k : Nat} (h : isC SHm k 8 = true) : isA SHm (cref SHm k 18) 0 6 = true := by
  have h1 : ∀ k, k < 33 → isC SHm k 8 = true → isA SHm (cref SHm k 18) 0 6 = true := by decide +kernel
  exact h1 k (isC_lt h) h
theorem cc_8_19 {k : Nat} (h : isC SHm k 8 = true) : isA SHm (cref SHm k 19) 0 600 = true := by
  have h1 : ∀ k, k < 33 → isC SHm k 8 = true → isA SHm (cref SHm k 19) 0 600 = true := by decide +kernel
  exact h1 k (isC_lt h) h
theorem cc_8_20 {k : Nat} (h : isC SHm k 8 = true) : isA SHm (cref SHm k 20) 2 600 = true := by
  have h1 : ∀ k, k < 33 → isC SHm k 8 = true → isA SHm (cref SHm k 20) 2 600 = true := by decide +kernel
  exact h1 k (isC_lt h) h
theorem cc_8_21 {k : Nat} (h : isC SHm k 8 = true) : isA SHm (cref SHm k 21) 0 600 = true := by
  have h1 : ∀ k, k < 33 → isC SHm k 8 = true → isA SHm (cref SHm k 21) 0 600 = true := by decide +kernel
  exact h1 k (isC_lt h) h
theorem cc_8_22 {k : Nat} (h : isC SHm k 8 = true) : isA SHm (cref SHm k 22) 1 600 = true := by
  have h1 : ∀ k, k < 33 → isC SHm k 8 = true → isA SHm (cref SHm k 22) 1 600 = true := by decide +kernel
  exact h1 k (isC_lt h) h
theorem cc_8_23 {k : Nat} (h : isC SHm k 8 = true) : isA SHm (cref SHm k 23) 2 6 = true := by
  have h1 : ∀ k, k < 33 → isC SHm k 8 = true → isA SHm (cref SHm k 23) 2 6 = true := by decide +kernel
  exact h1 k (isC_lt h) h
theorem cc_8_32 {k : Nat} (h : isC SHm k 8 = true) : isA SHm (cref SHm k 32) 0 8 = true := by
  have h1 : ∀ k, k < 33 → isC SHm k 8 = true → isA SHm (cref SHm k 32) 0 8 = true := by decide +kernel
  exact h1 k (isC_lt h) h
theorem cc_8_33 {k : Nat} (h : isC SHm k 8 = true) : isA SHm (cref SHm k 33) 0 8 = true := by
  have h1 : ∀ k, k < 33 → isC SHm k 8 = true → isA SHm (cref SHm k 33) 0 8 = true := by decide +kernel
  exact h1 k (isC_lt h) h
theorem cc_8_34 {k : Nat} (h : isC SHm k 8 = true) : isA SHm (cref SHm k 34) 0 8 = true := by
  have h1 : ∀ k, k < 33 → isC SHm k 8 = true → isA SHm (cref SHm k 34) 0 8 = true := by decide +kernel
  exact h1 k (isC_lt h) h
theorem cc_8_35 {k : Nat} (h : isC SHm k 8 = true) : isA SHm (cref SHm k 35) 0 64 = true := by
  have h1 : ∀ k, k < 33 → isC SHm k 8 = true → isA SHm (cref SHm k 35) 0 64 = true := by decide +kernel
  exact h1 k (isC_lt h) h
theorem cc_8_36 {k : Nat} (h : isC SHm k 8 = true) : isA SHm (cref SHm k 36) 0 64 = true := by
  have h1 : ∀ k, k < 33 → isC SHm k 8 = true → isA SHm (cref SHm k 36) 0 64 = true := by decide +kernel
  exact h1 k (isC_lt h) h
theorem cc_8_37 {k : Nat} (h : isC SHm k 8 = true) : isA SHm (cref SHm k 37) 0 856 = true := by
  have h1 : ∀ k, k < 33 → isC SHm k 8 = true → isA SHm (cref SHm k 37) 0 856 = true := by decide +kernel
  exact h1 k (isC_lt h) h
theorem cc_8_38 {k : Nat} (h : isC SHm k 8 = true) : isA SHm (cref SHm k 38) 0 856 = true := by
  have h1 : ∀ k, k < 33 → isC SHm k 8 = true → isA SHm (cref SHm k 38) 0 856 = true := by decide +kernel
  exact h1 k (isC_lt h) h
theorem cc_8_39 {k : Nat} (h : isC SHm k 8 = true) : isA SHm (cref SHm k 39) 0 40 = true := by
  have h1 : ∀ k, k < 33 → isC SHm k 8 = true → isA SHm (cref SHm k 39) 0 40 = true := by decide +kernel
  exact h1 k (isC_lt h) h
theorem cc_8_40 {k : Nat} (h : isC SHm k 8 = true) : isA SHm (cref SHm k 40) 0 24 = true := by
  have h1 : ∀ k, k < 33 → isC SHm k 8 = true → isA SHm (cref SHm k 40) 0 24 = true := by decide +kernel
  exact h1 k (isC_lt h) h
theorem cc_8_41 {k : Nat} (h : isC SHm k 8 = true) : isA SHm (cref SHm k 41) 0 24 = true := by
  have h1 : ∀ k, k < 33 → isC SHm k 8 = true → isA SHm (cref SHm k 41) 0 24 = true := by decide +kernel
  exact h1 k (isC_lt h) h
theorem cc_8_42 {k : Nat} (h : isC SHm k 8 = true) : isA SHm (cref SHm k 42) 0 24 = true := by
  have h1 : ∀ k, k < 33 → isC SHm k 8 = true → isA SHm (cref SHm k 42) 0 24 = true := by decide +kernel
  exact h1 k (isC_lt h) h
theorem cc_8_43 {k : Nat} (h : isC SHm k 8 = true) : isA SHm (cref SHm k 43) 0 18 = true := by
  have h1 : ∀ k, k < 33 → isC SHm k 8 = true → isA SHm (cref SHm k 43) 0 18 = true := by decide +kernel
  exact h1 k (isC_lt h) h
theorem cc_8_45 {k : Nat} (h : isC SHm k 8 = true) : isA SHm (cref SHm k 45) 2 100 = true := by
  have h1 : ∀ k, k < 33 → isC SHm k 8 = true → isA SHm (cref SHm k 45) 2 100 = true := by decide +kernel
  exact h1 k (isC_lt h) h
theorem re_3 {k j : Nat} (h : isA SHc k 3 6 = true) (hj : j < 6) : isC SHc (relem SHc k j) 2 = true := by
  have h1 : ∀ k, k < 176 → isA SHc k 3 6 = true → ∀ j, j < 6 → isC SHc (relem SHc k j) 2 = true := by decide +kernel
  exact h1 k (isA_lt h) h j hj
theorem re_4 {k j : Nat} (h : isA SHc k 4 3 = true) (hj : j < 3) : isC SHc (relem SHc k j) 4 = true := by
  have h1 : ∀ k, k < 176 → isA SHc k 4 3 = true → ∀ j, j < 3 → isC SHc (relem SHc k j) 4 = true := by decide +kernel
  exact h1 k (isA_lt h) h j hj
theorem re_5 {k j : Nat} (h : isA SHc k 5 8 = true) (hj : j < 8) : isC SHc (relem SHc k j) 0 = true := by
  have h1 : ∀ k, k < 176 → isA SHc k 5 8 = true → ∀ j, j < 8 → isC SHc (relem SHc k j) 0 = true := by decide +kernel
  exact h1 k (isA_lt h) h j hj
section TO
variable {b : Nat} {sc : SC} {d M pc : Nat} {lv : LV} {st : List Value} {h : List PE} {Q : Option Value → List PE → Prop} {z : Nat × Nat × Nat × Nat} {B : Nat}
theorem r_aload_O {i : Nat} {o : Option Nat} (hf : fetch M pc = some (.aload i, z)) (hl : lv.lookup (i) = some (ov B o)) (k : Rn b sc d M (pc + 2) lv (ov B o :: st) h Q) : Rn b sc d M pc lv st h Q := by
  cases o with
  | none => exact r_aloadN hf hl k
  | some a => exact r_aload hf hl k
theorem r_astore_O {i : Nat} {o : Option Nat} (hf : fetch M pc = some (.astore i, z)) (k : Rn b sc d M (pc + 2) (lput lv (i) (ov B o)) st h Q) : Rn b sc d M pc lv (ov B o :: st) h Q := by
  cases o with
  | none => exact r_astoreN hf k
  | some a => exact r_astore hf k
theorem r_aload_n_O {i : Fin 4} {o : Option Nat} (hf : fetch M pc = some (.aload_n i, z)) (hl : lv.lookup (i.val) = some (ov B o)) (k : Rn b sc d M (pc + 1) lv (ov B o :: st) h Q) : Rn b sc d M pc lv st h Q := by
  cases o with
  | none => exact r_aload_nN hf hl k
  | some a => exact r_aload_n hf hl k
theorem r_astore_n_O {i : Fin 4} {o : Option Nat} (hf : fetch M pc = some (.astore_n i, z)) (k : Rn b sc d M (pc + 1) (lput lv (i.val) (ov B o)) st h Q) : Rn b sc d M pc lv (ov B o :: st) h Q := by
  cases o with
  | none => exact r_astore_nN hf k
  | some a => exact r_astore_n hf k
theorem r_areturn_O {o : Option Nat} (hf : fetch M pc = some (.areturn, z)) (k : Q (some (ov B o)) h) : Rn b sc d M pc lv [ov B o] h Q := by
  cases o with
  | none => exact r_areturnN hf k
  | some a => exact r_areturn hf k
theorem t_min {i a0 r3 : Nat} {u v : Int32} {rest : List Value} (hf : fetch M pc = some (.invokestatic i, a0, 9998, 2, r3)) (hr : (rest.map Value.category).sum ≤ 8) (k : Rn b sc (d + 1) M (pc + 3) lv (.int (if v < u then v else u) :: rest) h Q) : Rn b sc (d + 1) M pc lv (.int v :: .int u :: rest) h Q := by
  refine Rn.min (rest := rest) hf rfl rfl ?_ (by omega) k
  simp only [cll]
  rw [if_pos ⟨by simp, by simpa using hr⟩]
  rfl
end TO
