/-! The image as mathematics, and its parser. -/
abbrev Im : Type := Nat → Nat → Nat
abbrev PZ : Type := Im × Nat
def rng (lo hi v : Nat) : Bool := decide (lo ≤ v ∧ v ≤ hi)
def tyP (many : Nat) (pl no : Bool) (t : Nat) : Bool := decide (t = 1 ∨ t = 2 ∨ t = 4 ∨ t = 5 ∨ (pl = true ∧ t = 3) ∨ (no = true ∧ t = 0) ∨ (8 ≤ t ∧ t < 8 + many))
def nxs (d : Nat → Nat) (n : Nat) (P : Nat → Bool) (s : PZ) : Option (Nat × PZ) := if s.2 < n ∧ P (d s.2) = true then some (d s.2, (s.1, s.2 + 1)) else none
def rs (d : Nat → Nat) (n : Nat) (P : Nat → Bool) (a i : Nat) (s : PZ) : Option PZ := (nxs d n P s).bind fun q => some (u2 q.2.1 a i q.1, q.2.2)
def lps (f : Nat → PZ → Option PZ) : Nat → Nat → PZ → Option PZ
  | 0, _, s => some s
  | c + 1, i, s => (f i s).bind (lps f c (i + 1))
def sC (d : Nat → Nat) (n m : Nat) (s : PZ) : Option PZ := (rs d n (rng 1 100) 14 m s).bind fun s => lps (fun p => rs d n (rng 0 255) 15 (100 * m + p)) (s.1 14 m) 0 s
def sRg (d : Nat → Nat) (n m r : Nat) (s : PZ) : Option PZ := (rs d n (rng 0 255) 10 (3 * m + r) s).bind fun s => (rs d n (rng 0 255) 11 (3 * m + r) s).bind fun s => (rs d n (rng 0 255) 12 (3 * m + r) s).bind fun s => rs d n (rng 0 1) 13 (3 * m + r) s
def sR (d : Nat → Nat) (n m : Nat) (s : PZ) : Option PZ := (rs d n (rng 0 3) 9 m s).bind fun s => (lps (sRg d n m) (s.1 9 m) 0 s).bind (sC d n m)
def sL (d : Nat → Nat) (n many m : Nat) (s : PZ) : Option PZ := (rs d n (rng 0 4) 7 m s).bind fun s => (lps (fun i => rs d n (tyP many false false) 8 (4 * m + i)) (s.1 7 m) 0 s).bind (sR d n m)
def sA (d : Nat → Nat) (n many m : Nat) (s : PZ) : Option PZ := (rs d n (rng 0 3) 5 m s).bind fun s => (lps (fun i => rs d n (tyP many true false) 6 (3 * m + i)) (s.1 5 m) 0 s).bind (sL d n many m)
def sM (d : Nat → Nat) (n many m : Nat) (s : PZ) : Option PZ := (rs d n (tyP many false true) 4 m s).bind (sA d n many m)
def sF (d : Nat → Nat) (n many c : Nat) (s : PZ) : Option PZ := (rs d n (rng 0 4) 2 c s).bind fun s => lps (fun f => rs d n (tyP many false false) 3 (4 * c + f)) (s.1 2 c) 0 s
def sMs (d : Nat → Nat) (n many : Nat) (s : PZ) : Option PZ := (rs d n (rng 1 6) 0 1 s).bind fun s => lps (sM d n many) (s.1 0 1) 0 s
def sCl (d : Nat → Nat) (n : Nat) (s : PZ) : Option PZ := (rs d n (rng 0 4) 0 0 s).bind fun s => (lps (sF d n (s.1 0 0)) (s.1 0 0) 0 s).bind (sMs d n (s.1 0 0))
def sAll (d : Nat → Nat) (n : Nat) (s : PZ) : Option PZ := ((rs d n (rng 77 77) 1 0 s).bind (sCl d n)).bind fun s => if s.2 = n then some s else none
/-- the class keeps the image im at IA -/
def RelC (σ : SG) (IA : Nat) (im : Im) : Prop := (∀ a k, im a k < 256) ∧ (σ.1 IA 0 = Int32.ofNat (im 0 0)) ∧ (σ.1 IA 1 = Int32.ofNat (im 0 1)) ∧ (∀ c : Nat, c < 4 → σ.2.2.2.1 (IA + 1) c = Int32.ofNat (im 2 c)) ∧ (∀ k : Nat, k < 16 → σ.2.2.2.1 (IA + 2) k = Int32.ofNat (im 3 k)) ∧ (∀ m : Nat, m < 6 → σ.1 (IA + 4 + 9 * m) 0 = Int32.ofNat (im 4 m)) ∧ (∀ m : Nat, m < 6 → σ.1 (IA + 4 + 9 * m) 1 = Int32.ofNat (im 5 m)) ∧ (∀ m i : Nat, m < 6 → i < 3 → σ.2.2.2.1 (IA + 4 + 9 * m + 1) i = Int32.ofNat (im 6 (3 * m + i))) ∧ (∀ m : Nat, m < 6 → σ.1 (IA + 4 + 9 * m) 2 = Int32.ofNat (im 7 m)) ∧ (∀ m i : Nat, m < 6 → i < 4 → σ.2.2.2.1 (IA + 4 + 9 * m + 2) i = Int32.ofNat (im 8 (4 * m + i))) ∧ (∀ m : Nat, m < 6 → σ.1 (IA + 4 + 9 * m) 3 = Int32.ofNat (im 9 m)) ∧ (∀ m r : Nat, m < 6 → r < 3 → σ.1 (IA + 4 + 9 * m + 4 + r) 0 = Int32.ofNat (im 10 (3 * m + r))) ∧ (∀ m r : Nat, m < 6 → r < 3 → σ.1 (IA + 4 + 9 * m + 4 + r) 1 = Int32.ofNat (im 11 (3 * m + r))) ∧ (∀ m r : Nat, m < 6 → r < 3 → σ.1 (IA + 4 + 9 * m + 4 + r) 2 = Int32.ofNat (im 12 (3 * m + r))) ∧ (∀ m r : Nat, m < 6 → r < 3 → σ.1 (IA + 4 + 9 * m + 4 + r) 3 = Int32.ofNat (im 13 (3 * m + r))) ∧ (∀ m : Nat, m < 6 → σ.1 (IA + 4 + 9 * m) 4 = Int32.ofNat (im 14 m)) ∧ (∀ m p : Nat, m < 6 → p < 100 → σ.2.2.2.1 (IA + 4 + 9 * m + 7) p = Int32.ofNat (im 15 (100 * m + p)))
theorem RelC_c0 {σ : SG} {IA : Nat} {im : Im} (h : RelC σ IA im) : σ.1 IA 0 = Int32.ofNat (im 0 0) := h.2.1
theorem RelC_c1 {σ : SG} {IA : Nat} {im : Im} (h : RelC σ IA im) : σ.1 IA 1 = Int32.ofNat (im 0 1) := h.2.2.1
theorem RelC_c2 {σ : SG} {IA : Nat} {im : Im} (h : RelC σ IA im) : ∀ c : Nat, c < 4 → σ.2.2.2.1 (IA + 1) c = Int32.ofNat (im 2 c) := h.2.2.2.1
theorem RelC_c3 {σ : SG} {IA : Nat} {im : Im} (h : RelC σ IA im) : ∀ k : Nat, k < 16 → σ.2.2.2.1 (IA + 2) k = Int32.ofNat (im 3 k) := h.2.2.2.2.1
theorem RelC_c4 {σ : SG} {IA : Nat} {im : Im} (h : RelC σ IA im) : ∀ m : Nat, m < 6 → σ.1 (IA + 4 + 9 * m) 0 = Int32.ofNat (im 4 m) := h.2.2.2.2.2.1
theorem RelC_c5 {σ : SG} {IA : Nat} {im : Im} (h : RelC σ IA im) : ∀ m : Nat, m < 6 → σ.1 (IA + 4 + 9 * m) 1 = Int32.ofNat (im 5 m) := h.2.2.2.2.2.2.1
theorem RelC_c6 {σ : SG} {IA : Nat} {im : Im} (h : RelC σ IA im) : ∀ m i : Nat, m < 6 → i < 3 → σ.2.2.2.1 (IA + 4 + 9 * m + 1) i = Int32.ofNat (im 6 (3 * m + i)) := h.2.2.2.2.2.2.2.1
theorem RelC_c7 {σ : SG} {IA : Nat} {im : Im} (h : RelC σ IA im) : ∀ m : Nat, m < 6 → σ.1 (IA + 4 + 9 * m) 2 = Int32.ofNat (im 7 m) := h.2.2.2.2.2.2.2.2.1
theorem RelC_c8 {σ : SG} {IA : Nat} {im : Im} (h : RelC σ IA im) : ∀ m i : Nat, m < 6 → i < 4 → σ.2.2.2.1 (IA + 4 + 9 * m + 2) i = Int32.ofNat (im 8 (4 * m + i)) := h.2.2.2.2.2.2.2.2.2.1
theorem RelC_c9 {σ : SG} {IA : Nat} {im : Im} (h : RelC σ IA im) : ∀ m : Nat, m < 6 → σ.1 (IA + 4 + 9 * m) 3 = Int32.ofNat (im 9 m) := h.2.2.2.2.2.2.2.2.2.2.1
theorem RelC_c10 {σ : SG} {IA : Nat} {im : Im} (h : RelC σ IA im) : ∀ m r : Nat, m < 6 → r < 3 → σ.1 (IA + 4 + 9 * m + 4 + r) 0 = Int32.ofNat (im 10 (3 * m + r)) := h.2.2.2.2.2.2.2.2.2.2.2.1
theorem RelC_c11 {σ : SG} {IA : Nat} {im : Im} (h : RelC σ IA im) : ∀ m r : Nat, m < 6 → r < 3 → σ.1 (IA + 4 + 9 * m + 4 + r) 1 = Int32.ofNat (im 11 (3 * m + r)) := h.2.2.2.2.2.2.2.2.2.2.2.2.1
theorem RelC_c12 {σ : SG} {IA : Nat} {im : Im} (h : RelC σ IA im) : ∀ m r : Nat, m < 6 → r < 3 → σ.1 (IA + 4 + 9 * m + 4 + r) 2 = Int32.ofNat (im 12 (3 * m + r)) := h.2.2.2.2.2.2.2.2.2.2.2.2.2.1
theorem RelC_c13 {σ : SG} {IA : Nat} {im : Im} (h : RelC σ IA im) : ∀ m r : Nat, m < 6 → r < 3 → σ.1 (IA + 4 + 9 * m + 4 + r) 3 = Int32.ofNat (im 13 (3 * m + r)) := h.2.2.2.2.2.2.2.2.2.2.2.2.2.2.1
theorem RelC_c14 {σ : SG} {IA : Nat} {im : Im} (h : RelC σ IA im) : ∀ m : Nat, m < 6 → σ.1 (IA + 4 + 9 * m) 4 = Int32.ofNat (im 14 m) := h.2.2.2.2.2.2.2.2.2.2.2.2.2.2.2.1
theorem RelC_c15 {σ : SG} {IA : Nat} {im : Im} (h : RelC σ IA im) : ∀ m p : Nat, m < 6 → p < 100 → σ.2.2.2.1 (IA + 4 + 9 * m + 7) p = Int32.ofNat (im 15 (100 * m + p)) := h.2.2.2.2.2.2.2.2.2.2.2.2.2.2.2.2
theorem RelC_b {σ : SG} {IA : Nat} {im : Im} (h : RelC σ IA im) (a k : Nat) : im a k < 256 := h.1 a k
theorem RelC_congr {σ σ1 : SG} {IA : Nat} {im : Im} (h : RelC σ IA im) (hI : ∀ a f, IA ≤ a → a < IA + 58 → σ1.1 a f = σ.1 a f) (hA : ∀ a f, IA ≤ a → a < IA + 58 → σ1.2.2.2.1 a f = σ.2.2.2.1 a f) : RelC σ1 IA im := by
  refine ⟨h.1, ?_, ?_, ?_, ?_, ?_, ?_, ?_, ?_, ?_, ?_, ?_, ?_, ?_, ?_, ?_, ?_⟩
  · rw [hI _ _ (by omega) (by omega)]; exact RelC_c0 h
  · rw [hI _ _ (by omega) (by omega)]; exact RelC_c1 h
  · intro c h0; rw [hA _ _ (by omega) (by omega)]; exact RelC_c2 h _ h0
  · intro k h0; rw [hA _ _ (by omega) (by omega)]; exact RelC_c3 h _ h0
  · intro m h0; rw [hI _ _ (by omega) (by omega)]; exact RelC_c4 h _ h0
  · intro m h0; rw [hI _ _ (by omega) (by omega)]; exact RelC_c5 h _ h0
  · intro m i h0 h1; rw [hA _ _ (by omega) (by omega)]; exact RelC_c6 h _ _ h0 h1
  · intro m h0; rw [hI _ _ (by omega) (by omega)]; exact RelC_c7 h _ h0
  · intro m i h0 h1; rw [hA _ _ (by omega) (by omega)]; exact RelC_c8 h _ _ h0 h1
  · intro m h0; rw [hI _ _ (by omega) (by omega)]; exact RelC_c9 h _ h0
  · intro m r h0 h1; rw [hI _ _ (by omega) (by omega)]; exact RelC_c10 h _ _ h0 h1
  · intro m r h0 h1; rw [hI _ _ (by omega) (by omega)]; exact RelC_c11 h _ _ h0 h1
  · intro m r h0 h1; rw [hI _ _ (by omega) (by omega)]; exact RelC_c12 h _ _ h0 h1
  · intro m r h0 h1; rw [hI _ _ (by omega) (by omega)]; exact RelC_c13 h _ _ h0 h1
  · intro m h0; rw [hI _ _ (by omega) (by omega)]; exact RelC_c14 h _ h0
  · intro m p h0 h1; rw [hA _ _ (by omega) (by omega)]; exact RelC_c15 h _ _ h0 h1
theorem RelC_u0 {σ : SG} {IA : Nat} {im : Im} {v : Nat} (h : RelC σ IA im) (hv : v < 256) : RelC (setI σ IA 0 (Int32.ofNat v)) IA (u2 im 0 0 v) := by
  refine ⟨?_, ?_, ?_, ?_, ?_, ?_, ?_, ?_, ?_, ?_, ?_, ?_, ?_, ?_, ?_, ?_, ?_⟩
  · intro a k; simp only [u2]; split <;> first | exact hv | exact h.1 a k
  · have e := RelC_c0 h; simp only [rI, rI2, rA, rA1, u2, and_true, true_and]; (repeat' split) <;> first | rfl | exact e | (exfalso; omega)
  · have e := RelC_c1 h; simp only [rI, rI2, rA, rA1, u2, and_true, true_and]; (repeat' split) <;> first | rfl | exact e | (exfalso; omega)
  · intro c h0; have e := RelC_c2 h c h0; simp only [rI, rI2, rA, rA1, u2, and_true, true_and]; (repeat' split) <;> first | rfl | exact e | (exfalso; omega)
  · intro k h0; have e := RelC_c3 h k h0; simp only [rI, rI2, rA, rA1, u2, and_true, true_and]; (repeat' split) <;> first | rfl | exact e | (exfalso; omega)
  · intro m h0; have e := RelC_c4 h m h0; simp only [rI, rI2, rA, rA1, u2, and_true, true_and]; (repeat' split) <;> first | rfl | exact e | (exfalso; omega)
  · intro m h0; have e := RelC_c5 h m h0; simp only [rI, rI2, rA, rA1, u2, and_true, true_and]; (repeat' split) <;> first | rfl | exact e | (exfalso; omega)
  · intro m i h0 h1; have e := RelC_c6 h m i h0 h1; simp only [rI, rI2, rA, rA1, u2, and_true, true_and]; (repeat' split) <;> first | rfl | exact e | (exfalso; omega)
  · intro m h0; have e := RelC_c7 h m h0; simp only [rI, rI2, rA, rA1, u2, and_true, true_and]; (repeat' split) <;> first | rfl | exact e | (exfalso; omega)
  · intro m i h0 h1; have e := RelC_c8 h m i h0 h1; simp only [rI, rI2, rA, rA1, u2, and_true, true_and]; (repeat' split) <;> first | rfl | exact e | (exfalso; omega)
  · intro m h0; have e := RelC_c9 h m h0; simp only [rI, rI2, rA, rA1, u2, and_true, true_and]; (repeat' split) <;> first | rfl | exact e | (exfalso; omega)
  · intro m r h0 h1; have e := RelC_c10 h m r h0 h1; simp only [rI, rI2, rA, rA1, u2, and_true, true_and]; (repeat' split) <;> first | rfl | exact e | (exfalso; omega)
  · intro m r h0 h1; have e := RelC_c11 h m r h0 h1; simp only [rI, rI2, rA, rA1, u2, and_true, true_and]; (repeat' split) <;> first | rfl | exact e | (exfalso; omega)
  · intro m r h0 h1; have e := RelC_c12 h m r h0 h1; simp only [rI, rI2, rA, rA1, u2, and_true, true_and]; (repeat' split) <;> first | rfl | exact e | (exfalso; omega)
  · intro m r h0 h1; have e := RelC_c13 h m r h0 h1; simp only [rI, rI2, rA, rA1, u2, and_true, true_and]; (repeat' split) <;> first | rfl | exact e | (exfalso; omega)
  · intro m h0; have e := RelC_c14 h m h0; simp only [rI, rI2, rA, rA1, u2, and_true, true_and]; (repeat' split) <;> first | rfl | exact e | (exfalso; omega)
  · intro m p h0 h1; have e := RelC_c15 h m p h0 h1; simp only [rI, rI2, rA, rA1, u2, and_true, true_and]; (repeat' split) <;> first | rfl | exact e | (exfalso; omega)
theorem RelC_u1 {σ : SG} {IA : Nat} {im : Im} {v : Nat} (h : RelC σ IA im) (hv : v < 256) : RelC (setI σ IA 1 (Int32.ofNat v)) IA (u2 im 0 1 v) := by
  refine ⟨?_, ?_, ?_, ?_, ?_, ?_, ?_, ?_, ?_, ?_, ?_, ?_, ?_, ?_, ?_, ?_, ?_⟩
  · intro a k; simp only [u2]; split <;> first | exact hv | exact h.1 a k
  · have e := RelC_c0 h; simp only [rI, rI2, rA, rA1, u2, and_true, true_and]; (repeat' split) <;> first | rfl | exact e | (exfalso; omega)
  · have e := RelC_c1 h; simp only [rI, rI2, rA, rA1, u2, and_true, true_and]; (repeat' split) <;> first | rfl | exact e | (exfalso; omega)
  · intro c h0; have e := RelC_c2 h c h0; simp only [rI, rI2, rA, rA1, u2, and_true, true_and]; (repeat' split) <;> first | rfl | exact e | (exfalso; omega)
  · intro k h0; have e := RelC_c3 h k h0; simp only [rI, rI2, rA, rA1, u2, and_true, true_and]; (repeat' split) <;> first | rfl | exact e | (exfalso; omega)
  · intro m h0; have e := RelC_c4 h m h0; simp only [rI, rI2, rA, rA1, u2, and_true, true_and]; (repeat' split) <;> first | rfl | exact e | (exfalso; omega)
  · intro m h0; have e := RelC_c5 h m h0; simp only [rI, rI2, rA, rA1, u2, and_true, true_and]; (repeat' split) <;> first | rfl | exact e | (exfalso; omega)
  · intro m i h0 h1; have e := RelC_c6 h m i h0 h1; simp only [rI, rI2, rA, rA1, u2, and_true, true_and]; (repeat' split) <;> first | rfl | exact e | (exfalso; omega)
  · intro m h0; have e := RelC_c7 h m h0; simp only [rI, rI2, rA, rA1, u2, and_true, true_and]; (repeat' split) <;> first | rfl | exact e | (exfalso; omega)
  · intro m i h0 h1; have e := RelC_c8 h m i h0 h1; simp only [rI, rI2, rA, rA1, u2, and_true, true_and]; (repeat' split) <;> first | rfl | exact e | (exfalso; omega)
  · intro m h0; have e := RelC_c9 h m h0; simp only [rI, rI2, rA, rA1, u2, and_true, true_and]; (repeat' split) <;> first | rfl | exact e | (exfalso; omega)
  · intro m r h0 h1; have e := RelC_c10 h m r h0 h1; simp only [rI, rI2, rA, rA1, u2, and_true, true_and]; (repeat' split) <;> first | rfl | exact e | (exfalso; omega)
  · intro m r h0 h1; have e := RelC_c11 h m r h0 h1; simp only [rI, rI2, rA, rA1, u2, and_true, true_and]; (repeat' split) <;> first | rfl | exact e | (exfalso; omega)
  · intro m r h0 h1; have e := RelC_c12 h m r h0 h1; simp only [rI, rI2, rA, rA1, u2, and_true, true_and]; (repeat' split) <;> first | rfl | exact e | (exfalso; omega)
  · intro m r h0 h1; have e := RelC_c13 h m r h0 h1; simp only [rI, rI2, rA, rA1, u2, and_true, true_and]; (repeat' split) <;> first | rfl | exact e | (exfalso; omega)
  · intro m h0; have e := RelC_c14 h m h0; simp only [rI, rI2, rA, rA1, u2, and_true, true_and]; (repeat' split) <;> first | rfl | exact e | (exfalso; omega)
  · intro m p h0 h1; have e := RelC_c15 h m p h0 h1; simp only [rI, rI2, rA, rA1, u2, and_true, true_and]; (repeat' split) <;> first | rfl | exact e | (exfalso; omega)
theorem RelC_u2 {σ : SG} {IA : Nat} {im : Im} {v : Nat} {c0 : Nat} (h : RelC σ IA im) (hv : v < 256) (z0 : c0 < 4) : RelC (setA σ (IA + 1) c0 (Int32.ofNat v)) IA (u2 im 2 c0 v) := by
  refine ⟨?_, ?_, ?_, ?_, ?_, ?_, ?_, ?_, ?_, ?_, ?_, ?_, ?_, ?_, ?_, ?_, ?_⟩
  · intro a k; simp only [u2]; split <;> first | exact hv | exact h.1 a k
  · have e := RelC_c0 h; simp only [rI, rI2, rA, rA1, u2, and_true, true_and]; (repeat' split) <;> first | rfl | exact e | (exfalso; omega)
  · have e := RelC_c1 h; simp only [rI, rI2, rA, rA1, u2, and_true, true_and]; (repeat' split) <;> first | rfl | exact e | (exfalso; omega)
  · intro c h0; have e := RelC_c2 h c h0; simp only [rI, rI2, rA, rA1, u2, and_true, true_and]; (repeat' split) <;> first | rfl | exact e | (exfalso; omega)
  · intro k h0; have e := RelC_c3 h k h0; simp only [rI, rI2, rA, rA1, u2, and_true, true_and]; (repeat' split) <;> first | rfl | exact e | (exfalso; omega)
  · intro m h0; have e := RelC_c4 h m h0; simp only [rI, rI2, rA, rA1, u2, and_true, true_and]; (repeat' split) <;> first | rfl | exact e | (exfalso; omega)
  · intro m h0; have e := RelC_c5 h m h0; simp only [rI, rI2, rA, rA1, u2, and_true, true_and]; (repeat' split) <;> first | rfl | exact e | (exfalso; omega)
  · intro m i h0 h1; have e := RelC_c6 h m i h0 h1; simp only [rI, rI2, rA, rA1, u2, and_true, true_and]; (repeat' split) <;> first | rfl | exact e | (exfalso; omega)
  · intro m h0; have e := RelC_c7 h m h0; simp only [rI, rI2, rA, rA1, u2, and_true, true_and]; (repeat' split) <;> first | rfl | exact e | (exfalso; omega)
  · intro m i h0 h1; have e := RelC_c8 h m i h0 h1; simp only [rI, rI2, rA, rA1, u2, and_true, true_and]; (repeat' split) <;> first | rfl | exact e | (exfalso; omega)
  · intro m h0; have e := RelC_c9 h m h0; simp only [rI, rI2, rA, rA1, u2, and_true, true_and]; (repeat' split) <;> first | rfl | exact e | (exfalso; omega)
  · intro m r h0 h1; have e := RelC_c10 h m r h0 h1; simp only [rI, rI2, rA, rA1, u2, and_true, true_and]; (repeat' split) <;> first | rfl | exact e | (exfalso; omega)
  · intro m r h0 h1; have e := RelC_c11 h m r h0 h1; simp only [rI, rI2, rA, rA1, u2, and_true, true_and]; (repeat' split) <;> first | rfl | exact e | (exfalso; omega)
  · intro m r h0 h1; have e := RelC_c12 h m r h0 h1; simp only [rI, rI2, rA, rA1, u2, and_true, true_and]; (repeat' split) <;> first | rfl | exact e | (exfalso; omega)
  · intro m r h0 h1; have e := RelC_c13 h m r h0 h1; simp only [rI, rI2, rA, rA1, u2, and_true, true_and]; (repeat' split) <;> first | rfl | exact e | (exfalso; omega)
  · intro m h0; have e := RelC_c14 h m h0; simp only [rI, rI2, rA, rA1, u2, and_true, true_and]; (repeat' split) <;> first | rfl | exact e | (exfalso; omega)
  · intro m p h0 h1; have e := RelC_c15 h m p h0 h1; simp only [rI, rI2, rA, rA1, u2, and_true, true_and]; (repeat' split) <;> first | rfl | exact e | (exfalso; omega)
theorem RelC_u3 {σ : SG} {IA : Nat} {im : Im} {v : Nat} {k0 : Nat} (h : RelC σ IA im) (hv : v < 256) (z0 : k0 < 16) : RelC (setA σ (IA + 2) k0 (Int32.ofNat v)) IA (u2 im 3 k0 v) := by
  refine ⟨?_, ?_, ?_, ?_, ?_, ?_, ?_, ?_, ?_, ?_, ?_, ?_, ?_, ?_, ?_, ?_, ?_⟩
  · intro a k; simp only [u2]; split <;> first | exact hv | exact h.1 a k
  · have e := RelC_c0 h; simp only [rI, rI2, rA, rA1, u2, and_true, true_and]; (repeat' split) <;> first | rfl | exact e | (exfalso; omega)
  · have e := RelC_c1 h; simp only [rI, rI2, rA, rA1, u2, and_true, true_and]; (repeat' split) <;> first | rfl | exact e | (exfalso; omega)
  · intro c h0; have e := RelC_c2 h c h0; simp only [rI, rI2, rA, rA1, u2, and_true, true_and]; (repeat' split) <;> first | rfl | exact e | (exfalso; omega)
  · intro k h0; have e := RelC_c3 h k h0; simp only [rI, rI2, rA, rA1, u2, and_true, true_and]; (repeat' split) <;> first | rfl | exact e | (exfalso; omega)
  · intro m h0; have e := RelC_c4 h m h0; simp only [rI, rI2, rA, rA1, u2, and_true, true_and]; (repeat' split) <;> first | rfl | exact e | (exfalso; omega)
  · intro m h0; have e := RelC_c5 h m h0; simp only [rI, rI2, rA, rA1, u2, and_true, true_and]; (repeat' split) <;> first | rfl | exact e | (exfalso; omega)
  · intro m i h0 h1; have e := RelC_c6 h m i h0 h1; simp only [rI, rI2, rA, rA1, u2, and_true, true_and]; (repeat' split) <;> first | rfl | exact e | (exfalso; omega)
  · intro m h0; have e := RelC_c7 h m h0; simp only [rI, rI2, rA, rA1, u2, and_true, true_and]; (repeat' split) <;> first | rfl | exact e | (exfalso; omega)
  · intro m i h0 h1; have e := RelC_c8 h m i h0 h1; simp only [rI, rI2, rA, rA1, u2, and_true, true_and]; (repeat' split) <;> first | rfl | exact e | (exfalso; omega)
  · intro m h0; have e := RelC_c9 h m h0; simp only [rI, rI2, rA, rA1, u2, and_true, true_and]; (repeat' split) <;> first | rfl | exact e | (exfalso; omega)
  · intro m r h0 h1; have e := RelC_c10 h m r h0 h1; simp only [rI, rI2, rA, rA1, u2, and_true, true_and]; (repeat' split) <;> first | rfl | exact e | (exfalso; omega)
  · intro m r h0 h1; have e := RelC_c11 h m r h0 h1; simp only [rI, rI2, rA, rA1, u2, and_true, true_and]; (repeat' split) <;> first | rfl | exact e | (exfalso; omega)
  · intro m r h0 h1; have e := RelC_c12 h m r h0 h1; simp only [rI, rI2, rA, rA1, u2, and_true, true_and]; (repeat' split) <;> first | rfl | exact e | (exfalso; omega)
  · intro m r h0 h1; have e := RelC_c13 h m r h0 h1; simp only [rI, rI2, rA, rA1, u2, and_true, true_and]; (repeat' split) <;> first | rfl | exact e | (exfalso; omega)
  · intro m h0; have e := RelC_c14 h m h0; simp only [rI, rI2, rA, rA1, u2, and_true, true_and]; (repeat' split) <;> first | rfl | exact e | (exfalso; omega)
  · intro m p h0 h1; have e := RelC_c15 h m p h0 h1; simp only [rI, rI2, rA, rA1, u2, and_true, true_and]; (repeat' split) <;> first | rfl | exact e | (exfalso; omega)
theorem RelC_u4 {σ : SG} {IA : Nat} {im : Im} {v : Nat} {m0 : Nat} (h : RelC σ IA im) (hv : v < 256) (z0 : m0 < 6) : RelC (setI σ (IA + 4 + 9 * m0) 0 (Int32.ofNat v)) IA (u2 im 4 m0 v) := by
  refine ⟨?_, ?_, ?_, ?_, ?_, ?_, ?_, ?_, ?_, ?_, ?_, ?_, ?_, ?_, ?_, ?_, ?_⟩
  · intro a k; simp only [u2]; split <;> first | exact hv | exact h.1 a k
  · have e := RelC_c0 h; simp only [rI, rI2, rA, rA1, u2, and_true, true_and]; (repeat' split) <;> first | rfl | exact e | (exfalso; omega)
  · have e := RelC_c1 h; simp only [rI, rI2, rA, rA1, u2, and_true, true_and]; (repeat' split) <;> first | rfl | exact e | (exfalso; omega)
  · intro c h0; have e := RelC_c2 h c h0; simp only [rI, rI2, rA, rA1, u2, and_true, true_and]; (repeat' split) <;> first | rfl | exact e | (exfalso; omega)
  · intro k h0; have e := RelC_c3 h k h0; simp only [rI, rI2, rA, rA1, u2, and_true, true_and]; (repeat' split) <;> first | rfl | exact e | (exfalso; omega)
  · intro m h0; have e := RelC_c4 h m h0; simp only [rI, rI2, rA, rA1, u2, and_true, true_and]; (repeat' split) <;> first | rfl | exact e | (exfalso; omega)
  · intro m h0; have e := RelC_c5 h m h0; simp only [rI, rI2, rA, rA1, u2, and_true, true_and]; (repeat' split) <;> first | rfl | exact e | (exfalso; omega)
  · intro m i h0 h1; have e := RelC_c6 h m i h0 h1; simp only [rI, rI2, rA, rA1, u2, and_true, true_and]; (repeat' split) <;> first | rfl | exact e | (exfalso; omega)
  · intro m h0; have e := RelC_c7 h m h0; simp only [rI, rI2, rA, rA1, u2, and_true, true_and]; (repeat' split) <;> first | rfl | exact e | (exfalso; omega)
  · intro m i h0 h1; have e := RelC_c8 h m i h0 h1; simp only [rI, rI2, rA, rA1, u2, and_true, true_and]; (repeat' split) <;> first | rfl | exact e | (exfalso; omega)
  · intro m h0; have e := RelC_c9 h m h0; simp only [rI, rI2, rA, rA1, u2, and_true, true_and]; (repeat' split) <;> first | rfl | exact e | (exfalso; omega)
  · intro m r h0 h1; have e := RelC_c10 h m r h0 h1; simp only [rI, rI2, rA, rA1, u2, and_true, true_and]; (repeat' split) <;> first | rfl | exact e | (exfalso; omega)
  · intro m r h0 h1; have e := RelC_c11 h m r h0 h1; simp only [rI, rI2, rA, rA1, u2, and_true, true_and]; (repeat' split) <;> first | rfl | exact e | (exfalso; omega)
  · intro m r h0 h1; have e := RelC_c12 h m r h0 h1; simp only [rI, rI2, rA, rA1, u2, and_true, true_and]; (repeat' split) <;> first | rfl | exact e | (exfalso; omega)
  · intro m r h0 h1; have e := RelC_c13 h m r h0 h1; simp only [rI, rI2, rA, rA1, u2, and_true, true_and]; (repeat' split) <;> first | rfl | exact e | (exfalso; omega)
  · intro m h0; have e := RelC_c14 h m h0; simp only [rI, rI2, rA, rA1, u2, and_true, true_and]; (repeat' split) <;> first | rfl | exact e | (exfalso; omega)
  · intro m p h0 h1; have e := RelC_c15 h m p h0 h1; simp only [rI, rI2, rA, rA1, u2, and_true, true_and]; (repeat' split) <;> first | rfl | exact e | (exfalso; omega)
theorem RelC_u5 {σ : SG} {IA : Nat} {im : Im} {v : Nat} {m0 : Nat} (h : RelC σ IA im) (hv : v < 256) (z0 : m0 < 6) : RelC (setI σ (IA + 4 + 9 * m0) 1 (Int32.ofNat v)) IA (u2 im 5 m0 v) := by
  refine ⟨?_, ?_, ?_, ?_, ?_, ?_, ?_, ?_, ?_, ?_, ?_, ?_, ?_, ?_, ?_, ?_, ?_⟩
  · intro a k; simp only [u2]; split <;> first | exact hv | exact h.1 a k
  · have e := RelC_c0 h; simp only [rI, rI2, rA, rA1, u2, and_true, true_and]; (repeat' split) <;> first | rfl | exact e | (exfalso; omega)
  · have e := RelC_c1 h; simp only [rI, rI2, rA, rA1, u2, and_true, true_and]; (repeat' split) <;> first | rfl | exact e | (exfalso; omega)
  · intro c h0; have e := RelC_c2 h c h0; simp only [rI, rI2, rA, rA1, u2, and_true, true_and]; (repeat' split) <;> first | rfl | exact e | (exfalso; omega)
  · intro k h0; have e := RelC_c3 h k h0; simp only [rI, rI2, rA, rA1, u2, and_true, true_and]; (repeat' split) <;> first | rfl | exact e | (exfalso; omega)
  · intro m h0; have e := RelC_c4 h m h0; simp only [rI, rI2, rA, rA1, u2, and_true, true_and]; (repeat' split) <;> first | rfl | exact e | (exfalso; omega)
  · intro m h0; have e := RelC_c5 h m h0; simp only [rI, rI2, rA, rA1, u2, and_true, true_and]; (repeat' split) <;> first | rfl | exact e | (exfalso; omega)
  · intro m i h0 h1; have e := RelC_c6 h m i h0 h1; simp only [rI, rI2, rA, rA1, u2, and_true, true_and]; (repeat' split) <;> first | rfl | exact e | (exfalso; omega)
  · intro m h0; have e := RelC_c7 h m h0; simp only [rI, rI2, rA, rA1, u2, and_true, true_and]; (repeat' split) <;> first | rfl | exact e | (exfalso; omega)
  · intro m i h0 h1; have e := RelC_c8 h m i h0 h1; simp only [rI, rI2, rA, rA1, u2, and_true, true_and]; (repeat' split) <;> first | rfl | exact e | (exfalso; omega)
  · intro m h0; have e := RelC_c9 h m h0; simp only [rI, rI2, rA, rA1, u2, and_true, true_and]; (repeat' split) <;> first | rfl | exact e | (exfalso; omega)
  · intro m r h0 h1; have e := RelC_c10 h m r h0 h1; simp only [rI, rI2, rA, rA1, u2, and_true, true_and]; (repeat' split) <;> first | rfl | exact e | (exfalso; omega)
  · intro m r h0 h1; have e := RelC_c11 h m r h0 h1; simp only [rI, rI2, rA, rA1, u2, and_true, true_and]; (repeat' split) <;> first | rfl | exact e | (exfalso; omega)
  · intro m r h0 h1; have e := RelC_c12 h m r h0 h1; simp only [rI, rI2, rA, rA1, u2, and_true, true_and]; (repeat' split) <;> first | rfl | exact e | (exfalso; omega)
  · intro m r h0 h1; have e := RelC_c13 h m r h0 h1; simp only [rI, rI2, rA, rA1, u2, and_true, true_and]; (repeat' split) <;> first | rfl | exact e | (exfalso; omega)
  · intro m h0; have e := RelC_c14 h m h0; simp only [rI, rI2, rA, rA1, u2, and_true, true_and]; (repeat' split) <;> first | rfl | exact e | (exfalso; omega)
  · intro m p h0 h1; have e := RelC_c15 h m p h0 h1; simp only [rI, rI2, rA, rA1, u2, and_true, true_and]; (repeat' split) <;> first | rfl | exact e | (exfalso; omega)
theorem RelC_u6 {σ : SG} {IA : Nat} {im : Im} {v : Nat} {m0 : Nat} {i0 : Nat} (h : RelC σ IA im) (hv : v < 256) (z0 : m0 < 6) (z1 : i0 < 3) : RelC (setA σ (IA + 4 + 9 * m0 + 1) i0 (Int32.ofNat v)) IA (u2 im 6 (3 * m0 + i0) v) := by
  refine ⟨?_, ?_, ?_, ?_, ?_, ?_, ?_, ?_, ?_, ?_, ?_, ?_, ?_, ?_, ?_, ?_, ?_⟩
  · intro a k; simp only [u2]; split <;> first | exact hv | exact h.1 a k
  · have e := RelC_c0 h; simp only [rI, rI2, rA, rA1, u2, and_true, true_and]; (repeat' split) <;> first | rfl | exact e | (exfalso; omega)
  · have e := RelC_c1 h; simp only [rI, rI2, rA, rA1, u2, and_true, true_and]; (repeat' split) <;> first | rfl | exact e | (exfalso; omega)
  · intro c h0; have e := RelC_c2 h c h0; simp only [rI, rI2, rA, rA1, u2, and_true, true_and]; (repeat' split) <;> first | rfl | exact e | (exfalso; omega)
  · intro k h0; have e := RelC_c3 h k h0; simp only [rI, rI2, rA, rA1, u2, and_true, true_and]; (repeat' split) <;> first | rfl | exact e | (exfalso; omega)
  · intro m h0; have e := RelC_c4 h m h0; simp only [rI, rI2, rA, rA1, u2, and_true, true_and]; (repeat' split) <;> first | rfl | exact e | (exfalso; omega)
  · intro m h0; have e := RelC_c5 h m h0; simp only [rI, rI2, rA, rA1, u2, and_true, true_and]; (repeat' split) <;> first | rfl | exact e | (exfalso; omega)
  · intro m i h0 h1; have e := RelC_c6 h m i h0 h1; simp only [rI, rI2, rA, rA1, u2, and_true, true_and]; (repeat' split) <;> first | rfl | exact e | (exfalso; omega)
  · intro m h0; have e := RelC_c7 h m h0; simp only [rI, rI2, rA, rA1, u2, and_true, true_and]; (repeat' split) <;> first | rfl | exact e | (exfalso; omega)
  · intro m i h0 h1; have e := RelC_c8 h m i h0 h1; simp only [rI, rI2, rA, rA1, u2, and_true, true_and]; (repeat' split) <;> first | rfl | exact e | (exfalso; omega)
  · intro m h0; have e := RelC_c9 h m h0; simp only [rI, rI2, rA, rA1, u2, and_true, true_and]; (repeat' split) <;> first | rfl | exact e | (exfalso; omega)
  · intro m r h0 h1; have e := RelC_c10 h m r h0 h1; simp only [rI, rI2, rA, rA1, u2, and_true, true_and]; (repeat' split) <;> first | rfl | exact e | (exfalso; omega)
  · intro m r h0 h1; have e := RelC_c11 h m r h0 h1; simp only [rI, rI2, rA, rA1, u2, and_true, true_and]; (repeat' split) <;> first | rfl | exact e | (exfalso; omega)
  · intro m r h0 h1; have e := RelC_c12 h m r h0 h1; simp only [rI, rI2, rA, rA1, u2, and_true, true_and]; (repeat' split) <;> first | rfl | exact e | (exfalso; omega)
  · intro m r h0 h1; have e := RelC_c13 h m r h0 h1; simp only [rI, rI2, rA, rA1, u2, and_true, true_and]; (repeat' split) <;> first | rfl | exact e | (exfalso; omega)
  · intro m h0; have e := RelC_c14 h m h0; simp only [rI, rI2, rA, rA1, u2, and_true, true_and]; (repeat' split) <;> first | rfl | exact e | (exfalso; omega)
  · intro m p h0 h1; have e := RelC_c15 h m p h0 h1; simp only [rI, rI2, rA, rA1, u2, and_true, true_and]; (repeat' split) <;> first | rfl | exact e | (exfalso; omega)
theorem RelC_u7 {σ : SG} {IA : Nat} {im : Im} {v : Nat} {m0 : Nat} (h : RelC σ IA im) (hv : v < 256) (z0 : m0 < 6) : RelC (setI σ (IA + 4 + 9 * m0) 2 (Int32.ofNat v)) IA (u2 im 7 m0 v) := by
  refine ⟨?_, ?_, ?_, ?_, ?_, ?_, ?_, ?_, ?_, ?_, ?_, ?_, ?_, ?_, ?_, ?_, ?_⟩
  · intro a k; simp only [u2]; split <;> first | exact hv | exact h.1 a k
  · have e := RelC_c0 h; simp only [rI, rI2, rA, rA1, u2, and_true, true_and]; (repeat' split) <;> first | rfl | exact e | (exfalso; omega)
  · have e := RelC_c1 h; simp only [rI, rI2, rA, rA1, u2, and_true, true_and]; (repeat' split) <;> first | rfl | exact e | (exfalso; omega)
  · intro c h0; have e := RelC_c2 h c h0; simp only [rI, rI2, rA, rA1, u2, and_true, true_and]; (repeat' split) <;> first | rfl | exact e | (exfalso; omega)
  · intro k h0; have e := RelC_c3 h k h0; simp only [rI, rI2, rA, rA1, u2, and_true, true_and]; (repeat' split) <;> first | rfl | exact e | (exfalso; omega)
  · intro m h0; have e := RelC_c4 h m h0; simp only [rI, rI2, rA, rA1, u2, and_true, true_and]; (repeat' split) <;> first | rfl | exact e | (exfalso; omega)
  · intro m h0; have e := RelC_c5 h m h0; simp only [rI, rI2, rA, rA1, u2, and_true, true_and]; (repeat' split) <;> first | rfl | exact e | (exfalso; omega)
  · intro m i h0 h1; have e := RelC_c6 h m i h0 h1; simp only [rI, rI2, rA, rA1, u2, and_true, true_and]; (repeat' split) <;> first | rfl | exact e | (exfalso; omega)
  · intro m h0; have e := RelC_c7 h m h0; simp only [rI, rI2, rA, rA1, u2, and_true, true_and]; (repeat' split) <;> first | rfl | exact e | (exfalso; omega)
  · intro m i h0 h1; have e := RelC_c8 h m i h0 h1; simp only [rI, rI2, rA, rA1, u2, and_true, true_and]; (repeat' split) <;> first | rfl | exact e | (exfalso; omega)
  · intro m h0; have e := RelC_c9 h m h0; simp only [rI, rI2, rA, rA1, u2, and_true, true_and]; (repeat' split) <;> first | rfl | exact e | (exfalso; omega)
  · intro m r h0 h1; have e := RelC_c10 h m r h0 h1; simp only [rI, rI2, rA, rA1, u2, and_true, true_and]; (repeat' split) <;> first | rfl | exact e | (exfalso; omega)
  · intro m r h0 h1; have e := RelC_c11 h m r h0 h1; simp only [rI, rI2, rA, rA1, u2, and_true, true_and]; (repeat' split) <;> first | rfl | exact e | (exfalso; omega)
  · intro m r h0 h1; have e := RelC_c12 h m r h0 h1; simp only [rI, rI2, rA, rA1, u2, and_true, true_and]; (repeat' split) <;> first | rfl | exact e | (exfalso; omega)
  · intro m r h0 h1; have e := RelC_c13 h m r h0 h1; simp only [rI, rI2, rA, rA1, u2, and_true, true_and]; (repeat' split) <;> first | rfl | exact e | (exfalso; omega)
  · intro m h0; have e := RelC_c14 h m h0; simp only [rI, rI2, rA, rA1, u2, and_true, true_and]; (repeat' split) <;> first | rfl | exact e | (exfalso; omega)
  · intro m p h0 h1; have e := RelC_c15 h m p h0 h1; simp only [rI, rI2, rA, rA1, u2, and_true, true_and]; (repeat' split) <;> first | rfl | exact e | (exfalso; omega)
theorem RelC_u8 {σ : SG} {IA : Nat} {im : Im} {v : Nat} {m0 : Nat} {i0 : Nat} (h : RelC σ IA im) (hv : v < 256) (z0 : m0 < 6) (z1 : i0 < 4) : RelC (setA σ (IA + 4 + 9 * m0 + 2) i0 (Int32.ofNat v)) IA (u2 im 8 (4 * m0 + i0) v) := by
  refine ⟨?_, ?_, ?_, ?_, ?_, ?_, ?_, ?_, ?_, ?_, ?_, ?_, ?_, ?_, ?_, ?_, ?_⟩
  · intro a k; simp only [u2]; split <;> first | exact hv | exact h.1 a k
  · have e := RelC_c0 h; simp only [rI, rI2, rA, rA1, u2, and_true, true_and]; (repeat' split) <;> first | rfl | exact e | (exfalso; omega)
  · have e := RelC_c1 h; simp only [rI, rI2, rA, rA1, u2, and_true, true_and]; (repeat' split) <;> first | rfl | exact e | (exfalso; omega)
  · intro c h0; have e := RelC_c2 h c h0; simp only [rI, rI2, rA, rA1, u2, and_true, true_and]; (repeat' split) <;> first | rfl | exact e | (exfalso; omega)
  · intro k h0; have e := RelC_c3 h k h0; simp only [rI, rI2, rA, rA1, u2, and_true, true_and]; (repeat' split) <;> first | rfl | exact e | (exfalso; omega)
  · intro m h0; have e := RelC_c4 h m h0; simp only [rI, rI2, rA, rA1, u2, and_true, true_and]; (repeat' split) <;> first | rfl | exact e | (exfalso; omega)
  · intro m h0; have e := RelC_c5 h m h0; simp only [rI, rI2, rA, rA1, u2, and_true, true_and]; (repeat' split) <;> first | rfl | exact e | (exfalso; omega)
  · intro m i h0 h1; have e := RelC_c6 h m i h0 h1; simp only [rI, rI2, rA, rA1, u2, and_true, true_and]; (repeat' split) <;> first | rfl | exact e | (exfalso; omega)
  · intro m h0; have e := RelC_c7 h m h0; simp only [rI, rI2, rA, rA1, u2, and_true, true_and]; (repeat' split) <;> first | rfl | exact e | (exfalso; omega)
  · intro m i h0 h1; have e := RelC_c8 h m i h0 h1; simp only [rI, rI2, rA, rA1, u2, and_true, true_and]; (repeat' split) <;> first | rfl | exact e | (exfalso; omega)
  · intro m h0; have e := RelC_c9 h m h0; simp only [rI, rI2, rA, rA1, u2, and_true, true_and]; (repeat' split) <;> first | rfl | exact e | (exfalso; omega)
  · intro m r h0 h1; have e := RelC_c10 h m r h0 h1; simp only [rI, rI2, rA, rA1, u2, and_true, true_and]; (repeat' split) <;> first | rfl | exact e | (exfalso; omega)
  · intro m r h0 h1; have e := RelC_c11 h m r h0 h1; simp only [rI, rI2, rA, rA1, u2, and_true, true_and]; (repeat' split) <;> first | rfl | exact e | (exfalso; omega)
  · intro m r h0 h1; have e := RelC_c12 h m r h0 h1; simp only [rI, rI2, rA, rA1, u2, and_true, true_and]; (repeat' split) <;> first | rfl | exact e | (exfalso; omega)
  · intro m r h0 h1; have e := RelC_c13 h m r h0 h1; simp only [rI, rI2, rA, rA1, u2, and_true, true_and]; (repeat' split) <;> first | rfl | exact e | (exfalso; omega)
  · intro m h0; have e := RelC_c14 h m h0; simp only [rI, rI2, rA, rA1, u2, and_true, true_and]; (repeat' split) <;> first | rfl | exact e | (exfalso; omega)
  · intro m p h0 h1; have e := RelC_c15 h m p h0 h1; simp only [rI, rI2, rA, rA1, u2, and_true, true_and]; (repeat' split) <;> first | rfl | exact e | (exfalso; omega)
theorem RelC_u9 {σ : SG} {IA : Nat} {im : Im} {v : Nat} {m0 : Nat} (h : RelC σ IA im) (hv : v < 256) (z0 : m0 < 6) : RelC (setI σ (IA + 4 + 9 * m0) 3 (Int32.ofNat v)) IA (u2 im 9 m0 v) := by
  refine ⟨?_, ?_, ?_, ?_, ?_, ?_, ?_, ?_, ?_, ?_, ?_, ?_, ?_, ?_, ?_, ?_, ?_⟩
  · intro a k; simp only [u2]; split <;> first | exact hv | exact h.1 a k
  · have e := RelC_c0 h; simp only [rI, rI2, rA, rA1, u2, and_true, true_and]; (repeat' split) <;> first | rfl | exact e | (exfalso; omega)
  · have e := RelC_c1 h; simp only [rI, rI2, rA, rA1, u2, and_true, true_and]; (repeat' split) <;> first | rfl | exact e | (exfalso; omega)
  · intro c h0; have e := RelC_c2 h c h0; simp only [rI, rI2, rA, rA1, u2, and_true, true_and]; (repeat' split) <;> first | rfl | exact e | (exfalso; omega)
  · intro k h0; have e := RelC_c3 h k h0; simp only [rI, rI2, rA, rA1, u2, and_true, true_and]; (repeat' split) <;> first | rfl | exact e | (exfalso; omega)
  · intro m h0; have e := RelC_c4 h m h0; simp only [rI, rI2, rA, rA1, u2, and_true, true_and]; (repeat' split) <;> first | rfl | exact e | (exfalso; omega)
  · intro m h0; have e := RelC_c5 h m h0; simp only [rI, rI2, rA, rA1, u2, and_true, true_and]; (repeat' split) <;> first | rfl | exact e | (exfalso; omega)
  · intro m i h0 h1; have e := RelC_c6 h m i h0 h1; simp only [rI, rI2, rA, rA1, u2, and_true, true_and]; (repeat' split) <;> first | rfl | exact e | (exfalso; omega)
  · intro m h0; have e := RelC_c7 h m h0; simp only [rI, rI2, rA, rA1, u2, and_true, true_and]; (repeat' split) <;> first | rfl | exact e | (exfalso; omega)
  · intro m i h0 h1; have e := RelC_c8 h m i h0 h1; simp only [rI, rI2, rA, rA1, u2, and_true, true_and]; (repeat' split) <;> first | rfl | exact e | (exfalso; omega)
  · intro m h0; have e := RelC_c9 h m h0; simp only [rI, rI2, rA, rA1, u2, and_true, true_and]; (repeat' split) <;> first | rfl | exact e | (exfalso; omega)
  · intro m r h0 h1; have e := RelC_c10 h m r h0 h1; simp only [rI, rI2, rA, rA1, u2, and_true, true_and]; (repeat' split) <;> first | rfl | exact e | (exfalso; omega)
  · intro m r h0 h1; have e := RelC_c11 h m r h0 h1; simp only [rI, rI2, rA, rA1, u2, and_true, true_and]; (repeat' split) <;> first | rfl | exact e | (exfalso; omega)
  · intro m r h0 h1; have e := RelC_c12 h m r h0 h1; simp only [rI, rI2, rA, rA1, u2, and_true, true_and]; (repeat' split) <;> first | rfl | exact e | (exfalso; omega)
  · intro m r h0 h1; have e := RelC_c13 h m r h0 h1; simp only [rI, rI2, rA, rA1, u2, and_true, true_and]; (repeat' split) <;> first | rfl | exact e | (exfalso; omega)
  · intro m h0; have e := RelC_c14 h m h0; simp only [rI, rI2, rA, rA1, u2, and_true, true_and]; (repeat' split) <;> first | rfl | exact e | (exfalso; omega)
  · intro m p h0 h1; have e := RelC_c15 h m p h0 h1; simp only [rI, rI2, rA, rA1, u2, and_true, true_and]; (repeat' split) <;> first | rfl | exact e | (exfalso; omega)
theorem RelC_u10 {σ : SG} {IA : Nat} {im : Im} {v : Nat} {m0 : Nat} {r0 : Nat} (h : RelC σ IA im) (hv : v < 256) (z0 : m0 < 6) (z1 : r0 < 3) : RelC (setI σ (IA + 4 + 9 * m0 + 4 + r0) 0 (Int32.ofNat v)) IA (u2 im 10 (3 * m0 + r0) v) := by
  refine ⟨?_, ?_, ?_, ?_, ?_, ?_, ?_, ?_, ?_, ?_, ?_, ?_, ?_, ?_, ?_, ?_, ?_⟩
  · intro a k; simp only [u2]; split <;> first | exact hv | exact h.1 a k
  · have e := RelC_c0 h; simp only [rI, rI2, rA, rA1, u2, and_true, true_and]; (repeat' split) <;> first | rfl | exact e | (exfalso; omega)
  · have e := RelC_c1 h; simp only [rI, rI2, rA, rA1, u2, and_true, true_and]; (repeat' split) <;> first | rfl | exact e | (exfalso; omega)
  · intro c h0; have e := RelC_c2 h c h0; simp only [rI, rI2, rA, rA1, u2, and_true, true_and]; (repeat' split) <;> first | rfl | exact e | (exfalso; omega)
  · intro k h0; have e := RelC_c3 h k h0; simp only [rI, rI2, rA, rA1, u2, and_true, true_and]; (repeat' split) <;> first | rfl | exact e | (exfalso; omega)
  · intro m h0; have e := RelC_c4 h m h0; simp only [rI, rI2, rA, rA1, u2, and_true, true_and]; (repeat' split) <;> first | rfl | exact e | (exfalso; omega)
  · intro m h0; have e := RelC_c5 h m h0; simp only [rI, rI2, rA, rA1, u2, and_true, true_and]; (repeat' split) <;> first | rfl | exact e | (exfalso; omega)
  · intro m i h0 h1; have e := RelC_c6 h m i h0 h1; simp only [rI, rI2, rA, rA1, u2, and_true, true_and]; (repeat' split) <;> first | rfl | exact e | (exfalso; omega)
  · intro m h0; have e := RelC_c7 h m h0; simp only [rI, rI2, rA, rA1, u2, and_true, true_and]; (repeat' split) <;> first | rfl | exact e | (exfalso; omega)
  · intro m i h0 h1; have e := RelC_c8 h m i h0 h1; simp only [rI, rI2, rA, rA1, u2, and_true, true_and]; (repeat' split) <;> first | rfl | exact e | (exfalso; omega)
  · intro m h0; have e := RelC_c9 h m h0; simp only [rI, rI2, rA, rA1, u2, and_true, true_and]; (repeat' split) <;> first | rfl | exact e | (exfalso; omega)
  · intro m r h0 h1; have e := RelC_c10 h m r h0 h1; simp only [rI, rI2, rA, rA1, u2, and_true, true_and]; (repeat' split) <;> first | rfl | exact e | (exfalso; omega)
  · intro m r h0 h1; have e := RelC_c11 h m r h0 h1; simp only [rI, rI2, rA, rA1, u2, and_true, true_and]; (repeat' split) <;> first | rfl | exact e | (exfalso; omega)
  · intro m r h0 h1; have e := RelC_c12 h m r h0 h1; simp only [rI, rI2, rA, rA1, u2, and_true, true_and]; (repeat' split) <;> first | rfl | exact e | (exfalso; omega)
  · intro m r h0 h1; have e := RelC_c13 h m r h0 h1; simp only [rI, rI2, rA, rA1, u2, and_true, true_and]; (repeat' split) <;> first | rfl | exact e | (exfalso; omega)
  · intro m h0; have e := RelC_c14 h m h0; simp only [rI, rI2, rA, rA1, u2, and_true, true_and]; (repeat' split) <;> first | rfl | exact e | (exfalso; omega)
  · intro m p h0 h1; have e := RelC_c15 h m p h0 h1; simp only [rI, rI2, rA, rA1, u2, and_true, true_and]; (repeat' split) <;> first | rfl | exact e | (exfalso; omega)
theorem RelC_u11 {σ : SG} {IA : Nat} {im : Im} {v : Nat} {m0 : Nat} {r0 : Nat} (h : RelC σ IA im) (hv : v < 256) (z0 : m0 < 6) (z1 : r0 < 3) : RelC (setI σ (IA + 4 + 9 * m0 + 4 + r0) 1 (Int32.ofNat v)) IA (u2 im 11 (3 * m0 + r0) v) := by
  refine ⟨?_, ?_, ?_, ?_, ?_, ?_, ?_, ?_, ?_, ?_, ?_, ?_, ?_, ?_, ?_, ?_, ?_⟩
  · intro a k; simp only [u2]; split <;> first | exact hv | exact h.1 a k
  · have e := RelC_c0 h; simp only [rI, rI2, rA, rA1, u2, and_true, true_and]; (repeat' split) <;> first | rfl | exact e | (exfalso; omega)
  · have e := RelC_c1 h; simp only [rI, rI2, rA, rA1, u2, and_true, true_and]; (repeat' split) <;> first | rfl | exact e | (exfalso; omega)
  · intro c h0; have e := RelC_c2 h c h0; simp only [rI, rI2, rA, rA1, u2, and_true, true_and]; (repeat' split) <;> first | rfl | exact e | (exfalso; omega)
  · intro k h0; have e := RelC_c3 h k h0; simp only [rI, rI2, rA, rA1, u2, and_true, true_and]; (repeat' split) <;> first | rfl | exact e | (exfalso; omega)
  · intro m h0; have e := RelC_c4 h m h0; simp only [rI, rI2, rA, rA1, u2, and_true, true_and]; (repeat' split) <;> first | rfl | exact e | (exfalso; omega)
  · intro m h0; have e := RelC_c5 h m h0; simp only [rI, rI2, rA, rA1, u2, and_true, true_and]; (repeat' split) <;> first | rfl | exact e | (exfalso; omega)
  · intro m i h0 h1; have e := RelC_c6 h m i h0 h1; simp only [rI, rI2, rA, rA1, u2, and_true, true_and]; (repeat' split) <;> first | rfl | exact e | (exfalso; omega)
  · intro m h0; have e := RelC_c7 h m h0; simp only [rI, rI2, rA, rA1, u2, and_true, true_and]; (repeat' split) <;> first | rfl | exact e | (exfalso; omega)
  · intro m i h0 h1; have e := RelC_c8 h m i h0 h1; simp only [rI, rI2, rA, rA1, u2, and_true, true_and]; (repeat' split) <;> first | rfl | exact e | (exfalso; omega)
  · intro m h0; have e := RelC_c9 h m h0; simp only [rI, rI2, rA, rA1, u2, and_true, true_and]; (repeat' split) <;> first | rfl | exact e | (exfalso; omega)
  · intro m r h0 h1; have e := RelC_c10 h m r h0 h1; simp only [rI, rI2, rA, rA1, u2, and_true, true_and]; (repeat' split) <;> first | rfl | exact e | (exfalso; omega)
  · intro m r h0 h1; have e := RelC_c11 h m r h0 h1; simp only [rI, rI2, rA, rA1, u2, and_true, true_and]; (repeat' split) <;> first | rfl | exact e | (exfalso; omega)
  · intro m r h0 h1; have e := RelC_c12 h m r h0 h1; simp only [rI, rI2, rA, rA1, u2, and_true, true_and]; (repeat' split) <;> first | rfl | exact e | (exfalso; omega)
  · intro m r h0 h1; have e := RelC_c13 h m r h0 h1; simp only [rI, rI2, rA, rA1, u2, and_true, true_and]; (repeat' split) <;> first | rfl | exact e | (exfalso; omega)
  · intro m h0; have e := RelC_c14 h m h0; simp only [rI, rI2, rA, rA1, u2, and_true, true_and]; (repeat' split) <;> first | rfl | exact e | (exfalso; omega)
  · intro m p h0 h1; have e := RelC_c15 h m p h0 h1; simp only [rI, rI2, rA, rA1, u2, and_true, true_and]; (repeat' split) <;> first | rfl | exact e | (exfalso; omega)
theorem RelC_u12 {σ : SG} {IA : Nat} {im : Im} {v : Nat} {m0 : Nat} {r0 : Nat} (h : RelC σ IA im) (hv : v < 256) (z0 : m0 < 6) (z1 : r0 < 3) : RelC (setI σ (IA + 4 + 9 * m0 + 4 + r0) 2 (Int32.ofNat v)) IA (u2 im 12 (3 * m0 + r0) v) := by
  refine ⟨?_, ?_, ?_, ?_, ?_, ?_, ?_, ?_, ?_, ?_, ?_, ?_, ?_, ?_, ?_, ?_, ?_⟩
  · intro a k; simp only [u2]; split <;> first | exact hv | exact h.1 a k
  · have e := RelC_c0 h; simp only [rI, rI2, rA, rA1, u2, and_true, true_and]; (repeat' split) <;> first | rfl | exact e | (exfalso; omega)
  · have e := RelC_c1 h; simp only [rI, rI2, rA, rA1, u2, and_true, true_and]; (repeat' split) <;> first | rfl | exact e | (exfalso; omega)
  · intro c h0; have e := RelC_c2 h c h0; simp only [rI, rI2, rA, rA1, u2, and_true, true_and]; (repeat' split) <;> first | rfl | exact e | (exfalso; omega)
  · intro k h0; have e := RelC_c3 h k h0; simp only [rI, rI2, rA, rA1, u2, and_true, true_and]; (repeat' split) <;> first | rfl | exact e | (exfalso; omega)
  · intro m h0; have e := RelC_c4 h m h0; simp only [rI, rI2, rA, rA1, u2, and_true, true_and]; (repeat' split) <;> first | rfl | exact e | (exfalso; omega)
  · intro m h0; have e := RelC_c5 h m h0; simp only [rI, rI2, rA, rA1, u2, and_true, true_and]; (repeat' split) <;> first | rfl | exact e | (exfalso; omega)
  · intro m i h0 h1; have e := RelC_c6 h m i h0 h1; simp only [rI, rI2, rA, rA1, u2, and_true, true_and]; (repeat' split) <;> first | rfl | exact e | (exfalso; omega)
  · intro m h0; have e := RelC_c7 h m h0; simp only [rI, rI2, rA, rA1, u2, and_true, true_and]; (repeat' split) <;> first | rfl | exact e | (exfalso; omega)
  · intro m i h0 h1; have e := RelC_c8 h m i h0 h1; simp only [rI, rI2, rA, rA1, u2, and_true, true_and]; (repeat' split) <;> first | rfl | exact e | (exfalso; omega)
  · intro m h0; have e := RelC_c9 h m h0; simp only [rI, rI2, rA, rA1, u2, and_true, true_and]; (repeat' split) <;> first | rfl | exact e | (exfalso; omega)
  · intro m r h0 h1; have e := RelC_c10 h m r h0 h1; simp only [rI, rI2, rA, rA1, u2, and_true, true_and]; (repeat' split) <;> first | rfl | exact e | (exfalso; omega)
  · intro m r h0 h1; have e := RelC_c11 h m r h0 h1; simp only [rI, rI2, rA, rA1, u2, and_true, true_and]; (repeat' split) <;> first | rfl | exact e | (exfalso; omega)
  · intro m r h0 h1; have e := RelC_c12 h m r h0 h1; simp only [rI, rI2, rA, rA1, u2, and_true, true_and]; (repeat' split) <;> first | rfl | exact e | (exfalso; omega)
  · intro m r h0 h1; have e := RelC_c13 h m r h0 h1; simp only [rI, rI2, rA, rA1, u2, and_true, true_and]; (repeat' split) <;> first | rfl | exact e | (exfalso; omega)
  · intro m h0; have e := RelC_c14 h m h0; simp only [rI, rI2, rA, rA1, u2, and_true, true_and]; (repeat' split) <;> first | rfl | exact e | (exfalso; omega)
  · intro m p h0 h1; have e := RelC_c15 h m p h0 h1; simp only [rI, rI2, rA, rA1, u2, and_true, true_and]; (repeat' split) <;> first | rfl | exact e | (exfalso; omega)
theorem RelC_u13 {σ : SG} {IA : Nat} {im : Im} {v : Nat} {m0 : Nat} {r0 : Nat} (h : RelC σ IA im) (hv : v < 256) (z0 : m0 < 6) (z1 : r0 < 3) : RelC (setI σ (IA + 4 + 9 * m0 + 4 + r0) 3 (Int32.ofNat v)) IA (u2 im 13 (3 * m0 + r0) v) := by
  refine ⟨?_, ?_, ?_, ?_, ?_, ?_, ?_, ?_, ?_, ?_, ?_, ?_, ?_, ?_, ?_, ?_, ?_⟩
  · intro a k; simp only [u2]; split <;> first | exact hv | exact h.1 a k
  · have e := RelC_c0 h; simp only [rI, rI2, rA, rA1, u2, and_true, true_and]; (repeat' split) <;> first | rfl | exact e | (exfalso; omega)
  · have e := RelC_c1 h; simp only [rI, rI2, rA, rA1, u2, and_true, true_and]; (repeat' split) <;> first | rfl | exact e | (exfalso; omega)
  · intro c h0; have e := RelC_c2 h c h0; simp only [rI, rI2, rA, rA1, u2, and_true, true_and]; (repeat' split) <;> first | rfl | exact e | (exfalso; omega)
  · intro k h0; have e := RelC_c3 h k h0; simp only [rI, rI2, rA, rA1, u2, and_true, true_and]; (repeat' split) <;> first | rfl | exact e | (exfalso; omega)
  · intro m h0; have e := RelC_c4 h m h0; simp only [rI, rI2, rA, rA1, u2, and_true, true_and]; (repeat' split) <;> first | rfl | exact e | (exfalso; omega)
  · intro m h0; have e := RelC_c5 h m h0; simp only [rI, rI2, rA, rA1, u2, and_true, true_and]; (repeat' split) <;> first | rfl | exact e | (exfalso; omega)
  · intro m i h0 h1; have e := RelC_c6 h m i h0 h1; simp only [rI, rI2, rA, rA1, u2, and_true, true_and]; (repeat' split) <;> first | rfl | exact e | (exfalso; omega)
  · intro m h0; have e := RelC_c7 h m h0; simp only [rI, rI2, rA, rA1, u2, and_true, true_and]; (repeat' split) <;> first | rfl | exact e | (exfalso; omega)
  · intro m i h0 h1; have e := RelC_c8 h m i h0 h1; simp only [rI, rI2, rA, rA1, u2, and_true, true_and]; (repeat' split) <;> first | rfl | exact e | (exfalso; omega)
  · intro m h0; have e := RelC_c9 h m h0; simp only [rI, rI2, rA, rA1, u2, and_true, true_and]; (repeat' split) <;> first | rfl | exact e | (exfalso; omega)
  · intro m r h0 h1; have e := RelC_c10 h m r h0 h1; simp only [rI, rI2, rA, rA1, u2, and_true, true_and]; (repeat' split) <;> first | rfl | exact e | (exfalso; omega)
  · intro m r h0 h1; have e := RelC_c11 h m r h0 h1; simp only [rI, rI2, rA, rA1, u2, and_true, true_and]; (repeat' split) <;> first | rfl | exact e | (exfalso; omega)
  · intro m r h0 h1; have e := RelC_c12 h m r h0 h1; simp only [rI, rI2, rA, rA1, u2, and_true, true_and]; (repeat' split) <;> first | rfl | exact e | (exfalso; omega)
  · intro m r h0 h1; have e := RelC_c13 h m r h0 h1; simp only [rI, rI2, rA, rA1, u2, and_true, true_and]; (repeat' split) <;> first | rfl | exact e | (exfalso; omega)
  · intro m h0; have e := RelC_c14 h m h0; simp only [rI, rI2, rA, rA1, u2, and_true, true_and]; (repeat' split) <;> first | rfl | exact e | (exfalso; omega)
  · intro m p h0 h1; have e := RelC_c15 h m p h0 h1; simp only [rI, rI2, rA, rA1, u2, and_true, true_and]; (repeat' split) <;> first | rfl | exact e | (exfalso; omega)
theorem RelC_u14 {σ : SG} {IA : Nat} {im : Im} {v : Nat} {m0 : Nat} (h : RelC σ IA im) (hv : v < 256) (z0 : m0 < 6) : RelC (setI σ (IA + 4 + 9 * m0) 4 (Int32.ofNat v)) IA (u2 im 14 m0 v) := by
  refine ⟨?_, ?_, ?_, ?_, ?_, ?_, ?_, ?_, ?_, ?_, ?_, ?_, ?_, ?_, ?_, ?_, ?_⟩
  · intro a k; simp only [u2]; split <;> first | exact hv | exact h.1 a k
  · have e := RelC_c0 h; simp only [rI, rI2, rA, rA1, u2, and_true, true_and]; (repeat' split) <;> first | rfl | exact e | (exfalso; omega)
  · have e := RelC_c1 h; simp only [rI, rI2, rA, rA1, u2, and_true, true_and]; (repeat' split) <;> first | rfl | exact e | (exfalso; omega)
  · intro c h0; have e := RelC_c2 h c h0; simp only [rI, rI2, rA, rA1, u2, and_true, true_and]; (repeat' split) <;> first | rfl | exact e | (exfalso; omega)
  · intro k h0; have e := RelC_c3 h k h0; simp only [rI, rI2, rA, rA1, u2, and_true, true_and]; (repeat' split) <;> first | rfl | exact e | (exfalso; omega)
  · intro m h0; have e := RelC_c4 h m h0; simp only [rI, rI2, rA, rA1, u2, and_true, true_and]; (repeat' split) <;> first | rfl | exact e | (exfalso; omega)
  · intro m h0; have e := RelC_c5 h m h0; simp only [rI, rI2, rA, rA1, u2, and_true, true_and]; (repeat' split) <;> first | rfl | exact e | (exfalso; omega)
  · intro m i h0 h1; have e := RelC_c6 h m i h0 h1; simp only [rI, rI2, rA, rA1, u2, and_true, true_and]; (repeat' split) <;> first | rfl | exact e | (exfalso; omega)
  · intro m h0; have e := RelC_c7 h m h0; simp only [rI, rI2, rA, rA1, u2, and_true, true_and]; (repeat' split) <;> first | rfl | exact e | (exfalso; omega)
  · intro m i h0 h1; have e := RelC_c8 h m i h0 h1; simp only [rI, rI2, rA, rA1, u2, and_true, true_and]; (repeat' split) <;> first | rfl | exact e | (exfalso; omega)
  · intro m h0; have e := RelC_c9 h m h0; simp only [rI, rI2, rA, rA1, u2, and_true, true_and]; (repeat' split) <;> first | rfl | exact e | (exfalso; omega)
  · intro m r h0 h1; have e := RelC_c10 h m r h0 h1; simp only [rI, rI2, rA, rA1, u2, and_true, true_and]; (repeat' split) <;> first | rfl | exact e | (exfalso; omega)
  · intro m r h0 h1; have e := RelC_c11 h m r h0 h1; simp only [rI, rI2, rA, rA1, u2, and_true, true_and]; (repeat' split) <;> first | rfl | exact e | (exfalso; omega)
  · intro m r h0 h1; have e := RelC_c12 h m r h0 h1; simp only [rI, rI2, rA, rA1, u2, and_true, true_and]; (repeat' split) <;> first | rfl | exact e | (exfalso; omega)
  · intro m r h0 h1; have e := RelC_c13 h m r h0 h1; simp only [rI, rI2, rA, rA1, u2, and_true, true_and]; (repeat' split) <;> first | rfl | exact e | (exfalso; omega)
  · intro m h0; have e := RelC_c14 h m h0; simp only [rI, rI2, rA, rA1, u2, and_true, true_and]; (repeat' split) <;> first | rfl | exact e | (exfalso; omega)
  · intro m p h0 h1; have e := RelC_c15 h m p h0 h1; simp only [rI, rI2, rA, rA1, u2, and_true, true_and]; (repeat' split) <;> first | rfl | exact e | (exfalso; omega)
theorem RelC_u15 {σ : SG} {IA : Nat} {im : Im} {v : Nat} {m0 : Nat} {p0 : Nat} (h : RelC σ IA im) (hv : v < 256) (z0 : m0 < 6) (z1 : p0 < 100) : RelC (setA σ (IA + 4 + 9 * m0 + 7) p0 (Int32.ofNat v)) IA (u2 im 15 (100 * m0 + p0) v) := by
  refine ⟨?_, ?_, ?_, ?_, ?_, ?_, ?_, ?_, ?_, ?_, ?_, ?_, ?_, ?_, ?_, ?_, ?_⟩
  · intro a k; simp only [u2]; split <;> first | exact hv | exact h.1 a k
  · have e := RelC_c0 h; simp only [rI, rI2, rA, rA1, u2, and_true, true_and]; (repeat' split) <;> first | rfl | exact e | (exfalso; omega)
  · have e := RelC_c1 h; simp only [rI, rI2, rA, rA1, u2, and_true, true_and]; (repeat' split) <;> first | rfl | exact e | (exfalso; omega)
  · intro c h0; have e := RelC_c2 h c h0; simp only [rI, rI2, rA, rA1, u2, and_true, true_and]; (repeat' split) <;> first | rfl | exact e | (exfalso; omega)
  · intro k h0; have e := RelC_c3 h k h0; simp only [rI, rI2, rA, rA1, u2, and_true, true_and]; (repeat' split) <;> first | rfl | exact e | (exfalso; omega)
  · intro m h0; have e := RelC_c4 h m h0; simp only [rI, rI2, rA, rA1, u2, and_true, true_and]; (repeat' split) <;> first | rfl | exact e | (exfalso; omega)
  · intro m h0; have e := RelC_c5 h m h0; simp only [rI, rI2, rA, rA1, u2, and_true, true_and]; (repeat' split) <;> first | rfl | exact e | (exfalso; omega)
  · intro m i h0 h1; have e := RelC_c6 h m i h0 h1; simp only [rI, rI2, rA, rA1, u2, and_true, true_and]; (repeat' split) <;> first | rfl | exact e | (exfalso; omega)
  · intro m h0; have e := RelC_c7 h m h0; simp only [rI, rI2, rA, rA1, u2, and_true, true_and]; (repeat' split) <;> first | rfl | exact e | (exfalso; omega)
  · intro m i h0 h1; have e := RelC_c8 h m i h0 h1; simp only [rI, rI2, rA, rA1, u2, and_true, true_and]; (repeat' split) <;> first | rfl | exact e | (exfalso; omega)
  · intro m h0; have e := RelC_c9 h m h0; simp only [rI, rI2, rA, rA1, u2, and_true, true_and]; (repeat' split) <;> first | rfl | exact e | (exfalso; omega)
  · intro m r h0 h1; have e := RelC_c10 h m r h0 h1; simp only [rI, rI2, rA, rA1, u2, and_true, true_and]; (repeat' split) <;> first | rfl | exact e | (exfalso; omega)
  · intro m r h0 h1; have e := RelC_c11 h m r h0 h1; simp only [rI, rI2, rA, rA1, u2, and_true, true_and]; (repeat' split) <;> first | rfl | exact e | (exfalso; omega)
  · intro m r h0 h1; have e := RelC_c12 h m r h0 h1; simp only [rI, rI2, rA, rA1, u2, and_true, true_and]; (repeat' split) <;> first | rfl | exact e | (exfalso; omega)
  · intro m r h0 h1; have e := RelC_c13 h m r h0 h1; simp only [rI, rI2, rA, rA1, u2, and_true, true_and]; (repeat' split) <;> first | rfl | exact e | (exfalso; omega)
  · intro m h0; have e := RelC_c14 h m h0; simp only [rI, rI2, rA, rA1, u2, and_true, true_and]; (repeat' split) <;> first | rfl | exact e | (exfalso; omega)
  · intro m p h0 h1; have e := RelC_c15 h m p h0 h1; simp only [rI, rI2, rA, rA1, u2, and_true, true_and]; (repeat' split) <;> first | rfl | exact e | (exfalso; omega)
theorem RelC_ud {σ : SG} {IA : Nat} {im : Im} {v : Nat} (h : RelC σ IA im) (hv : v < 256) : RelC σ IA (u2 im 1 0 v) := by
  refine ⟨?_, ?_, ?_, ?_, ?_, ?_, ?_, ?_, ?_, ?_, ?_, ?_, ?_, ?_, ?_, ?_, ?_⟩
  · intro a k; simp only [u2]; split <;> first | exact hv | exact h.1 a k
  · have e := RelC_c0 h; simp only [u2, and_true, true_and]; (repeat' split) <;> first | rfl | exact e | (exfalso; omega)
  · have e := RelC_c1 h; simp only [u2, and_true, true_and]; (repeat' split) <;> first | rfl | exact e | (exfalso; omega)
  · intro c h0; have e := RelC_c2 h c h0; simp only [u2, and_true, true_and]; (repeat' split) <;> first | rfl | exact e | (exfalso; omega)
  · intro k h0; have e := RelC_c3 h k h0; simp only [u2, and_true, true_and]; (repeat' split) <;> first | rfl | exact e | (exfalso; omega)
  · intro m h0; have e := RelC_c4 h m h0; simp only [u2, and_true, true_and]; (repeat' split) <;> first | rfl | exact e | (exfalso; omega)
  · intro m h0; have e := RelC_c5 h m h0; simp only [u2, and_true, true_and]; (repeat' split) <;> first | rfl | exact e | (exfalso; omega)
  · intro m i h0 h1; have e := RelC_c6 h m i h0 h1; simp only [u2, and_true, true_and]; (repeat' split) <;> first | rfl | exact e | (exfalso; omega)
  · intro m h0; have e := RelC_c7 h m h0; simp only [u2, and_true, true_and]; (repeat' split) <;> first | rfl | exact e | (exfalso; omega)
  · intro m i h0 h1; have e := RelC_c8 h m i h0 h1; simp only [u2, and_true, true_and]; (repeat' split) <;> first | rfl | exact e | (exfalso; omega)
  · intro m h0; have e := RelC_c9 h m h0; simp only [u2, and_true, true_and]; (repeat' split) <;> first | rfl | exact e | (exfalso; omega)
  · intro m r h0 h1; have e := RelC_c10 h m r h0 h1; simp only [u2, and_true, true_and]; (repeat' split) <;> first | rfl | exact e | (exfalso; omega)
  · intro m r h0 h1; have e := RelC_c11 h m r h0 h1; simp only [u2, and_true, true_and]; (repeat' split) <;> first | rfl | exact e | (exfalso; omega)
  · intro m r h0 h1; have e := RelC_c12 h m r h0 h1; simp only [u2, and_true, true_and]; (repeat' split) <;> first | rfl | exact e | (exfalso; omega)
  · intro m r h0 h1; have e := RelC_c13 h m r h0 h1; simp only [u2, and_true, true_and]; (repeat' split) <;> first | rfl | exact e | (exfalso; omega)
  · intro m h0; have e := RelC_c14 h m h0; simp only [u2, and_true, true_and]; (repeat' split) <;> first | rfl | exact e | (exfalso; omega)
  · intro m p h0 h1; have e := RelC_c15 h m p h0 h1; simp only [u2, and_true, true_and]; (repeat' split) <;> first | rfl | exact e | (exfalso; omega)
