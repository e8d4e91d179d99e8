/-! What it is to be verified. -/
def ImC (σ : SG) (IA : Nat) (im : Im) : Prop := (IA = 2 ∨ IA = 60) ∧ isC SHc IA 1 = true ∧ ∃ y, RelC σ IA y ∧ GAll im y
def wdt (op : Nat) : Nat := if (1 ≤ op ∧ op ≤ 6) ∨ (13 ≤ op ∧ op ≤ 20) ∨ op = 33 ∨ op = 36 then 2 else 1
def pos (im : Im) (m : Nat) : Nat → Nat
  | 0 => 0
  | k + 1 => pos im m k + wdt (im 15 (100 * m + pos im m k))
def Beg (im : Im) (m p : Nat) : Prop := p < im 14 m ∧ ∃ k, pos im m k = p
def SpOK (im : Im) (m : Nat) : Prop := ∃ k, pos im m k = im 14 m ∧ ∀ j, j < k → im 15 (100 * m + pos im m j) ≤ 37
def iP (im : Im) (m r : Nat) (z : Int) : Prop := (im 10 (3 * m + r) : Int) ≤ z ∧ z < (im 11 (3 * m + r) : Int)
def iH (im : Im) (m r : Nat) (z : Int) : Prop := (im 11 (3 * m + r) : Int) ≤ z ∧ z < (im 12 (3 * m + r) : Int)
def isF (im : Im) (m r : Nat) : Prop := im 13 (3 * m + r) = 1
def WM (im : Im) (m : Nat) : Prop := ∀ r, r < im 9 m → im 10 (3 * m + r) < im 11 (3 * m + r) ∧ im 11 (3 * m + r) < im 12 (3 * m + r) ∧ Beg im m (im 10 (3 * m + r)) ∧ Beg im m (im 11 (3 * m + r)) ∧ (im 12 (3 * m + r) = im 14 m ∨ Beg im m (im 12 (3 * m + r))) ∧
  ∀ q, r < q → q < im 9 m → (im 12 (3 * m + r) ≤ im 10 (3 * m + q) ∨ im 12 (3 * m + q) ≤ im 10 (3 * m + r)) ∨ (im 10 (3 * m + q) ≤ im 10 (3 * m + r) ∧ im 12 (3 * m + r) ≤ im 11 (3 * m + q)) ∨ (im 11 (3 * m + q) ≤ im 10 (3 * m + r) ∧ im 12 (3 * m + r) ≤ im 12 (3 * m + q))
def lty (im : Im) (m k : Nat) : Nat := if k < im 7 m then im 8 (4 * m + k) else 0
def aty (im : Im) (m k : Nat) : Nat := if k < im 5 m then im 6 (3 * m + k) else 0
def fty (im : Im) (k : Nat) : Nat := if k / 4 < im 0 0 ∧ k % 4 < im 2 (k / 4) then im 3 k else 0
def plc (t : Nat) : Nat := if t = 1 then 3 else 0
def obj (im : Im) (k : Nat) : Nat := if fty im k = 0 then 0 else 8 + k / 4
def nuT (im : Im) (k : Nat) : Nat := if k = 4 ∨ k = 5 ∨ (8 ≤ k ∧ k < 8 + im 0 0) then k else 0
def neT (im : Im) (k : Nat) : Nat := if k < im 0 0 then 8 + k else 0
def popA (im : Im) (k : Nat) : Nat → Option (List Nat) → Option (List Nat)
  | 0, o => o
  | i + 1, o => popA im k i (o.bind (wot (im 6 (3 * k + i))))
def callT (im : Im) (k : Nat) (o : Option (List Nat)) : Option (List Nat) := if k < im 0 1 then (if im 4 k = 0 then popA im k (im 5 k) o else (popA im k (im 5 k) o).bind (wth (im 4 k))) else none
def Tr (im : Im) (m op k : Nat) (o : Option (List Nat)) : Option (List Nat) :=
  if op = 1 then o.bind (wth 1)
  else if op = 2 then o.bind (wth (lty im m k))
  else if op = 3 then o.bind (wot (lty im m k))
  else if op = 4 then o.bind (wth (plc (lty im m k)))
  else if op = 5 then o.bind (wth (aty im m k))
  else if op = 6 then o.bind (wot (aty im m k))
  else if op = 7 ∨ op = 8 ∨ op = 9 ∨ op = 10 then ((o.bind (wot 1)).bind (wot 1)).bind (wth 1)
  else if op = 11 then o.bind (fun l => wth (l.headD 0) l)
  else if op = 12 then o.bind (fun l => wot (l.headD 0) l)
  else if op = 14 then o.bind (wot 1)
  else if op = 15 then (o.bind (wot 1)).bind (wot 1)
  else if op = 16 then o.bind (wth (nuT im k))
  else if op = 17 then o.bind (wth (neT im k))
  else if op = 18 then (o.bind (wot (obj im k))).bind (wth (fty im k))
  else if op = 19 then (o.bind (wot (fty im k))).bind (wot (obj im k))
  else if op = 20 then (o.bind (wot (obj im k))).bind (wth (plc (fty im k)))
  else if op = 21 then (o.bind (wot 1)).bind (wth 4)
  else if op = 22 then ((o.bind (wot 1)).bind (wot 4)).bind (wth 1)
  else if op = 23 then ((o.bind (wot 1)).bind (wot 1)).bind (wot 4)
  else if op = 24 then ((o.bind (wot 1)).bind (wot 4)).bind (wth 3)
  else if op = 25 then (o.bind (wot 4)).bind (wth 1)
  else if op = 26 then (o.bind (wot 3)).bind (wth 1)
  else if op = 27 then (o.bind (wot 1)).bind (wot 3)
  else if op = 28 then ((o.bind (wot 1)).bind (wot 1)).bind (wth 2)
  else if op = 29 ∨ op = 30 then (o.bind (wot 2)).bind (wth 1)
  else if op = 31 then (o.bind (wot 2)).bind (wth 5)
  else if op = 32 then (o.bind (wot 5)).bind (wth 2)
  else if op = 33 then callT im k o
  else if op = 34 then (if im 4 m = 0 then o else o.bind (wot (im 4 m)))
  else if op = 35 then o.bind (wot 1)
  else o
abbrev RQ : Type := Nat → Option (List Nat)
def Rch (im : Im) (m : Nat) (Q : RQ) (z : Int) (o : Option (List Nat)) : Prop := ∃ q : Nat, z = q ∧ Beg im m q ∧ o ≠ none ∧ Q q = o
def goOK (im : Im) (m : Nat) (z1 z2 : Int) (o : Option (List Nat)) : Prop := ∀ r, r < im 9 m → (iH im m r z1 ↔ iH im m r z2) ∧ (iP im m r z1 → iP im m r z2) ∧ (iP im m r z2 → ¬ iP im m r z1 → z2 = (im 10 (3 * m + r) : Int) ∧ o = some [])
def mayL (im : Im) (m : Nat) (z1 z2 : Int) : Prop := ∀ r, r < im 9 m → (iP im m r z2 → iP im m r z1) ∧ (iH im m r z2 → iH im m r z1) ∧ (iH im m r z1 → ¬ iH im m r z2 → ¬ isF im m r)
def sg (k : Nat) : Int := if k ≤ 127 then (k : Int) else (k : Int) - 256
def fAr (im : Im) (m : Nat) (z : Int) (r : Nat) : Prop := r < im 9 m ∧ iH im m r z ∧ isF im m r ∧ ∀ q, q < r → ¬ iP im m q z ∧ ¬ iH im m q z
def lies (im : Im) (m op p : Nat) (l : List Nat) : Prop := (op = 34 → ∀ r, r < im 9 m → ¬ iP im m r p ∧ ¬ iH im m r p) ∧ (op = 37 → l = [] ∧ ∃ r, fAr im m p r)
def cdA (im : Im) (m p : Nat) : Nat := if p < im 14 m then im 15 (100 * m + p) else 0
def hRow (im : Im) (m r : Nat) : List Nat := if im 13 (3 * m + r) = 1 then [] else [1]
def OKat (im : Im) (m : Nat) (Q : RQ) (p : Nat) (l : List Nat) : Prop :=
  Tr im m (cdA im m p) (cdA im m (p + 1)) (some l) ≠ none ∧ lies im m (cdA im m p) p l ∧
  (∀ r, r < im 9 m → iP im m r p → Rch im m Q (im 11 (3 * m + r)) (some (hRow im m r))) ∧
  (cdA im m p = 36 → mayL im m p (p + 2 + sg (cdA im m (p + 1))) ∧ Rch im m Q (p + 2 + sg (cdA im m (p + 1))) (some [])) ∧
  (cdA im m p = 13 ∨ cdA im m p = 14 ∨ cdA im m p = 15 → goOK im m p (p + 2 + sg (cdA im m (p + 1))) (Tr im m (cdA im m p) (cdA im m (p + 1)) (some l)) ∧ Rch im m Q (p + 2 + sg (cdA im m (p + 1))) (Tr im m (cdA im m p) (cdA im m (p + 1)) (some l))) ∧
  (cdA im m p ≠ 13 → cdA im m p < 34 → goOK im m p (p + wdt (cdA im m p) : Nat) (Tr im m (cdA im m p) (cdA im m (p + 1)) (some l)) ∧ Rch im m Q (p + wdt (cdA im m p) : Nat) (Tr im m (cdA im m p) (cdA im m (p + 1)) (some l)))
def LeQ (R Q : RQ) : Prop := ∀ p l, R p = some l → Q p = some l
def Clo (im : Im) (m : Nat) (Q : RQ) : Prop := Rch im m Q 0 (some []) ∧ ∀ p l, Q p = some l → OKat im m Q p l
theorem LeQ_refl (R : RQ) : LeQ R R := fun _ _ h => h
theorem LeQ_trans {A B C : RQ} (h : LeQ A B) (g : LeQ B C) : LeQ A C := fun p l z => g p l (h p l z)
theorem Rch_mono {im : Im} {m : Nat} {R Q : RQ} {z : Int} {o : Option (List Nat)} (h : Rch im m R z o) (hq : LeQ R Q) : Rch im m Q z o := by
  obtain ⟨q, h1, h2, h3, h4⟩ := h
  refine ⟨q, h1, h2, h3, ?_⟩
  cases o with
  | none => exact absurd rfl h3
  | some l => exact hq q l h4
theorem OKat_mono {im : Im} {m : Nat} {R Q : RQ} {p : Nat} {l : List Nat} (h : OKat im m R p l) (hq : LeQ R Q) : OKat im m Q p l := by
  obtain ⟨h1, h2, h3, h4, h5, h6⟩ := h
  exact ⟨h1, h2, fun r a b => Rch_mono (h3 r a b) hq, fun a => ⟨(h4 a).1, Rch_mono (h4 a).2 hq⟩, fun a => ⟨(h5 a).1, Rch_mono (h5 a).2 hq⟩, fun a b => ⟨(h6 a b).1, Rch_mono (h6 a b).2 hq⟩⟩
/-- what an image's parser gives -/
theorem tyP_lt {many t : Nat} {pl no : Bool} (h : tyP many pl no t = true) (hm : many ≤ 4) : t < 12 := by
  have h' := of_decide_eq_true h
  omega
theorem tyP_pos {many t : Nat} {pl : Bool} (h : tyP many pl false t = true) : 1 ≤ t := by
  have h' := of_decide_eq_true h
  simp only [Bool.false_eq_true, false_and, false_or] at h'
  omega
theorem tyP_n3 {many t : Nat} {no : Bool} (h : tyP many false no t = true) : t ≠ 3 := by
  have h' := of_decide_eq_true h
  simp only [Bool.false_eq_true, false_and, false_or] at h'
  omega
theorem wdt_2 (op : Nat) : wdt op = 1 ∨ wdt op = 2 := by
  unfold wdt
  split <;> omega
theorem pos_lt (im : Im) (m k : Nat) : pos im m k < pos im m (k + 1) := by
  show pos im m k < pos im m k + wdt _
  have := wdt_2 (im 15 (100 * m + pos im m k))
  omega
theorem pos_mono (im : Im) (m : Nat) : ∀ {j k : Nat}, j < k → pos im m j < pos im m k := by
  intro j k h
  induction k with
  | zero => omega
  | succ k ih =>
    have h1 := pos_lt im m k
    by_cases c : j = k
    · rw [c]; exact h1
    · have := ih (by omega); omega
theorem pos_ge (im : Im) (m : Nat) : ∀ k, k ≤ pos im m k := by
  intro k
  induction k with
  | zero => exact Nat.zero_le _
  | succ k ih => have := pos_lt im m k; omega
/-- the facts of an image in the class -/
theorem IC_nc {σ : SG} {IA : Nat} {im : Im} (h : ImC σ IA im) : σ.1 IA 0 = Int32.ofNat (im 0 0) ∧ im 0 0 ≤ 4 := by
  obtain ⟨-, -, y, hR, hG⟩ := h
  rw [RelC_c0 hR, ← hG.1.1]
  exact ⟨rfl, (rng_le hG.1.2).2⟩
theorem IC_nm {σ : SG} {IA : Nat} {im : Im} (h : ImC σ IA im) : σ.1 IA 1 = Int32.ofNat (im 0 1) ∧ 1 ≤ im 0 1 ∧ im 0 1 ≤ 6 := by
  obtain ⟨-, -, y, hR, hG⟩ := h
  rw [RelC_c1 hR, ← hG.2.2.1.1]
  exact ⟨rfl, rng_le hG.2.2.1.2⟩
theorem IC_fc {σ : SG} {IA : Nat} {im : Im} {c : Nat} (h : ImC σ IA im) (hc : c < im 0 0) : σ.2.2.2.1 (IA + 1) c = Int32.ofNat (im 2 c) ∧ im 2 c ≤ 4 := by
  have hn := IC_nc h
  obtain ⟨-, -, y, hR, hG⟩ := h
  have hF := hG.2.1 c (by omega) (by omega)
  rw [RelC_c2 hR c (by omega), ← hF.1.1]
  exact ⟨rfl, (rng_le hF.1.2).2⟩
theorem IC_ft {σ : SG} {IA : Nat} {im : Im} {c f : Nat} (h : ImC σ IA im) (hc : c < im 0 0) (hf : f < im 2 c) : σ.2.2.2.1 (IA + 2) (4 * c + f) = Int32.ofNat (im 3 (4 * c + f)) ∧ tyP (im 0 0) false false (im 3 (4 * c + f)) = true := by
  have hn := IC_nc h
  have h4 := (IC_fc h hc).2
  obtain ⟨-, -, y, hR, hG⟩ := h
  have hF := hG.2.1 c (by omega) (by omega)
  have hF2 := hF.2 f (by omega) (by omega)
  rw [RelC_c3 hR _ (by omega), ← hF2.1]
  exact ⟨rfl, hF2.2⟩
theorem IC_M {σ : SG} {IA : Nat} {im : Im} {m : Nat} (h : ImC σ IA im) (hm : m < im 0 1) : m < 6 ∧ isC SHc (IA + 4 + 9 * m) 2 = true ∧ ∃ y, RelC σ IA y ∧ GM (im 0 0) m im y := by
  have hn := IC_nm h
  obtain ⟨-, hI, y, hR, hG⟩ := h
  exact ⟨by omega, isMe hI (by omega), y, hR, hG.2.2.2 m (by omega) (by omega)⟩
theorem IC_res {σ : SG} {IA : Nat} {im : Im} {m : Nat} (h : ImC σ IA im) (hm : m < im 0 1) : σ.1 (IA + 4 + 9 * m) 0 = Int32.ofNat (im 4 m) ∧ tyP (im 0 0) false true (im 4 m) = true := by
  obtain ⟨h6, -, y, hR, hG⟩ := IC_M h hm
  rw [RelC_c4 hR m h6, ← hG.1.1]
  exact ⟨rfl, hG.1.2⟩
theorem IC_ac {σ : SG} {IA : Nat} {im : Im} {m : Nat} (h : ImC σ IA im) (hm : m < im 0 1) : σ.1 (IA + 4 + 9 * m) 1 = Int32.ofNat (im 5 m) ∧ im 5 m ≤ 3 := by
  obtain ⟨h6, -, y, hR, hG⟩ := IC_M h hm
  rw [RelC_c5 hR m h6, ← hG.2.1.1]
  exact ⟨rfl, (rng_le hG.2.1.2).2⟩
theorem IC_at {σ : SG} {IA : Nat} {im : Im} {m i : Nat} (h : ImC σ IA im) (hm : m < im 0 1) (hi : i < im 5 m) : σ.2.2.2.1 (IA + 4 + 9 * m + 1) i = Int32.ofNat (im 6 (3 * m + i)) ∧ tyP (im 0 0) true false (im 6 (3 * m + i)) = true := by
  have h3 := (IC_ac h hm).2
  obtain ⟨h6, -, y, hR, hG⟩ := IC_M h hm
  have hj := hG.2.2.1 i (by omega) (by omega)
  rw [RelC_c6 hR m i h6 (by omega), ← hj.1]
  exact ⟨rfl, hj.2⟩
theorem IC_lc {σ : SG} {IA : Nat} {im : Im} {m : Nat} (h : ImC σ IA im) (hm : m < im 0 1) : σ.1 (IA + 4 + 9 * m) 2 = Int32.ofNat (im 7 m) ∧ im 7 m ≤ 4 := by
  obtain ⟨h6, -, y, hR, hG⟩ := IC_M h hm
  have hL := hG.2.2.2
  rw [RelC_c7 hR m h6, ← hL.1.1]
  exact ⟨rfl, (rng_le hL.1.2).2⟩
theorem IC_lt {σ : SG} {IA : Nat} {im : Im} {m i : Nat} (h : ImC σ IA im) (hm : m < im 0 1) (hi : i < im 7 m) : σ.2.2.2.1 (IA + 4 + 9 * m + 2) i = Int32.ofNat (im 8 (4 * m + i)) ∧ tyP (im 0 0) false false (im 8 (4 * m + i)) = true := by
  have h3 := (IC_lc h hm).2
  obtain ⟨h6, -, y, hR, hG⟩ := IC_M h hm
  have hj := hG.2.2.2.2.1 i (by omega) (by omega)
  rw [RelC_c8 hR m i h6 (by omega), ← hj.1]
  exact ⟨rfl, hj.2⟩
theorem IC_rc {σ : SG} {IA : Nat} {im : Im} {m : Nat} (h : ImC σ IA im) (hm : m < im 0 1) : σ.1 (IA + 4 + 9 * m) 3 = Int32.ofNat (im 9 m) ∧ im 9 m ≤ 3 := by
  obtain ⟨h6, -, y, hR, hG⟩ := IC_M h hm
  have hL := hG.2.2.2.2.2
  rw [RelC_c9 hR m h6, ← hL.1.1]
  exact ⟨rfl, (rng_le hL.1.2).2⟩
theorem IC_rg {σ : SG} {IA : Nat} {im : Im} {m r : Nat} (h : ImC σ IA im) (hm : m < im 0 1) (hr : r < im 9 m) : σ.1 (IA + 4 + 9 * m + 4 + r) 0 = Int32.ofNat (im 10 (3 * m + r)) ∧ σ.1 (IA + 4 + 9 * m + 4 + r) 1 = Int32.ofNat (im 11 (3 * m + r)) ∧ σ.1 (IA + 4 + 9 * m + 4 + r) 2 = Int32.ofNat (im 12 (3 * m + r)) ∧ σ.1 (IA + 4 + 9 * m + 4 + r) 3 = Int32.ofNat (im 13 (3 * m + r)) ∧ im 10 (3 * m + r) ≤ 255 ∧ im 11 (3 * m + r) ≤ 255 ∧ im 12 (3 * m + r) ≤ 255 ∧ im 13 (3 * m + r) ≤ 1 := by
  have h3 := (IC_rc h hm).2
  obtain ⟨h6, -, y, hR, hG⟩ := IC_M h hm
  have hj := hG.2.2.2.2.2.2.1 r (by omega) (by omega)
  rw [RelC_c10 hR m r h6 (by omega), RelC_c11 hR m r h6 (by omega), RelC_c12 hR m r h6 (by omega), RelC_c13 hR m r h6 (by omega), ← hj.1.1, ← hj.2.1.1, ← hj.2.2.1.1, ← hj.2.2.2.1]
  exact ⟨rfl, rfl, rfl, rfl, (rng_le hj.1.2).2, (rng_le hj.2.1.2).2, (rng_le hj.2.2.1.2).2, (rng_le hj.2.2.2.2).2⟩
theorem IC_ln {σ : SG} {IA : Nat} {im : Im} {m : Nat} (h : ImC σ IA im) (hm : m < im 0 1) : σ.1 (IA + 4 + 9 * m) 4 = Int32.ofNat (im 14 m) ∧ 1 ≤ im 14 m ∧ im 14 m ≤ 100 := by
  obtain ⟨h6, -, y, hR, hG⟩ := IC_M h hm
  have hL := hG.2.2.2.2.2.2.2
  rw [RelC_c14 hR m h6, ← hL.1.1]
  exact ⟨rfl, rng_le hL.1.2⟩
theorem IC_cd {σ : SG} {IA : Nat} {im : Im} {m p : Nat} (h : ImC σ IA im) (hm : m < im 0 1) (hp : p < im 14 m) : σ.2.2.2.1 (IA + 4 + 9 * m + 7) p = Int32.ofNat (im 15 (100 * m + p)) ∧ im 15 (100 * m + p) ≤ 255 := by
  have h3 := (IC_ln h hm).2
  obtain ⟨h6, -, y, hR, hG⟩ := IC_M h hm
  have hj := hG.2.2.2.2.2.2.2.2 p (by omega) (by omega)
  rw [RelC_c15 hR m p h6 (by omega), ← hj.1]
  exact ⟨rfl, (rng_le hj.2).2⟩
