/-! The class's Reader is the parser. -/
def Rdr (d : Nat → Nat) (n : Nat) (σ : SG) : Prop := σ.2.2.1 118 0 = 1 ∧ σ.1 118 1 = Int32.ofNat n ∧ n ≤ 400 ∧ (∃ k, k ≤ n ∧ σ.1 118 2 = Int32.ofNat k) ∧ ∀ k, k < n → σ.2.2.2.1 1 k = Int32.ofNat (d k) ∧ d k < 256
def Qt (σ σ1 : SG) : Prop := σ1.2 = σ.2 ∧ ∀ a f, a ≠ 118 → σ1.1 a f = σ.1 a f
def Fa (lo hi : Nat) (σ σ1 : SG) : Prop := σ1.2.1 = σ.2.1 ∧ σ1.2.2.1 = σ.2.2.1 ∧ σ1.2.2.2.2 = σ.2.2.2.2 ∧ (∀ a f, a ≠ 118 → (a < lo ∨ hi ≤ a) → σ1.1 a f = σ.1 a f) ∧ ∀ a f, (a < lo ∨ hi ≤ a) → σ1.2.2.2.1 a f = σ.2.2.2.1 a f
def StC (d : Nat → Nat) (n IA : Nat) (σ : SG) (o : Option PZ) : Prop := Rdr d n σ ∧ (∃ im, RelC σ IA im) ∧ match o with
  | none => zb (σ.1 118 3) = false
  | some s => zb (σ.1 118 3) = true ∧ σ.1 118 2 = Int32.ofNat s.2 ∧ s.2 ≤ n ∧ RelC σ IA s.1
def MdC (d : Nat → Nat) (n IA : Nat) (σ : SG) (o : Option (Nat × PZ)) (v : Nat) : Prop := Rdr d n σ ∧ (∃ im, RelC σ IA im) ∧ match o with
  | none => zb (σ.1 118 3) = false
  | some q => zb (σ.1 118 3) = true ∧ σ.1 118 2 = Int32.ofNat q.2.2 ∧ q.2.2 ≤ n ∧ RelC σ IA q.2.1 ∧ v = q.1
theorem Fa_refl (lo hi : Nat) (σ : SG) : Fa lo hi σ σ := ⟨rfl, rfl, rfl, fun _ _ _ _ => rfl, fun _ _ _ => rfl⟩
theorem Fa_trans {lo hi : Nat} {a b c : SG} (h : Fa lo hi a b) (g : Fa lo hi b c) : Fa lo hi a c :=
  ⟨g.1.trans h.1, g.2.1.trans h.2.1, g.2.2.1.trans h.2.2.1, fun x f p q => (g.2.2.2.1 x f p q).trans (h.2.2.2.1 x f p q), fun x f q => (g.2.2.2.2 x f q).trans (h.2.2.2.2 x f q)⟩
theorem Fa_mono {lo hi lo1 hi1 : Nat} {a b : SG} (h : Fa lo hi a b) (h1 : lo1 ≤ lo) (h2 : hi ≤ hi1) : Fa lo1 hi1 a b :=
  ⟨h.1, h.2.1, h.2.2.1, fun x f p q => h.2.2.2.1 x f p (by omega), fun x f q => h.2.2.2.2 x f (by omega)⟩
theorem Qt_Fa {a b : SG} (h : Qt a b) (lo hi : Nat) : Fa lo hi a b := by
  obtain ⟨h1, h2⟩ := h
  refine ⟨?_, ?_, ?_, fun x f p _ => h2 x f p, fun x f _ => ?_⟩ <;> rw [h1]
theorem Qt_trans {a b c : SG} (h : Qt a b) (g : Qt b c) : Qt a c := ⟨g.1.trans h.1, fun x f p => (g.2 x f p).trans (h.2 x f p)⟩
theorem Qt_set (σ : SG) (f : Nat) (v : Int32) : Qt σ (setI σ 118 f v) := by
  refine ⟨rfl, fun a g h => ?_⟩
  rw [rI, if_neg (by omega)]
theorem Fa_setI {σ : SG} {lo hi a f : Nat} {v : Int32} (h1 : lo ≤ a) (h2 : a < hi) : Fa lo hi σ (setI σ a f v) := by
  refine ⟨rfl, rfl, rfl, fun x g p q => ?_, fun _ _ _ => rfl⟩
  rw [rI, if_neg (by omega)]
theorem Fa_setA {σ : SG} {lo hi a f : Nat} {v : Int32} (h1 : lo ≤ a) (h2 : a < hi) : Fa lo hi σ (setA σ a f v) := by
  refine ⟨rfl, rfl, rfl, fun _ _ _ _ => rfl, fun x g q => ?_⟩
  rw [rA, if_neg (by omega)]
theorem RelC_q {σ σ1 : SG} {IA : Nat} {im : Im} (hIA : IA = 2 ∨ IA = 60) (h : RelC σ IA im) (hq : Qt σ σ1) : RelC σ1 IA im := by
  refine RelC_congr h (fun a f _ _ => hq.2 a f (by omega)) (fun a f _ _ => ?_)
  rw [hq.1]
theorem num_raw {d : Nat → Nat} {n k lo hi : Nat} {σ : SG} (hR : Rdr d n σ) (hk : σ.1 118 2 = Int32.ofNat k) (hkn : k ≤ n) (hlo : lo ≤ hi) (hhi : hi ≤ 255) :
    F_Rd_number 118 (Int32.ofNat lo) (Int32.ofNat hi) σ = if k < n ∧ lo ≤ d k ∧ d k ≤ hi then some (Int32.ofNat (d k), setI σ 118 2 (Int32.ofNat (k + 1))) else some (Int32.ofNat lo, setI σ 118 3 (Int32.ofNat 0)) := by
  obtain ⟨hP, hN, hn, -, hD⟩ := hR
  have hA : isA SHc 1 0 400 = true := by decide
  have hL : alen SHc 1 = 400 := by decide
  by_cases c : k < n
  · obtain ⟨hd, hd2⟩ := hD k c
    by_cases e1 : lo ≤ d k
    · by_cases e2 : d k ≤ hi
      · simp (disch := omega) only [F_Rd_number, F_Rd_number_24, F_Rd_number_35, hP, hA, hN, hk, lit32, n_le, n_lt, n_eq, n_add, n_mul, n_sub, n_cl, n_nl0, n_ne1, n_1ne, n_1lt, n_1le, n_le1, n_lt1, rI, rI2, rJ1, rJ, rJ2, rP1, rP2, rP, rP3, rA1, rA2, rA3, rA, rA4, rL1, rL2, rL3, rL4, rL, stl_e, zbz, zb0, zb1, if_pos, if_neg, false_or, or_false, if_true, if_false, and_true, true_and, and_false, false_and, not_false_eq_true, not_true_eq_false, ite_true, ite_false, reduceIte, Bool.false_eq_true, reduceCtorEq, hL, hd, bzf, ite_true, ite_false, if_true, if_false, Bool.false_eq_true, and_self, and_true, true_and, and_false, false_and]
      · simp (disch := omega) only [F_Rd_number, F_Rd_number_24, F_Rd_number_35, hP, hA, hN, hk, lit32, n_le, n_lt, n_eq, n_add, n_mul, n_sub, n_cl, n_nl0, n_ne1, n_1ne, n_1lt, n_1le, n_le1, n_lt1, rI, rI2, rJ1, rJ, rJ2, rP1, rP2, rP, rP3, rA1, rA2, rA3, rA, rA4, rL1, rL2, rL3, rL4, rL, stl_e, zbz, zb0, zb1, if_pos, if_neg, false_or, or_false, if_true, if_false, and_true, true_and, and_false, false_and, not_false_eq_true, not_true_eq_false, ite_true, ite_false, reduceIte, Bool.false_eq_true, reduceCtorEq, hL, hd, bzf, ite_true, ite_false, if_true, if_false, Bool.false_eq_true, and_self, and_true, true_and, and_false, false_and]
    · simp (disch := omega) only [F_Rd_number, F_Rd_number_24, F_Rd_number_35, hP, hA, hN, hk, lit32, n_le, n_lt, n_eq, n_add, n_mul, n_sub, n_cl, n_nl0, n_ne1, n_1ne, n_1lt, n_1le, n_le1, n_lt1, rI, rI2, rJ1, rJ, rJ2, rP1, rP2, rP, rP3, rA1, rA2, rA3, rA, rA4, rL1, rL2, rL3, rL4, rL, stl_e, zbz, zb0, zb1, if_pos, if_neg, false_or, or_false, if_true, if_false, and_true, true_and, and_false, false_and, not_false_eq_true, not_true_eq_false, ite_true, ite_false, reduceIte, Bool.false_eq_true, reduceCtorEq, hL, hd, bzf, ite_true, ite_false, if_true, if_false, Bool.false_eq_true, and_self, and_true, true_and, and_false, false_and]
  · simp (disch := omega) only [F_Rd_number, F_Rd_number_24, F_Rd_number_35, hP, hA, hN, hk, lit32, n_le, n_lt, n_eq, n_add, n_mul, n_sub, n_cl, n_nl0, n_ne1, n_1ne, n_1lt, n_1le, n_le1, n_lt1, rI, rI2, rJ1, rJ, rJ2, rP1, rP2, rP, rP3, rA1, rA2, rA3, rA, rA4, rL1, rL2, rL3, rL4, rL, stl_e, zbz, zb0, zb1, if_pos, if_neg, false_or, or_false, if_true, if_false, and_true, true_and, and_false, false_and, not_false_eq_true, not_true_eq_false, ite_true, ite_false, reduceIte, Bool.false_eq_true, reduceCtorEq, bzf, ite_true, ite_false, if_true, if_false, Bool.false_eq_true, and_self, and_true, true_and, and_false, false_and]
theorem Rdr_2 {d : Nat → Nat} {n k : Nat} {σ : SG} (hR : Rdr d n σ) (hk : k ≤ n) : Rdr d n (setI σ 118 2 (Int32.ofNat k)) := by
  obtain ⟨hP, hN, hn, -, hD⟩ := hR
  refine ⟨hP, ?_, hn, ⟨k, hk, ?_⟩, hD⟩
  · rw [rI, if_neg (by omega)]; exact hN
  · rw [rI, if_pos (by omega)]
theorem Rdr_3 {d : Nat → Nat} {n : Nat} {σ : SG} {v : Int32} (hR : Rdr d n σ) : Rdr d n (setI σ 118 3 v) := by
  obtain ⟨hP, hN, hn, ⟨k, hk, hk2⟩, hD⟩ := hR
  refine ⟨hP, ?_, hn, ⟨k, hk, ?_⟩, hD⟩
  · rw [rI, if_neg (by omega)]; exact hN
  · rw [rI, if_neg (by omega)]; exact hk2
theorem c_num {d : Nat → Nat} {n IA lo hi : Nat} {σ : SG} {o : Option PZ} (hIA : IA = 2 ∨ IA = 60) (hS : StC d n IA σ o) (hlo : lo ≤ hi) (hhi : hi ≤ 255) :
    ∃ v σ1, F_Rd_number 118 (Int32.ofNat lo) (Int32.ofNat hi) σ = some (Int32.ofNat v, σ1) ∧ lo ≤ v ∧ v ≤ hi ∧ Qt σ σ1 ∧ MdC d n IA σ1 (o.bind (nxs d n (rng lo hi))) v := by
  obtain ⟨hR, ⟨im0, hE⟩, hS⟩ := hS
  obtain ⟨k, hk1, hk2⟩ := hR.2.2.2.1
  have hn := hR.2.2.1
  rw [num_raw hR hk2 hk1 hlo hhi]
  by_cases e : k < n ∧ lo ≤ d k ∧ d k ≤ hi
  · rw [if_pos e]
    refine ⟨d k, _, rfl, e.2.1, e.2.2, Qt_set _ _ _, Rdr_2 hR (by omega), ⟨im0, RelC_q hIA hE (Qt_set _ _ _)⟩, ?_⟩
    cases o with
    | none =>
      show zb ((setI σ 118 2 (Int32.ofNat (k + 1))).1 118 3) = false
      rw [rI, if_neg (by omega)]; exact hS
    | some s =>
      obtain ⟨h1, h2, h3, h4⟩ := hS
      rw [hk2] at h2
      have h5 : k = s.2 := (n_eq (by omega) (by omega)).mp h2
      have h6 : (some s : Option PZ).bind (nxs d n (rng lo hi)) = some (d k, (s.1, k + 1)) := by
        show nxs d n (rng lo hi) s = _
        unfold nxs
        rw [← h5, if_pos ⟨e.1, decide_eq_true e.2⟩]
      rw [h6]
      refine ⟨?_, ?_, ?_, RelC_q hIA h4 (Qt_set _ _ _), rfl⟩
      · rw [rI, if_neg (by omega)]; exact h1
      · rw [rI, if_pos (by omega)]
      · show k + 1 ≤ n
        omega
  · rw [if_neg e]
    refine ⟨lo, _, rfl, by omega, by omega, Qt_set _ _ _, Rdr_3 hR, ⟨im0, RelC_q hIA hE (Qt_set _ _ _)⟩, ?_⟩
    have h6 : o.bind (nxs d n (rng lo hi)) = none := by
      cases o with
      | none => rfl
      | some s =>
        obtain ⟨h1, h2, h3, h4⟩ := hS
        rw [hk2] at h2
        have h5 : k = s.2 := (n_eq (by omega) (by omega)).mp h2
        show nxs d n (rng lo hi) s = none
        unfold nxs
        rw [← h5, if_neg (fun z => e ⟨z.1, of_decide_eq_true z.2⟩)]
    rw [h6]
    show zb ((setI σ 118 3 (Int32.ofNat 0)).1 118 3) = false
    rw [rI, if_pos (by omega)]
    exact zb0
theorem MdC_eq {d : Nat → Nat} {n IA v : Nat} {σ : SG} {o : Option PZ} {P Q : Nat → Bool} (h : MdC d n IA σ (o.bind (nxs d n P)) v) (hq : ∀ s, o = some s → s.2 < n → P (d s.2) = Q (d s.2)) : MdC d n IA σ (o.bind (nxs d n Q)) v := by
  cases o with
  | none => exact h
  | some s =>
    have e : nxs d n P s = nxs d n Q s := by
      unfold nxs
      by_cases c : s.2 < n
      · rw [hq s rfl c]
      · rw [if_neg (fun z => c z.1), if_neg (fun z => c z.1)]
    have h' : MdC d n IA σ (nxs d n P s) v := h
    rw [e] at h'
    exact h'
theorem MdC_ok {d : Nat → Nat} {n IA v : Nat} {σ : SG} {o : Option PZ} {P Q : Nat → Bool} (h : MdC d n IA σ (o.bind (nxs d n P)) v) (hq : ∀ t, t < 256 → Q t = true → P t = true) (hv : Q v = true) : MdC d n IA σ (o.bind (nxs d n Q)) v := by
  cases o with
  | none => exact h
  | some s =>
    have h' : MdC d n IA σ (nxs d n P s) v := h
    have e : nxs d n P s = nxs d n Q s := by
      unfold nxs
      by_cases c : s.2 < n ∧ P (d s.2) = true
      · rw [nxs, if_pos c] at h'
        have e : v = d s.2 := h'.2.2.2.2.2.2
        rw [if_pos c, if_pos ⟨c.1, by rw [← e]; exact hv⟩]
      · rw [if_neg c, if_neg (fun z => c ⟨z.1, hq _ (h.1.2.2.2.2 _ z.1).2 z.2⟩)]
    rw [e] at h'
    exact h'
theorem MdC_bad {d : Nat → Nat} {n IA v : Nat} {σ : SG} {o : Option PZ} {P Q : Nat → Bool} (hIA : IA = 2 ∨ IA = 60) (h : MdC d n IA σ (o.bind (nxs d n P)) v) (hq : ∀ t, t < 256 → Q t = true → P t = true) (hv : ¬ Q v = true) : MdC d n IA (setI σ 118 3 (Int32.ofNat 0)) (o.bind (nxs d n Q)) v := by
  have h6 : o.bind (nxs d n Q) = none := by
    cases o with
    | none => rfl
    | some s =>
      have h' : MdC d n IA σ (nxs d n P s) v := h
      show nxs d n Q s = none
      unfold nxs
      refine if_neg (fun z => ?_)
      rw [nxs, if_pos ⟨z.1, hq _ (h.1.2.2.2.2 _ z.1).2 z.2⟩] at h'
      have e : v = d s.2 := h'.2.2.2.2.2.2
      rw [e] at hv
      exact hv z.2
  rw [h6]
  obtain ⟨im0, hE⟩ := h.2.1
  refine ⟨Rdr_3 h.1, ⟨im0, RelC_q hIA hE (Qt_set _ _ _)⟩, ?_⟩
  show zb ((setI σ 118 3 (Int32.ofNat 0)).1 118 3) = false
  rw [rI, if_pos (by omega)]
  exact zb0
theorem n_subneg {m k : Nat} (h : m < k) (hk : k < 2147483648) : Int32.ofNat m - Int32.ofNat k < 0 := by
  rw [Int32.lt_iff_toInt_lt, Int32.toInt_sub, n_int (by omega), n_int (by omega)]
  have h2 : (0 : Int32).toInt = 0 := by decide
  rw [h2, Int.bmod_eq_of_le (by omega) (by omega)]
  omega
theorem has_raw {IA many v : Nat} {σ : SG} (hm : σ.1 IA 0 = Int32.ofNat many) (h4 : many ≤ 4) (hv : v < 256) : F_Im_hasClass IA (Int32.ofNat v) σ = some (decide (v < many), σ) := by
  by_cases c : v < many
  · have e : decide (v < many) = true := decide_eq_true c
    simp (disch := omega) only [F_Im_hasClass, F_Im_hasClass_16, F_Im_hasClass_17, hm, lit32, n_le, n_lt, n_eq, n_add, n_mul, n_sub, n_cl, n_nl0, n_ne1, n_1ne, n_1lt, n_1le, n_le1, n_lt1, rI, rI2, rJ1, rJ, rJ2, rP1, rP2, rP, rP3, rA1, rA2, rA3, rA, rA4, rL1, rL2, rL3, rL4, rL, stl_e, zbz, zb0, zb1, if_pos, if_neg, false_or, or_false, if_true, if_false, and_true, true_and, and_false, false_and, not_false_eq_true, not_true_eq_false, ite_true, ite_false, reduceIte, Bool.false_eq_true, reduceCtorEq, e, ite_true, ite_false, if_true, if_false, Bool.false_eq_true, and_self, and_true, true_and, and_false, false_and]
  · have e : decide (v < many) = false := decide_eq_false c
    simp (disch := omega) only [F_Im_hasClass, F_Im_hasClass_16, F_Im_hasClass_17, hm, lit32, n_le, n_lt, n_eq, n_add, n_mul, n_sub, n_cl, n_nl0, n_ne1, n_1ne, n_1lt, n_1le, n_le1, n_lt1, rI, rI2, rJ1, rJ, rJ2, rP1, rP2, rP, rP3, rA1, rA2, rA3, rA, rA4, rL1, rL2, rL3, rL4, rL, stl_e, zbz, zb0, zb1, if_pos, if_neg, false_or, or_false, if_true, if_false, and_true, true_and, and_false, false_and, not_false_eq_true, not_true_eq_false, ite_true, ite_false, reduceIte, Bool.false_eq_true, reduceCtorEq, e, ite_true, ite_false, if_true, if_false, Bool.false_eq_true, and_self, and_true, true_and, and_false, false_and]
theorem nul_raw {IA many v : Nat} {σ : SG} (hm : σ.1 IA 0 = Int32.ofNat many) (h4 : many ≤ 4) (hv : v < 256) : F_Im_canBeNull IA (Int32.ofNat v) σ = some (decide (v = 4 ∨ v = 5 ∨ (8 ≤ v ∧ v < 8 + many)), σ) := by
  by_cases c4 : v = 4
  · have e : decide (v = 4 ∨ v = 5 ∨ (8 ≤ v ∧ v < 8 + many)) = true := decide_eq_true (by omega)
    simp (disch := omega) only [F_Im_canBeNull, F_Im_canBeNull_21, F_Im_canBeNull_26, lit32, n_le, n_lt, n_eq, n_add, n_mul, n_sub, n_cl, n_nl0, n_ne1, n_1ne, n_1lt, n_1le, n_le1, n_lt1, rI, rI2, rJ1, rJ, rJ2, rP1, rP2, rP, rP3, rA1, rA2, rA3, rA, rA4, rL1, rL2, rL3, rL4, rL, stl_e, zbz, zb0, zb1, if_pos, if_neg, false_or, or_false, if_true, if_false, and_true, true_and, and_false, false_and, not_false_eq_true, not_true_eq_false, ite_true, ite_false, reduceIte, Bool.false_eq_true, reduceCtorEq, e, ite_true, ite_false, if_true, if_false, Bool.false_eq_true, and_self, and_true, true_and, and_false, false_and]
  · by_cases c5 : v = 5
    · have e : decide (v = 4 ∨ v = 5 ∨ (8 ≤ v ∧ v < 8 + many)) = true := decide_eq_true (by omega)
      simp (disch := omega) only [F_Im_canBeNull, F_Im_canBeNull_21, F_Im_canBeNull_26, lit32, n_le, n_lt, n_eq, n_add, n_mul, n_sub, n_cl, n_nl0, n_ne1, n_1ne, n_1lt, n_1le, n_le1, n_lt1, rI, rI2, rJ1, rJ, rJ2, rP1, rP2, rP, rP3, rA1, rA2, rA3, rA, rA4, rL1, rL2, rL3, rL4, rL, stl_e, zbz, zb0, zb1, if_pos, if_neg, false_or, or_false, if_true, if_false, and_true, true_and, and_false, false_and, not_false_eq_true, not_true_eq_false, ite_true, ite_false, reduceIte, Bool.false_eq_true, reduceCtorEq, e, ite_true, ite_false, if_true, if_false, Bool.false_eq_true, and_self, and_true, true_and, and_false, false_and]
    · by_cases c8 : v < 8
      · have e : decide (v = 4 ∨ v = 5 ∨ (8 ≤ v ∧ v < 8 + many)) = false := decide_eq_false (by omega)
        have h : F_Im_hasClass IA (Int32.ofNat v - Int32.ofNat 8) σ = some (false, σ) := by
          unfold F_Im_hasClass
          rw [if_pos (n_subneg c8 (by omega))]
          rfl
        simp (disch := omega) only [F_Im_canBeNull, F_Im_canBeNull_21, F_Im_canBeNull_26, lit32, n_eq, if_neg, h, e, Bool.false_eq_true, ite_true, ite_false, if_true, if_false, Bool.false_eq_true, and_self, and_true, true_and, and_false, false_and]
      · have h : F_Im_hasClass IA (Int32.ofNat v - Int32.ofNat 8) σ = some (decide (v - 8 < many), σ) := by
          rw [n_sub (by omega)]
          exact has_raw hm h4 (by omega)
        by_cases c : v - 8 < many
        · have e : decide (v = 4 ∨ v = 5 ∨ (8 ≤ v ∧ v < 8 + many)) = true := decide_eq_true (by omega)
          rw [decide_eq_true c] at h
          simp (disch := omega) only [F_Im_canBeNull, F_Im_canBeNull_21, F_Im_canBeNull_26, lit32, n_eq, if_neg, if_pos, h, e, ite_true, ite_false, if_true, if_false, Bool.false_eq_true, and_self, and_true, true_and, and_false, false_and]
        · have e : decide (v = 4 ∨ v = 5 ∨ (8 ≤ v ∧ v < 8 + many)) = false := decide_eq_false (by omega)
          rw [decide_eq_false c] at h
          simp (disch := omega) only [F_Im_canBeNull, F_Im_canBeNull_21, F_Im_canBeNull_26, lit32, n_eq, if_neg, h, e, Bool.false_eq_true, ite_true, ite_false, if_true, if_false, Bool.false_eq_true, and_self, and_true, true_and, and_false, false_and]
theorem c_kept {d : Nat → Nat} {n IA many : Nat} {σ : SG} {o : Option PZ} (hIA : IA = 2 ∨ IA = 60) (hS : StC d n IA σ o) (hm : σ.1 IA 0 = Int32.ofNat many) (h4 : many ≤ 4) :
    ∃ v σ1, F_Rd_keptType 118 IA σ = some (Int32.ofNat v, σ1) ∧ v ≤ 255 ∧ Qt σ σ1 ∧ MdC d n IA σ1 (o.bind (nxs d n (tyP many false false))) v := by
  obtain ⟨v, σ1, hF, h1, h2, hQ, hM⟩ := c_num (lo := 1) (hi := 255) hIA hS (by omega) (by omega)
  have hm1 : σ1.1 IA 0 = Int32.ofNat many := by rw [hQ.2 IA 0 (by omega)]; exact hm
  have hsub : ∀ t, t < 256 → tyP many false false t = true → rng 1 255 t = true := by
    intro t ht h
    have h' := of_decide_eq_true h
    exact decide_eq_true (by simp at h'; omega)
  by_cases c : tyP many false false v = true
  · refine ⟨v, σ1, ?_, h2, hQ, MdC_ok hM hsub c⟩
    have c' := of_decide_eq_true c
    simp only [Bool.false_eq_true, false_and, false_or] at c'
    by_cases c1 : v = 1
    · simp (disch := omega) only [F_Rd_keptType, F_Rd_keptType_32, lit32, hF, n_eq, if_pos, ite_true, ite_false, if_true, if_false, Bool.false_eq_true, and_self, and_true, true_and, and_false, false_and]
    · by_cases c2 : v = 2
      · simp (disch := omega) only [F_Rd_keptType, F_Rd_keptType_32, lit32, hF, n_eq, if_pos, if_neg, ite_true, ite_false, if_true, if_false, Bool.false_eq_true, and_self, and_true, true_and, and_false, false_and]
      · have e : decide (v = 4 ∨ v = 5 ∨ (8 ≤ v ∧ v < 8 + many)) = true := decide_eq_true (by omega)
        simp (disch := omega) only [F_Rd_keptType, F_Rd_keptType_32, lit32, hF, n_eq, if_pos, if_neg, nul_raw hm1 h4 (show v < 256 by omega), e, ite_true, ite_false, if_true, if_false, Bool.false_eq_true, and_self, and_true, true_and, and_false, false_and]
  · refine ⟨v, setI σ1 118 3 (Int32.ofNat 0), ?_, h2, Qt_trans hQ (Qt_set _ _ _), MdC_bad hIA hM hsub c⟩
    have c' : ¬ (v = 1 ∨ v = 2 ∨ v = 4 ∨ v = 5 ∨ (8 ≤ v ∧ v < 8 + many)) := by
      intro z
      exact c (decide_eq_true (by simp; omega))
    have e : decide (v = 4 ∨ v = 5 ∨ (8 ≤ v ∧ v < 8 + many)) = false := decide_eq_false (by omega)
    simp (disch := omega) only [F_Rd_keptType, F_Rd_keptType_32, lit32, hF, n_eq, if_pos, if_neg, nul_raw hm1 h4 (show v < 256 by omega), e, stl_e, bzf, Bool.false_eq_true, ite_true, ite_false, if_true, if_false, Bool.false_eq_true, and_self, and_true, true_and, and_false, false_and]
theorem nis_raw {d : Nat → Nat} {n k t : Nat} {σ : SG} (hR : Rdr d n σ) (hk : σ.1 118 2 = Int32.ofNat k) (hkn : k ≤ n) (ht : t < 256) :
    F_Rd_nextIs 118 (Int32.ofNat t) σ = some (decide (k < n ∧ d k = t), σ) := by
  obtain ⟨hP, hN, hn, -, hD⟩ := hR
  have hA : isA SHc 1 0 400 = true := by decide
  have hL : alen SHc 1 = 400 := by decide
  by_cases c : k < n
  · obtain ⟨hd, hd2⟩ := hD k c
    by_cases e1 : d k = t
    · have e : decide (k < n ∧ d k = t) = true := decide_eq_true ⟨c, e1⟩
      simp (disch := omega) only [F_Rd_nextIs, F_Rd_nextIs_28, F_Rd_nextIs_29, hP, hA, hN, hk, lit32, n_le, n_lt, n_eq, n_add, n_mul, n_sub, n_cl, n_nl0, n_ne1, n_1ne, n_1lt, n_1le, n_le1, n_lt1, rI, rI2, rJ1, rJ, rJ2, rP1, rP2, rP, rP3, rA1, rA2, rA3, rA, rA4, rL1, rL2, rL3, rL4, rL, stl_e, zbz, zb0, zb1, if_pos, if_neg, false_or, or_false, if_true, if_false, and_true, true_and, and_false, false_and, not_false_eq_true, not_true_eq_false, ite_true, ite_false, reduceIte, Bool.false_eq_true, reduceCtorEq, hL, hd, e, ite_true, ite_false, if_true, if_false, Bool.false_eq_true, and_self, and_true, true_and, and_false, false_and]
    · have e : decide (k < n ∧ d k = t) = false := decide_eq_false (fun z => e1 z.2)
      simp (disch := omega) only [F_Rd_nextIs, F_Rd_nextIs_28, F_Rd_nextIs_29, hP, hA, hN, hk, lit32, n_le, n_lt, n_eq, n_add, n_mul, n_sub, n_cl, n_nl0, n_ne1, n_1ne, n_1lt, n_1le, n_le1, n_lt1, rI, rI2, rJ1, rJ, rJ2, rP1, rP2, rP, rP3, rA1, rA2, rA3, rA, rA4, rL1, rL2, rL3, rL4, rL, stl_e, zbz, zb0, zb1, if_pos, if_neg, false_or, or_false, if_true, if_false, and_true, true_and, and_false, false_and, not_false_eq_true, not_true_eq_false, ite_true, ite_false, reduceIte, Bool.false_eq_true, reduceCtorEq, hL, hd, e, ite_true, ite_false, if_true, if_false, Bool.false_eq_true, and_self, and_true, true_and, and_false, false_and]
  · have e : decide (k < n ∧ d k = t) = false := decide_eq_false (fun z => c z.1)
    simp (disch := omega) only [F_Rd_nextIs, F_Rd_nextIs_28, F_Rd_nextIs_29, hP, hA, hN, hk, lit32, n_le, n_lt, n_eq, n_add, n_mul, n_sub, n_cl, n_nl0, n_ne1, n_1ne, n_1lt, n_1le, n_le1, n_lt1, rI, rI2, rJ1, rJ, rJ2, rP1, rP2, rP, rP3, rA1, rA2, rA3, rA, rA4, rL1, rL2, rL3, rL4, rL, stl_e, zbz, zb0, zb1, if_pos, if_neg, false_or, or_false, if_true, if_false, and_true, true_and, and_false, false_and, not_false_eq_true, not_true_eq_false, ite_true, ite_false, reduceIte, Bool.false_eq_true, reduceCtorEq, hL, e, ite_true, ite_false, if_true, if_false, Bool.false_eq_true, and_self, and_true, true_and, and_false, false_and]
theorem c_nis {d : Nat → Nat} {n IA many t : Nat} {pl no : Bool} {σ : SG} {o : Option PZ} (hIA : IA = 2 ∨ IA = 60) (hS : StC d n IA σ o) (hm : σ.1 IA 0 = Int32.ofNat many) (h4 : many ≤ 4) (ht : t < 8)
    (hP : tyP many pl no t = true) (hQ : ∀ x, x ≠ t → tyP many pl no x = tyP many false false x) :
    ∃ b, F_Rd_nextIs 118 (Int32.ofNat t) σ = some (b, σ) ∧
      (b = true → ∃ v σ1, F_Rd_number 118 (Int32.ofNat t) (Int32.ofNat t) σ = some (Int32.ofNat v, σ1) ∧ v ≤ 255 ∧ Qt σ σ1 ∧ MdC d n IA σ1 (o.bind (nxs d n (tyP many pl no))) v) ∧
      (b = false → ∃ v σ1, F_Rd_keptType 118 IA σ = some (Int32.ofNat v, σ1) ∧ v ≤ 255 ∧ Qt σ σ1 ∧ MdC d n IA σ1 (o.bind (nxs d n (tyP many pl no))) v) := by
  obtain ⟨k, hk1, hk2⟩ := hS.1.2.2.2.1
  have hn := hS.1.2.2.1
  have hk : ∀ s, o = some s → s.2 = k := by
    intro s e
    subst e
    obtain ⟨-, -, h1, h2, h3, h4⟩ := hS
    rw [hk2] at h2
    exact ((n_eq (by omega) (by omega)).mp h2).symm
  refine ⟨_, nis_raw hS.1 hk2 hk1 (by omega), fun e => ?_, fun e => ?_⟩
  · have e' := of_decide_eq_true e
    obtain ⟨v, σ1, h1, h2, h3, h5, h6⟩ := c_num (lo := t) (hi := t) hIA hS (by omega) (by omega)
    refine ⟨v, σ1, h1, by omega, h5, MdC_eq h6 (fun s hs _ => ?_)⟩
    rw [hk s hs, e'.2, hP]
    exact decide_eq_true ⟨Nat.le_refl _, Nat.le_refl _⟩
  · have e' := of_decide_eq_false e
    obtain ⟨v, σ1, h1, h2, h5, h6⟩ := c_kept hIA hS hm h4
    refine ⟨v, σ1, h1, h2, h5, MdC_eq h6 (fun s hs hl => ?_)⟩
    rw [hk s hs] at hl ⊢
    exact (hQ _ (fun z => e' ⟨hl, z⟩)).symm
/-- a number that was read is kept -/
theorem st_I {d : Nat → Nat} {n IA v a i b f : Nat} {σ : SG} {o : Option PZ} {P : Nat → Bool} (h : MdC d n IA σ (o.bind (nxs d n P)) v) (hb : b ≠ 118) (hr : ∀ im, RelC σ IA im → RelC (setI σ b f (Int32.ofNat v)) IA (u2 im a i v)) : StC d n IA (setI σ b f (Int32.ofNat v)) (o.bind (rs d n P a i)) := by
  have e : o.bind (rs d n P a i) = (o.bind (nxs d n P)).bind fun q => some (u2 q.2.1 a i q.1, q.2.2) := by
    cases o <;> rfl
  rw [e]
  generalize o.bind (nxs d n P) = q at h
  obtain ⟨⟨hP, hN, hn, ⟨k, hk, hk2⟩, hD⟩, ⟨im0, hE⟩, h⟩ := h
  refine ⟨⟨hP, ?_, hn, ⟨k, hk, ?_⟩, hD⟩, ⟨_, hr im0 hE⟩, ?_⟩
  · rw [rI, if_neg (by omega)]; exact hN
  · rw [rI, if_neg (by omega)]; exact hk2
  · cases q with
    | none =>
      show zb ((setI σ b f (Int32.ofNat v)).1 118 3) = false
      rw [rI, if_neg (by omega)]; exact h
    | some q =>
      obtain ⟨h1, h2, h3, h4, h5⟩ := h
      refine ⟨?_, ?_, h3, ?_⟩
      · rw [rI, if_neg (by omega)]; exact h1
      · rw [rI, if_neg (by omega)]; exact h2
      · rw [← h5]
        exact hr _ h4
theorem st_A {d : Nat → Nat} {n IA v a i b f : Nat} {σ : SG} {o : Option PZ} {P : Nat → Bool} (h : MdC d n IA σ (o.bind (nxs d n P)) v) (hb : b ≠ 1) (hr : ∀ im, RelC σ IA im → RelC (setA σ b f (Int32.ofNat v)) IA (u2 im a i v)) : StC d n IA (setA σ b f (Int32.ofNat v)) (o.bind (rs d n P a i)) := by
  have e : o.bind (rs d n P a i) = (o.bind (nxs d n P)).bind fun q => some (u2 q.2.1 a i q.1, q.2.2) := by
    cases o <;> rfl
  rw [e]
  generalize o.bind (nxs d n P) = q at h
  obtain ⟨⟨hP, hN, hn, ⟨k, hk, hk2⟩, hD⟩, ⟨im0, hE⟩, h⟩ := h
  refine ⟨⟨hP, hN, hn, ⟨k, hk, hk2⟩, fun j hj => ?_⟩, ⟨_, hr im0 hE⟩, ?_⟩
  · rw [rA, if_neg (by omega)]; exact hD j hj
  · cases q with
    | none => exact h
    | some q =>
      obtain ⟨h1, h2, h3, h4, h5⟩ := h
      refine ⟨h1, h2, h3, ?_⟩
      rw [← h5]
      exact hr _ h4
theorem st_0 {d : Nat → Nat} {n IA v a i : Nat} {σ : SG} {o : Option PZ} {P : Nat → Bool} (h : MdC d n IA σ (o.bind (nxs d n P)) v) (hr : ∀ im, RelC σ IA im → RelC σ IA (u2 im a i v)) : StC d n IA σ (o.bind (rs d n P a i)) := by
  have e : o.bind (rs d n P a i) = (o.bind (nxs d n P)).bind fun q => some (u2 q.2.1 a i q.1, q.2.2) := by
    cases o <;> rfl
  rw [e]
  generalize o.bind (nxs d n P) = q at h
  obtain ⟨h0, ⟨im0, hE⟩, h⟩ := h
  refine ⟨h0, ⟨_, hr im0 hE⟩, ?_⟩
  cases q with
  | none => exact h
  | some q =>
    obtain ⟨h1, h2, h3, h4, h5⟩ := h
    refine ⟨h1, h2, h3, ?_⟩
    rw [← h5]
    exact hr _ h4
theorem ob_eq {o : Option PZ} {f g : PZ → Option PZ} (h : ∀ s, o = some s → f s = g s) : o.bind f = o.bind g := by
  cases o with
  | none => rfl
  | some s => exact h s rfl
theorem obb (o : Option PZ) (f g : PZ → Option PZ) : (o.bind f).bind g = o.bind (fun s => (f s).bind g) := by
  cases o <;> rfl
/-- the code -/
theorem c_166 {d : Nat → Nat} {n IA m cnt : Nat} (hIA : IA = 2 ∨ IA = 60) (hm : m < 6) (hMe : isC SHc (IA + 4 + 9 * m) 2 = true) (hc : cnt ≤ 100) : ∀ (c i fuel : Nat) (σ : SG) (o : Option PZ), i + c = cnt → c < fuel → StC d n IA σ o → σ.1 (IA + 4 + 9 * m) 4 = Int32.ofNat cnt →
    ∃ σ1, F_Rd_readMethod_166 fuel 118 (IA + 4 + 9 * m) (Int32.ofNat i) σ = some σ1 ∧ StC d n IA σ1 (o.bind (lps (fun p => rs d n (rng 0 255) 15 (100 * m + p)) c i)) ∧ Fa (IA + 4 + 9 * m) (IA + 4 + 9 * m + 9) σ σ1 := by
  intro c
  induction c with
  | zero =>
    intro i fuel σ o hi hf hS h4
    obtain ⟨fuel, rfl⟩ : ∃ x, fuel = x + 1 := ⟨fuel - 1, by omega⟩
    refine ⟨σ, ?_, ?_, Fa_refl _ _ _⟩
    · simp (disch := omega) only [F_Rd_readMethod_166, h4, n_le, if_pos, ite_true, ite_false, if_true, if_false, Bool.false_eq_true, and_self, and_true, true_and, and_false, false_and]
    · cases o <;> exact hS
  | succ c ih =>
    intro i fuel σ o hi hf hS h4
    obtain ⟨fuel, rfl⟩ : ∃ x, fuel = x + 1 := ⟨fuel - 1, by omega⟩
    obtain ⟨v, σ1, hF, h1, h2, hQ, hM⟩ := c_num (lo := 0) (hi := 255) hIA hS (by omega) (by omega)
    have hS2 := st_A (b := IA + 4 + 9 * m + 7) (f := i) hM (by omega) (fun im z => RelC_u15 z (by omega) hm (by omega))
    obtain ⟨σ2, hF2, hS3, hFr⟩ := ih (i + 1) fuel _ _ (by omega) (by omega) hS2 (by rw [rA1, hQ.2 _ _ (by omega)]; exact h4)
    refine ⟨σ2, ?_, ?_, Fa_trans (Qt_Fa hQ _ _) (Fa_trans (Fa_setA (by omega) (by omega)) hFr)⟩
    · simp (disch := omega) only [F_Rd_readMethod_166, h4, n_le, if_neg, lit32, hF, cM8 hMe, n_cl, n_nl0, false_or, stl_e, n_add, hF2, ite_true, ite_false, if_true, if_false, Bool.false_eq_true, and_self, and_true, true_and, and_false, false_and]
    · rw [obb] at hS3
      exact hS3
theorem cnt_eq {d : Nat → Nat} {n IA v a i : Nat} {σ : SG} {o : Option PZ} {P : Nat → Bool} (h : MdC d n IA σ (o.bind (nxs d n P)) v) : ∀ s, o.bind (rs d n P a i) = some s → s.1 a i = v := by
  intro s hs
  cases o with
  | none => cases hs
  | some t =>
    have hs' : rs d n P a i t = some s := hs
    have h' : MdC d n IA σ (nxs d n P t) v := h
    unfold rs at hs'
    cases hq : nxs d n P t with
    | none => rw [hq] at hs'; cases hs'
    | some q =>
      rw [hq] at hs' h'
      have e : v = q.1 := h'.2.2.2.2.2.2
      cases hs'
      rw [e]
      exact u2_same _ _ _ _
theorem c_rg {d : Nat → Nat} {n IA m r : Nat} {σ : SG} {o : Option PZ} (hIA : IA = 2 ∨ IA = 60) (hm : m < 6) (hr : r < 3) (hS : StC d n IA σ o) :
    ∃ σ1, F_Rd_readRegion 118 (IA + 4 + 9 * m + 4 + r) σ = some σ1 ∧ StC d n IA σ1 (o.bind (sRg d n m r)) ∧ Fa (IA + 4 + 9 * m + 4 + r) (IA + 4 + 9 * m + 4 + r + 1) σ σ1 := by
  obtain ⟨v1, σ1, hF1, -, g1, hQ1, hM1⟩ := c_num (lo := 0) (hi := 255) hIA hS (by omega) (by omega)
  have hS1 := st_I (b := IA + 4 + 9 * m + 4 + r) (f := 0) hM1 (by omega) (fun im z => RelC_u10 z (by omega) hm hr)
  obtain ⟨v2, σ2, hF2, -, g2, hQ2, hM2⟩ := c_num (lo := 0) (hi := 255) hIA hS1 (by omega) (by omega)
  have hS2 := st_I (b := IA + 4 + 9 * m + 4 + r) (f := 1) hM2 (by omega) (fun im z => RelC_u11 z (by omega) hm hr)
  obtain ⟨v3, σ3, hF3, -, g3, hQ3, hM3⟩ := c_num (lo := 0) (hi := 255) hIA hS2 (by omega) (by omega)
  have hS3 := st_I (b := IA + 4 + 9 * m + 4 + r) (f := 2) hM3 (by omega) (fun im z => RelC_u12 z (by omega) hm hr)
  obtain ⟨v4, σ4, hF4, -, g4, hQ4, hM4⟩ := c_num (lo := 0) (hi := 1) hIA hS3 (by omega) (by omega)
  have hS4 := st_I (b := IA + 4 + 9 * m + 4 + r) (f := 3) hM4 (by omega) (fun im z => RelC_u13 z (by omega) hm hr)
  refine ⟨setI σ4 (IA + 4 + 9 * m + 4 + r) 3 (Int32.ofNat v4), ?_, ?_, ?_⟩
  · by_cases c : v4 = 1
    · subst c
      simp (disch := omega) only [F_Rd_readRegion, F_Rd_readRegion_52, lit32, hF1, hF2, hF3, hF4, stl_e, if_pos, bzt, ite_true, ite_false, if_true, if_false, Bool.false_eq_true, and_self, and_true, true_and, and_false, false_and]
    · have c' : v4 = 0 := by omega
      subst c'
      simp (disch := omega) only [F_Rd_readRegion, F_Rd_readRegion_52, lit32, hF1, hF2, hF3, hF4, stl_e, n_eq, if_neg, bzf, ite_true, ite_false, if_true, if_false, Bool.false_eq_true, and_self, and_true, true_and, and_false, false_and]
  · simp only [obb] at hS4
    exact hS4
  · refine Fa_trans (Qt_Fa hQ1 _ _) (Fa_trans ?_ (Fa_trans (Qt_Fa hQ2 _ _) (Fa_trans ?_ (Fa_trans (Qt_Fa hQ3 _ _) (Fa_trans ?_ (Fa_trans (Qt_Fa hQ4 _ _) ?_))))))
    all_goals exact Fa_setI (by omega) (by omega)
theorem c_129 {d : Nat → Nat} {n IA m cnt : Nat} (hIA : IA = 2 ∨ IA = 60) (hm : m < 6) (hMe : isC SHc (IA + 4 + 9 * m) 2 = true) (hc : cnt ≤ 3) : ∀ (c i fuel : Nat) (σ : SG) (o : Option PZ), i + c = cnt → c < fuel → StC d n IA σ o → σ.1 (IA + 4 + 9 * m) 3 = Int32.ofNat cnt →
    ∃ σ1, F_Rd_readMethod_129 fuel 118 (IA + 4 + 9 * m) (Int32.ofNat i) σ = some σ1 ∧ StC d n IA σ1 (o.bind fun s => (lps (sRg d n m) c i s).bind (sC d n m)) ∧ Fa (IA + 4 + 9 * m) (IA + 4 + 9 * m + 9) σ σ1 := by
  intro c
  induction c with
  | zero =>
    intro i fuel σ o hi hf hS h4
    obtain ⟨fuel, rfl⟩ : ∃ x, fuel = x + 1 := ⟨fuel - 1, by omega⟩
    obtain ⟨v, σ1, hF, h1, h2, hQ, hM⟩ := c_num (lo := 1) (hi := 100) hIA hS (by omega) (by omega)
    have hS2 := st_I (b := IA + 4 + 9 * m) (f := 4) hM (by omega) (fun im z => RelC_u14 z (by omega) hm)
    obtain ⟨σ2, hF2, hS3, hFr⟩ := c_166 hIA hm hMe (cnt := v) (by omega) v 0 5000 _ _ (by omega) (by omega) hS2 (by rw [rI, if_pos (by omega)])
    refine ⟨σ2, ?_, ?_, Fa_trans (Qt_Fa hQ _ _) (Fa_trans (Fa_setI (by omega) (by omega)) hFr)⟩
    · simp (disch := omega) only [F_Rd_readMethod_129, h4, n_le, if_pos, lit32, hF, stl_e, hF2, ite_true, ite_false, if_true, if_false, Bool.false_eq_true, and_self, and_true, true_and, and_false, false_and]
    · have e := ob_eq (o := o.bind (rs d n (rng 1 100) 14 m)) (f := lps (fun p => rs d n (rng 0 255) 15 (100 * m + p)) v 0) (g := fun s => lps (fun p => rs d n (rng 0 255) 15 (100 * m + p)) (s.1 14 m) 0 s) (fun s hs => by rw [cnt_eq hM s hs])
      rw [e, obb] at hS3
      exact hS3
  | succ c ih =>
    intro i fuel σ o hi hf hS h4
    obtain ⟨fuel, rfl⟩ : ∃ x, fuel = x + 1 := ⟨fuel - 1, by omega⟩
    obtain ⟨σ1, hF, hS2, hFa⟩ := c_rg hIA hm (show i < 3 by omega) hS
    obtain ⟨σ2, hF2, hS3, hFr⟩ := ih (i + 1) fuel _ _ (by omega) (by omega) hS2 (by rw [hFa.2.2.2.1 _ _ (by omega) (by omega)]; exact h4)
    refine ⟨σ2, ?_, ?_, Fa_trans (Fa_mono hFa (by omega) (by omega)) hFr⟩
    · simp (disch := omega) only [F_Rd_readMethod_129, h4, n_le, if_neg, lit32, cM7 hMe, n_cl, n_nl0, false_or, cMr hMe, hF, n_add, hF2, ite_true, ite_false, if_true, if_false, Bool.false_eq_true, and_self, and_true, true_and, and_false, false_and]
    · have e : (fun s => (lps (sRg d n m) (c + 1) i s).bind (sC d n m)) = (fun s => (sRg d n m i s).bind fun s => (lps (sRg d n m) c (i + 1) s).bind (sC d n m)) := by
        funext s
        exact obb _ _ _
      rw [obb] at hS3
      rw [e]
      exact hS3
theorem c_92 {d : Nat → Nat} {n IA m cnt many : Nat} (hIA : IA = 2 ∨ IA = 60) (hm : m < 6) (hMe : isC SHc (IA + 4 + 9 * m) 2 = true) (hc : cnt ≤ 4) (hmany : many ≤ 4) : ∀ (c i fuel : Nat) (σ : SG) (o : Option PZ), i + c = cnt → c < fuel → StC d n IA σ o → σ.1 (IA + 4 + 9 * m) 2 = Int32.ofNat cnt → σ.1 IA 0 = Int32.ofNat many →
    ∃ σ1, F_Rd_readMethod_92 fuel 118 IA (IA + 4 + 9 * m) (Int32.ofNat i) σ = some σ1 ∧ StC d n IA σ1 (o.bind fun s => (lps (fun i => rs d n (tyP many false false) 8 (4 * m + i)) c i s).bind (sR d n m)) ∧ Fa (IA + 4 + 9 * m) (IA + 4 + 9 * m + 9) σ σ1 := by
  intro c
  induction c with
  | zero =>
    intro i fuel σ o hi hf hS h4 hy
    obtain ⟨fuel, rfl⟩ : ∃ x, fuel = x + 1 := ⟨fuel - 1, by omega⟩
    obtain ⟨v, σ1, hF, h1, h2, hQ, hM⟩ := c_num (lo := 0) (hi := 3) hIA hS (by omega) (by omega)
    have hS2 := st_I (b := IA + 4 + 9 * m) (f := 3) hM (by omega) (fun im z => RelC_u9 z (by omega) hm)
    obtain ⟨σ2, hF2, hS3, hFr⟩ := c_129 hIA hm hMe (cnt := v) (by omega) v 0 5000 _ _ (by omega) (by omega) hS2 (by rw [rI, if_pos (by omega)])
    refine ⟨σ2, ?_, ?_, Fa_trans (Qt_Fa hQ _ _) (Fa_trans (Fa_setI (by omega) (by omega)) hFr)⟩
    · simp (disch := omega) only [F_Rd_readMethod_92, h4, n_le, if_pos, lit32, hF, stl_e, hF2, ite_true, ite_false, if_true, if_false, Bool.false_eq_true, and_self, and_true, true_and, and_false, false_and]
    · have e := ob_eq (o := o.bind (rs d n (rng 0 3) 9 m)) (f := fun s => (lps (sRg d n m) v 0 s).bind (sC d n m)) (g := fun s => (lps (sRg d n m) (s.1 9 m) 0 s).bind (sC d n m)) (fun s hs => by rw [cnt_eq hM s hs])
      rw [e, obb] at hS3
      exact hS3
  | succ c ih =>
    intro i fuel σ o hi hf hS h4 hy
    obtain ⟨fuel, rfl⟩ : ∃ x, fuel = x + 1 := ⟨fuel - 1, by omega⟩
    obtain ⟨v, σ1, hF, h2, hQ, hM⟩ := c_kept hIA hS hy hmany
    have hS2 := st_A (b := IA + 4 + 9 * m + 2) (f := i) hM (by omega) (fun im z => RelC_u8 z (by omega) hm (by omega))
    obtain ⟨σ2, hF2, hS3, hFr⟩ := ih (i + 1) fuel _ _ (by omega) (by omega) hS2 (by rw [rA1, hQ.2 _ _ (by omega)]; exact h4) (by rw [rA1, hQ.2 _ _ (by omega)]; exact hy)
    refine ⟨σ2, ?_, ?_, Fa_trans (Qt_Fa hQ _ _) (Fa_trans (Fa_setA (by omega) (by omega)) hFr)⟩
    · simp (disch := omega) only [F_Rd_readMethod_92, h4, n_le, if_neg, lit32, hF, cM6 hMe, n_cl, n_nl0, false_or, stl_e, n_add, hF2, ite_true, ite_false, if_true, if_false, Bool.false_eq_true, and_self, and_true, true_and, and_false, false_and]
    · have e : (fun s => (lps (fun i => rs d n (tyP many false false) 8 (4 * m + i)) (c + 1) i s).bind (sR d n m)) = (fun s => (rs d n (tyP many false false) 8 (4 * m + i) s).bind fun s => (lps (fun i => rs d n (tyP many false false) 8 (4 * m + i)) c (i + 1) s).bind (sR d n m)) := by
        funext s
        exact obb _ _ _
      rw [obb] at hS3
      rw [e]
      exact hS3
theorem ty3 (many : Nat) : tyP many true false 3 = true := by simp [tyP]
theorem ty3n (many : Nat) : ∀ x, x ≠ 3 → tyP many true false x = tyP many false false x := by
  intro x hx
  simp [tyP, hx]
theorem ty0 (many : Nat) : tyP many false true 0 = true := by simp [tyP]
theorem ty0n (many : Nat) : ∀ x, x ≠ 0 → tyP many false true x = tyP many false false x := by
  intro x hx
  simp [tyP, hx]
theorem c_38 {d : Nat → Nat} {n IA m cnt many : Nat} (hIA : IA = 2 ∨ IA = 60) (hm : m < 6) (hMe : isC SHc (IA + 4 + 9 * m) 2 = true) (hc : cnt ≤ 3) (hmany : many ≤ 4) : ∀ (c i fuel : Nat) (σ : SG) (o : Option PZ), i + c = cnt → c < fuel → StC d n IA σ o → σ.1 (IA + 4 + 9 * m) 1 = Int32.ofNat cnt → σ.1 IA 0 = Int32.ofNat many →
    ∃ σ1, F_Rd_readMethod_38 fuel 118 IA (IA + 4 + 9 * m) (Int32.ofNat i) σ = some σ1 ∧ StC d n IA σ1 (o.bind fun s => (lps (fun i => rs d n (tyP many true false) 6 (3 * m + i)) c i s).bind (sL d n many m)) ∧ Fa (IA + 4 + 9 * m) (IA + 4 + 9 * m + 9) σ σ1 := by
  intro c
  induction c with
  | zero =>
    intro i fuel σ o hi hf hS h4 hy
    obtain ⟨fuel, rfl⟩ : ∃ x, fuel = x + 1 := ⟨fuel - 1, by omega⟩
    obtain ⟨v, σ1, hF, h1, h2, hQ, hM⟩ := c_num (lo := 0) (hi := 4) hIA hS (by omega) (by omega)
    have hS2 := st_I (b := IA + 4 + 9 * m) (f := 2) hM (by omega) (fun im z => RelC_u7 z (by omega) hm)
    obtain ⟨σ2, hF2, hS3, hFr⟩ := c_92 hIA hm hMe (cnt := v) (by omega) hmany v 0 5000 _ _ (by omega) (by omega) hS2 (by rw [rI, if_pos (by omega)]) (by rw [rI, if_neg (by omega), hQ.2 _ _ (by omega)]; exact hy)
    refine ⟨σ2, ?_, ?_, Fa_trans (Qt_Fa hQ _ _) (Fa_trans (Fa_setI (by omega) (by omega)) hFr)⟩
    · simp (disch := omega) only [F_Rd_readMethod_38, h4, n_le, if_pos, lit32, hF, stl_e, hF2, ite_true, ite_false, if_true, if_false, Bool.false_eq_true, and_self, and_true, true_and, and_false, false_and]
    · have e := ob_eq (o := o.bind (rs d n (rng 0 4) 7 m)) (f := fun s => (lps (fun i => rs d n (tyP many false false) 8 (4 * m + i)) v 0 s).bind (sR d n m)) (g := fun s => (lps (fun i => rs d n (tyP many false false) 8 (4 * m + i)) (s.1 7 m) 0 s).bind (sR d n m)) (fun s hs => by rw [cnt_eq hM s hs])
      rw [e, obb] at hS3
      exact hS3
  | succ c ih =>
    intro i fuel σ o hi hf hS h4 hy
    obtain ⟨fuel, rfl⟩ : ∃ x, fuel = x + 1 := ⟨fuel - 1, by omega⟩
    obtain ⟨b, hb, hbt, hbf⟩ := c_nis (t := 3) (pl := true) (no := false) hIA hS hy hmany (by omega) (ty3 many) (ty3n many)
    have e : (fun s => (lps (fun i => rs d n (tyP many true false) 6 (3 * m + i)) (c + 1) i s).bind (sL d n many m)) = (fun s => (rs d n (tyP many true false) 6 (3 * m + i) s).bind fun s => (lps (fun i => rs d n (tyP many true false) 6 (3 * m + i)) c (i + 1) s).bind (sL d n many m)) := by
      funext s
      exact obb _ _ _
    cases b with
    | true =>
      obtain ⟨v, σ1, hF, h2, hQ, hM⟩ := hbt rfl
      have hS2 := st_A (b := IA + 4 + 9 * m + 1) (f := i) hM (by omega) (fun im z => RelC_u6 z (by omega) hm (by omega))
      obtain ⟨σ2, hF2, hS3, hFr⟩ := ih (i + 1) fuel _ _ (by omega) (by omega) hS2 (by rw [rA1, hQ.2 _ _ (by omega)]; exact h4) (by rw [rA1, hQ.2 _ _ (by omega)]; exact hy)
      refine ⟨σ2, ?_, ?_, Fa_trans (Qt_Fa hQ _ _) (Fa_trans (Fa_setA (by omega) (by omega)) hFr)⟩
      · simp (disch := omega) only [F_Rd_readMethod_38, F_Rd_readMethod_73, h4, n_le, if_neg, if_pos, lit32, hb, hF, cM5 hMe, n_cl, n_nl0, false_or, stl_e, n_add, hF2, ite_true, ite_false, if_true, if_false, Bool.false_eq_true, and_self, and_true, true_and, and_false, false_and]
      · rw [obb] at hS3
        rw [e]
        exact hS3
    | false =>
      obtain ⟨v, σ1, hF, h2, hQ, hM⟩ := hbf rfl
      have hS2 := st_A (b := IA + 4 + 9 * m + 1) (f := i) hM (by omega) (fun im z => RelC_u6 z (by omega) hm (by omega))
      obtain ⟨σ2, hF2, hS3, hFr⟩ := ih (i + 1) fuel _ _ (by omega) (by omega) hS2 (by rw [rA1, hQ.2 _ _ (by omega)]; exact h4) (by rw [rA1, hQ.2 _ _ (by omega)]; exact hy)
      refine ⟨σ2, ?_, ?_, Fa_trans (Qt_Fa hQ _ _) (Fa_trans (Fa_setA (by omega) (by omega)) hFr)⟩
      · simp (disch := omega) only [F_Rd_readMethod_38, F_Rd_readMethod_73, h4, n_le, if_neg, if_pos, lit32, hb, hF, cM5 hMe, n_cl, n_nl0, false_or, stl_e, n_add, hF2, Bool.false_eq_true, ite_true, ite_false, if_true, if_false, Bool.false_eq_true, and_self, and_true, true_and, and_false, false_and]
      · rw [obb] at hS3
        rw [e]
        exact hS3
theorem c_23 {d : Nat → Nat} {n IA m many v : Nat} {σ : SG} {o : Option PZ} (hIA : IA = 2 ∨ IA = 60) (hm : m < 6) (hMe : isC SHc (IA + 4 + 9 * m) 2 = true) (hmany : many ≤ 4) (hM0 : MdC d n IA σ (o.bind (nxs d n (tyP many false true))) v) (hv : v ≤ 255) (hy : σ.1 IA 0 = Int32.ofNat many) :
    ∃ σ1, F_Rd_readMethod_23 118 IA (IA + 4 + 9 * m) (IA + 4 + 9 * m) (Int32.ofNat v) σ = some σ1 ∧ StC d n IA σ1 (o.bind (sM d n many m)) ∧ Fa (IA + 4 + 9 * m) (IA + 4 + 9 * m + 9) σ σ1 := by
  have hS := st_I (b := IA + 4 + 9 * m) (f := 0) hM0 (by omega) (fun im z => RelC_u4 z (by omega) hm)
  obtain ⟨v, σ1, hF, h1, h2, hQ, hM⟩ := c_num (lo := 0) (hi := 3) hIA hS (by omega) (by omega)
  have hS2 := st_I (b := IA + 4 + 9 * m) (f := 1) hM (by omega) (fun im z => RelC_u5 z (by omega) hm)
  obtain ⟨σ2, hF2, hS3, hFr⟩ := c_38 hIA hm hMe (cnt := v) (by omega) hmany v 0 5000 _ _ (by omega) (by omega) hS2 (by rw [rI, if_pos (by omega)]) (by rw [rI, if_neg (by omega), hQ.2 _ _ (by omega), rI, if_neg (by omega)]; exact hy)
  refine ⟨σ2, ?_, ?_, Fa_trans (Fa_setI (by omega) (by omega)) (Fa_trans (Qt_Fa hQ _ _) (Fa_trans (Fa_setI (by omega) (by omega)) hFr))⟩
  · simp (disch := omega) only [F_Rd_readMethod_23, lit32, hF, stl_e, hF2, ite_true, ite_false, if_true, if_false, Bool.false_eq_true, and_self, and_true, true_and, and_false, false_and]
  · have e := ob_eq (o := (o.bind (rs d n (tyP many false true) 4 m)).bind (rs d n (rng 0 3) 5 m)) (f := fun s => (lps (fun i => rs d n (tyP many true false) 6 (3 * m + i)) v 0 s).bind (sL d n many m)) (g := fun s => (lps (fun i => rs d n (tyP many true false) 6 (3 * m + i)) (s.1 5 m) 0 s).bind (sL d n many m)) (fun s hs => by rw [cnt_eq hM s hs])
    rw [e, obb, obb] at hS3
    exact hS3
theorem c_method {d : Nat → Nat} {n IA m many : Nat} {σ : SG} {o : Option PZ} (hIA : IA = 2 ∨ IA = 60) (hm : m < 6) (hMe : isC SHc (IA + 4 + 9 * m) 2 = true) (hmany : many ≤ 4) (hS : StC d n IA σ o) (hy : σ.1 IA 0 = Int32.ofNat many) :
    ∃ σ1, F_Rd_readMethod 118 IA (IA + 4 + 9 * m) σ = some σ1 ∧ StC d n IA σ1 (o.bind (sM d n many m)) ∧ Fa (IA + 4 + 9 * m) (IA + 4 + 9 * m + 9) σ σ1 := by
  obtain ⟨b, hb, hbt, hbf⟩ := c_nis (t := 0) (pl := false) (no := true) hIA hS hy hmany (by omega) (ty0 many) (ty0n many)
  cases b with
  | true =>
    obtain ⟨v, σ1, hF, h2, hQ, hM⟩ := hbt rfl
    obtain ⟨σ2, hF2, hS3, hFr⟩ := c_23 hIA hm hMe hmany hM h2 (by rw [hQ.2 _ _ (by omega)]; exact hy)
    refine ⟨σ2, ?_, hS3, Fa_trans (Qt_Fa hQ _ _) hFr⟩
    simp (disch := omega) only [F_Rd_readMethod, lit32, hb, if_pos, hF, hF2, ite_true, ite_false, if_true, if_false, Bool.false_eq_true, and_self, and_true, true_and, and_false, false_and]
  | false =>
    obtain ⟨v, σ1, hF, h2, hQ, hM⟩ := hbf rfl
    obtain ⟨σ2, hF2, hS3, hFr⟩ := c_23 hIA hm hMe hmany hM h2 (by rw [hQ.2 _ _ (by omega)]; exact hy)
    refine ⟨σ2, ?_, hS3, Fa_trans (Qt_Fa hQ _ _) hFr⟩
    simp (disch := omega) only [F_Rd_readMethod, lit32, hb, if_neg, hF, hF2, Bool.false_eq_true, ite_true, ite_false, if_true, if_false, Bool.false_eq_true, and_self, and_true, true_and, and_false, false_and]
theorem c_53 {d : Nat → Nat} {n IA nm many : Nat} (hIA : IA = 2 ∨ IA = 60) (hI : isC SHc IA 1 = true) (hnm : nm ≤ 6) (hmany : many ≤ 4) : ∀ (c i fuel : Nat) (σ : SG) (o : Option PZ), i + c = nm → c < fuel → StC d n IA σ o → σ.1 IA 1 = Int32.ofNat nm → σ.1 IA 0 = Int32.ofNat many →
    ∃ b σ1, F_Rd_readInto_53 fuel 118 IA (Int32.ofNat i) σ = some (b, σ1) ∧ StC d n IA σ1 (o.bind (lps (sM d n many) c i)) ∧ Fa IA (IA + 58) σ σ1 ∧ (b = true ↔ zb (σ1.1 118 3) = true ∧ σ1.1 118 2 = σ1.1 118 1) := by
  intro c
  induction c with
  | zero =>
    intro i fuel σ o hi hf hS h4 hy
    obtain ⟨fuel, rfl⟩ : ∃ x, fuel = x + 1 := ⟨fuel - 1, by omega⟩
    have hS' : StC d n IA σ (o.bind (lps (sM d n many) 0 i)) := by cases o <;> exact hS
    by_cases c1 : zb (σ.1 118 3) = true
    · by_cases c2 : σ.1 118 2 = σ.1 118 1
      · refine ⟨true, σ, ?_, hS', Fa_refl _ _ _, by simp [c1, c2]⟩
        simp (disch := omega) only [F_Rd_readInto_53, F_Rd_readInto_103, h4, n_le, if_pos, c1, c2, ite_true, ite_false, if_true, if_false, Bool.false_eq_true, and_self, and_true, true_and, and_false, false_and]
      · refine ⟨false, σ, ?_, hS', Fa_refl _ _ _, by simp [c2]⟩
        simp (disch := omega) only [F_Rd_readInto_53, F_Rd_readInto_103, F_Rd_readInto_102, h4, n_le, if_pos, c1, if_neg c2, ite_true, ite_false, if_true, if_false, Bool.false_eq_true, and_self, and_true, true_and, and_false, false_and]
    · refine ⟨false, σ, ?_, hS', Fa_refl _ _ _, by simp [c1]⟩
      simp (disch := omega) only [F_Rd_readInto_53, F_Rd_readInto_103, F_Rd_readInto_102, h4, n_le, if_pos, if_neg c1, ite_true, ite_false, if_true, if_false, Bool.false_eq_true, and_self, and_true, true_and, and_false, false_and]
  | succ c ih =>
    intro i fuel σ o hi hf hS h4 hy
    obtain ⟨fuel, rfl⟩ : ∃ x, fuel = x + 1 := ⟨fuel - 1, by omega⟩
    have hi6 : i < 6 := by omega
    obtain ⟨σ1, hF, hS2, hFa⟩ := c_method hIA hi6 (isMe hI hi6) hmany hS hy
    obtain ⟨b, σ2, hF2, hS3, hFr, hb⟩ := ih (i + 1) fuel _ _ (by omega) (by omega) hS2 (by rw [hFa.2.2.2.1 _ _ (by omega) (by omega)]; exact h4) (by rw [hFa.2.2.2.1 _ _ (by omega) (by omega)]; exact hy)
    refine ⟨b, σ2, ?_, ?_, Fa_trans (Fa_mono hFa (by omega) (by omega)) hFr, hb⟩
    · simp (disch := omega) only [F_Rd_readInto_53, h4, n_le, if_neg, lit32, cI4 hI, n_cl, n_nl0, false_or, cIm hI, hF, n_add, hF2, ite_true, ite_false, if_true, if_false, Bool.false_eq_true, and_self, and_true, true_and, and_false, false_and]
    · rw [obb] at hS3
      exact hS3
/-- the classes: the inner loop, with what follows it -/
theorem c_34 {d : Nat → Nat} {n IA cl cnt many : Nat} {rec12 : Nat → Nat → Int32 → SG → Option SG} {K : PZ → Option PZ} {Z : SG → Prop} (hIA : IA = 2 ∨ IA = 60) (hI : isC SHc IA 1 = true) (hcl : cl < 4) (hc : cnt ≤ 4) (hmany : many ≤ 4)
    (hrec : ∀ σ o, StC d n IA σ o → σ.1 IA 0 = Int32.ofNat many → Z σ → ∃ σ1, rec12 118 IA (Int32.ofNat (cl + 1)) σ = some σ1 ∧ StC d n IA σ1 (o.bind K) ∧ Fa (IA + 1) (IA + 58) σ σ1)
    (hZ : ∀ σ σ1, Z σ → Fa (IA + 1) (IA + 58) σ σ1 → Z σ1) : ∀ (c i fuel : Nat) (σ : SG) (o : Option PZ), i + c = cnt → c < fuel → StC d n IA σ o → σ.2.2.2.1 (IA + 1) cl = Int32.ofNat cnt → σ.1 IA 0 = Int32.ofNat many → Z σ →
    ∃ σ1, F_Rd_readClasses_34 rec12 fuel 118 IA (Int32.ofNat cl) (Int32.ofNat i) σ = some σ1 ∧ StC d n IA σ1 (o.bind fun s => (lps (fun f => rs d n (tyP many false false) 3 (4 * cl + f)) c i s).bind K) ∧ Fa (IA + 1) (IA + 58) σ σ1 := by
  intro c
  induction c with
  | zero =>
    intro i fuel σ o hi hf hS h4 hy hz
    obtain ⟨fuel, rfl⟩ : ∃ x, fuel = x + 1 := ⟨fuel - 1, by omega⟩
    obtain ⟨σ1, hF, hS1, hFa⟩ := hrec σ o hS hy hz
    refine ⟨σ1, ?_, ?_, hFa⟩
    · simp (disch := omega) only [F_Rd_readClasses_34, n_cl, n_nl0, false_or, lit32, cI2 hI, h4, n_le, if_pos, if_neg, n_add, hF, ite_true, ite_false, if_true, if_false, Bool.false_eq_true, and_self, and_true, true_and, and_false, false_and]
    · exact hS1
  | succ c ih =>
    intro i fuel σ o hi hf hS h4 hy hz
    obtain ⟨fuel, rfl⟩ : ∃ x, fuel = x + 1 := ⟨fuel - 1, by omega⟩
    obtain ⟨v, σ1, hF, h2, hQ, hM⟩ := c_kept hIA hS hy hmany
    have hS2 := st_A (b := IA + 2) (f := 4 * cl + i) hM (by omega) (fun im z => RelC_u3 z (by omega) (by omega))
    have hA : ∀ a f, σ1.2.2.2.1 a f = σ.2.2.2.1 a f := fun a f => by rw [hQ.1]
    obtain ⟨σ2, hF2, hS3, hFr⟩ := ih (i + 1) fuel _ _ (by omega) (by omega) hS2 (by rw [rA, if_neg (by omega), hA]; exact h4) (by rw [rA1, hQ.2 _ _ (by omega)]; exact hy) (hZ _ _ (hZ _ _ hz (Qt_Fa hQ _ _)) (Fa_setA (by omega) (by omega)))
    refine ⟨σ2, ?_, ?_, Fa_trans (Qt_Fa hQ _ _) (Fa_trans (Fa_setA (by omega) (by omega)) hFr)⟩
    · simp (disch := omega) only [F_Rd_readClasses_34, n_cl, n_nl0, false_or, lit32, cI2 hI, cI3 hI, h4, n_le, if_neg, n_mul, n_add, hF, stl_e, hF2, ite_true, ite_false, if_true, if_false, Bool.false_eq_true, and_self, and_true, true_and, and_false, false_and]
    · have e : (fun s => (lps (fun f => rs d n (tyP many false false) 3 (4 * cl + f)) (c + 1) i s).bind K) = (fun s => (rs d n (tyP many false false) 3 (4 * cl + i) s).bind fun s => (lps (fun f => rs d n (tyP many false false) 3 (4 * cl + f)) c (i + 1) s).bind K) := by
        funext s
        exact obb _ _ _
      rw [obb] at hS3
      rw [e]
      exact hS3
theorem c_12 {d : Nat → Nat} {n IA many : Nat} (hIA : IA = 2 ∨ IA = 60) (hI : isC SHc IA 1 = true) (hmany : many ≤ 4) : ∀ (c i fuel : Nat) (σ : SG) (o : Option PZ), i + c = many → c < fuel → StC d n IA σ o → σ.1 IA 0 = Int32.ofNat many →
    ∃ σ1, F_Rd_readClasses_12 fuel 118 IA (Int32.ofNat i) σ = some σ1 ∧ StC d n IA σ1 (o.bind (lps (sF d n many) c i)) ∧ Fa (IA + 1) (IA + 58) σ σ1 := by
  intro c
  induction c with
  | zero =>
    intro i fuel σ o hi hf hS h4
    obtain ⟨fuel, rfl⟩ : ∃ x, fuel = x + 1 := ⟨fuel - 1, by omega⟩
    refine ⟨σ, ?_, ?_, Fa_refl _ _ _⟩
    · simp (disch := omega) only [F_Rd_readClasses_12, h4, n_le, if_pos, ite_true, ite_false, if_true, if_false, Bool.false_eq_true, and_self, and_true, true_and, and_false, false_and]
    · cases o <;> exact hS
  | succ c ih =>
    intro i fuel σ o hi hf hS h4
    obtain ⟨fuel, rfl⟩ : ∃ x, fuel = x + 1 := ⟨fuel - 1, by omega⟩
    obtain ⟨v, σ1, hF, h1, h2, hQ, hM⟩ := c_num (lo := 0) (hi := 4) hIA hS (by omega) (by omega)
    have hS2 := st_A (b := IA + 1) (f := i) hM (by omega) (fun im z => RelC_u2 z (by omega) (by omega))
    obtain ⟨σ2, hF2, hS3, hFr⟩ := c_34 (rec12 := F_Rd_readClasses_12 fuel) (K := lps (sF d n many) c (i + 1)) (Z := fun _ => True) (cl := i) (cnt := v) (many := many) hIA hI (by omega) (by omega) hmany (fun σ o a b _ => ih (i + 1) fuel σ o (by omega) (by omega) a b) (fun _ _ _ _ => trivial) v 0 5000 _ _ (by omega) (by omega) hS2 (by rw [rA, if_pos (by omega)]) (by rw [rA1, hQ.2 _ _ (by omega)]; exact h4) trivial
    refine ⟨σ2, ?_, ?_, Fa_trans (Qt_Fa hQ _ _) (Fa_trans (Fa_setA (by omega) (by omega)) hFr)⟩
    · simp (disch := omega) only [F_Rd_readClasses_12, h4, n_le, if_neg, lit32, hF, n_cl, n_nl0, false_or, cI2 hI, stl_e, hF2, ite_true, ite_false, if_true, if_false, Bool.false_eq_true, and_self, and_true, true_and, and_false, false_and]
    · have e := ob_eq (o := o.bind (rs d n (rng 0 4) 2 i)) (f := fun s => (lps (fun f => rs d n (tyP many false false) 3 (4 * i + f)) v 0 s).bind (lps (sF d n many) c (i + 1))) (g := fun s => (lps (fun f => rs d n (tyP many false false) 3 (4 * i + f)) (s.1 2 i) 0 s).bind (lps (sF d n many) c (i + 1))) (fun s hs => by rw [cnt_eq hM s hs])
      rw [e, obb] at hS3
      have e2 : (lps (sF d n many) (c + 1) i) = (fun s => (rs d n (rng 0 4) 2 i s).bind fun s => (lps (fun f => rs d n (tyP many false false) 3 (4 * i + f)) (s.1 2 i) 0 s).bind (lps (sF d n many) c (i + 1))) := by
        funext s
        show (sF d n many i s).bind _ = _
        unfold sF
        rw [obb]
      rw [e2]
      exact hS3
theorem c_read {d : Nat → Nat} {n IA : Nat} {σ : SG} {im : Im} (hIA : IA = 2 ∨ IA = 60) (hI : isC SHc IA 1 = true) (hn : n ≤ 400) (hD : ∀ k, k < n → σ.2.2.2.1 1 k = Int32.ofNat (d k) ∧ d k < 256) (hR : RelC σ IA im) :
    ∃ b σ1, F_Rd_readInto 118 IA 1 (Int32.ofNat n) σ = some (b, σ1) ∧ (b = true ↔ ∃ s, sAll d n (im, 0) = some s) ∧ (∀ s, sAll d n (im, 0) = some s → RelC σ1 IA s.1) ∧ Fa IA (IA + 58) (setP σ 118 0 1) σ1 ∧ (∃ im1, RelC σ1 IA im1) := by
  generalize hσ0 : setI (setI (setI (setP σ 118 0 1) 118 1 (Int32.ofNat n)) 118 2 (Int32.ofNat 0)) 118 3 (Int32.ofNat 1) = σ0
  have hQ0 : Qt (setP σ 118 0 1) σ0 := by
    rw [← hσ0]
    exact Qt_trans (Qt_set _ _ _) (Qt_trans (Qt_set _ _ _) (Qt_set _ _ _))
  have hR0 : RelC σ0 IA im := by
    refine RelC_q hIA ?_ hQ0
    exact RelC_congr hR (fun _ _ _ _ => rfl) (fun _ _ _ _ => rfl)
  have hS0 : StC d n IA σ0 (some (im, 0)) := by
    refine ⟨⟨?_, ?_, hn, ⟨0, by omega, ?_⟩, ?_⟩, ⟨im, hR0⟩, ?_, ?_, by simp, hR0⟩ <;> rw [← hσ0]
    · simp (disch := omega) only [rI, rI2, rJ1, rJ, rJ2, rP1, rP2, rP, rP3, rA1, rA2, rA3, rA, rA4, rL1, rL2, rL3, rL4, rL, and_self, if_pos, ite_true, ite_false, if_true, if_false, Bool.false_eq_true, and_self, and_true, true_and, and_false, false_and]
    · simp (disch := omega) only [rI, rI2, rJ1, rJ, rJ2, rP1, rP2, rP, rP3, rA1, rA2, rA3, rA, rA4, rL1, rL2, rL3, rL4, rL, and_self, if_pos, if_neg, ite_true, ite_false, if_true, if_false, Bool.false_eq_true, and_self, and_true, true_and, and_false, false_and]
    · simp (disch := omega) only [rI, rI2, rJ1, rJ, rJ2, rP1, rP2, rP, rP3, rA1, rA2, rA3, rA, rA4, rL1, rL2, rL3, rL4, rL, and_self, if_pos, if_neg, ite_true, ite_false, if_true, if_false, Bool.false_eq_true, and_self, and_true, true_and, and_false, false_and]
    · exact hD
    · simp (disch := omega) only [rI, rI2, rJ1, rJ, rJ2, rP1, rP2, rP, rP3, rA1, rA2, rA3, rA, rA4, rL1, rL2, rL3, rL4, rL, and_self, if_pos, ite_true, ite_false, if_true, if_false, Bool.false_eq_true, and_self, and_true, true_and, and_false, false_and]
      exact zb1
    · simp (disch := omega) only [rI, rI2, rJ1, rJ, rJ2, rP1, rP2, rP, rP3, rA1, rA2, rA3, rA, rA4, rL1, rL2, rL3, rL4, rL, and_self, if_pos, if_neg, ite_true, ite_false, if_true, if_false, Bool.false_eq_true, and_self, and_true, true_and, and_false, false_and]
  obtain ⟨v0, σ1, hF1, -, g1, hQ1, hM1⟩ := c_num (lo := 77) (hi := 77) hIA hS0 (by omega) (by omega)
  have hS1 := st_0 (a := 1) (i := 0) hM1 (fun im z => RelC_ud z (by omega))
  obtain ⟨v, σ2, hF2, -, g2, hQ2, hM2⟩ := c_num (lo := 0) (hi := 4) hIA hS1 (by omega) (by omega)
  have hS2 := st_I (b := IA) (f := 0) hM2 (by omega) (fun im z => RelC_u0 z (by omega))
  obtain ⟨σ3, hF3, hS3, hFa3⟩ := c_12 hIA hI (many := v) (by omega) v 0 5000 _ _ (by omega) (by omega) hS2 (by rw [rI, if_pos (by omega)])
  have hv3 : σ3.1 IA 0 = Int32.ofNat v := by
    rw [hFa3.2.2.2.1 _ _ (by omega) (by omega), rI, if_pos (by omega)]
  obtain ⟨w, σ4, hF4, g4', g4, hQ4, hM4⟩ := c_num (lo := 1) (hi := 6) hIA hS3 (by omega) (by omega)
  have hS4 := st_I (b := IA) (f := 1) hM4 (by omega) (fun im z => RelC_u1 z (by omega))
  obtain ⟨b, σ5, hF5, hS5, hFa5, hb⟩ := c_53 hIA hI (nm := w) (many := v) (by omega) (by omega) w 0 5000 _ _ (by omega) (by omega) hS4 (by rw [rI, if_pos (by omega)]) (by rw [rI, if_neg (by omega), hQ4.2 _ _ (by omega)]; exact hv3)
  generalize ho1 : (some (im, 0) : Option PZ).bind (rs d n (rng 77 77) 1 0) = o1 at hS1 hM2 hS2 hS3 hM4 hS4 hS5
  have E : ((((o1.bind (rs d n (rng 0 4) 0 0)).bind (lps (sF d n v) v 0)).bind (rs d n (rng 1 6) 0 1)).bind (lps (sM d n v) w 0)) = o1.bind (sCl d n) := by
    rw [ob_eq (f := lps (sM d n v) w 0) (g := fun s => lps (sM d n v) (s.1 0 1) 0 s) (fun s hs => by rw [cnt_eq hM4 s hs])]
    rw [obb (f := rs d n (rng 1 6) 0 1)]
    rw [obb (f := lps (sF d n v) v 0)]
    rw [ob_eq (o := o1.bind (rs d n (rng 0 4) 0 0)) (g := fun s => (lps (sF d n (s.1 0 0)) (s.1 0 0) 0 s).bind (sMs d n (s.1 0 0))) (fun s hs => by rw [cnt_eq hM2 s hs]; rfl)]
    rw [obb]
    rfl
  rw [E] at hS5
  have E2 : sAll d n (im, 0) = (o1.bind (sCl d n)).bind fun s => if s.2 = n then some s else none := by
    rw [← ho1]
    rfl
  generalize o1.bind (sCl d n) = o5 at hS5 E2
  refine ⟨b, σ5, ?_, ?_, ?_, ?_, hS5.2.1⟩
  · have hL : alen SHc 1 = 400 := by decide
    subst hσ0
    simp (disch := omega) only [F_Rd_readInto, F_Rd_readClasses, stl_e, hL, lit32, n_lt, if_neg, bzt, hF1, hF2, hF3, hF4, hF5, ite_true, ite_false, if_true, if_false, Bool.false_eq_true, and_self, and_true, true_and, and_false, false_and]
  · rw [hb, E2]
    cases o5 with
    | none =>
      have z : zb (σ5.1 118 3) = false := hS5.2.2
      simp [z]
    | some s =>
      obtain ⟨z1, z2, z3, z4⟩ := hS5.2.2
      have z5 := hS5.1.2.1
      rw [z1, z2, z5, n_eq (by omega) (by omega)]
      show true = true ∧ s.2 = n ↔ ∃ t, (if s.2 = n then some s else none) = some t
      by_cases c : s.2 = n <;> simp [c]
  · intro s hs
    rw [E2] at hs
    cases o5 with
    | none => cases hs
    | some t =>
      obtain ⟨z1, z2, z3, z4⟩ := hS5.2.2
      have hs' : (if t.2 = n then some t else none) = some s := hs
      by_cases c : t.2 = n
      · rw [if_pos c] at hs'
        cases hs'
        exact z4
      · rw [if_neg c] at hs'
        cases hs'
  · refine Fa_trans (Qt_Fa hQ0 _ _) (Fa_trans (Qt_Fa hQ1 _ _) (Fa_trans (Qt_Fa hQ2 _ _) (Fa_trans (Fa_setI (by omega) (by omega)) (Fa_trans (Fa_mono hFa3 (by omega) (by omega)) (Fa_trans (Qt_Fa hQ4 _ _) (Fa_trans (Fa_setI (by omega) (by omega)) hFa5))))))
