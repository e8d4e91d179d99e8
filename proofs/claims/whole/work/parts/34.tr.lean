/-! The rows behind instructions, in the class. -/
theorem ImC_congr {σ σ1 : SG} {IA : Nat} {im : Im} (h : ImC σ IA im) (hI : ∀ x f, f < 9 → IA ≤ x → x < IA + 58 → σ1.1 x f = σ.1 x f) (hA : ∀ x f, (∀ j, j < 6 → x ≠ IA + 12 + 9 * j) → IA ≤ x → x < IA + 58 → σ1.2.2.2.1 x f = σ.2.2.2.1 x f) : ImC σ1 IA im := by
  obtain ⟨h1, h2, y, hR, hG⟩ := h
  refine ⟨h1, h2, y, ?_, hG⟩
  refine ⟨hR.1, ?_, ?_, ?_, ?_, ?_, ?_, ?_, ?_, ?_, ?_, ?_, ?_, ?_, ?_, ?_, ?_⟩
  · rw [hI _ _ (by omega) (by omega) (by omega)]; exact RelC_c0 hR
  · rw [hI _ _ (by omega) (by omega) (by omega)]; exact RelC_c1 hR
  · intro c h5; rw [hA _ _ (fun j hj => by omega) (by omega) (by omega)]; exact RelC_c2 hR _ h5
  · intro k h5; rw [hA _ _ (fun j hj => by omega) (by omega) (by omega)]; exact RelC_c3 hR _ h5
  · intro m h5; rw [hI _ _ (by omega) (by omega) (by omega)]; exact RelC_c4 hR _ h5
  · intro m h5; rw [hI _ _ (by omega) (by omega) (by omega)]; exact RelC_c5 hR _ h5
  · intro m i h5 h6; rw [hA _ _ (fun j hj => by omega) (by omega) (by omega)]; exact RelC_c6 hR _ _ h5 h6
  · intro m h5; rw [hI _ _ (by omega) (by omega) (by omega)]; exact RelC_c7 hR _ h5
  · intro m i h5 h6; rw [hA _ _ (fun j hj => by omega) (by omega) (by omega)]; exact RelC_c8 hR _ _ h5 h6
  · intro m h5; rw [hI _ _ (by omega) (by omega) (by omega)]; exact RelC_c9 hR _ h5
  · intro m r h5 h6; rw [hI _ _ (by omega) (by omega) (by omega)]; exact RelC_c10 hR _ _ h5 h6
  · intro m r h5 h6; rw [hI _ _ (by omega) (by omega) (by omega)]; exact RelC_c11 hR _ _ h5 h6
  · intro m r h5 h6; rw [hI _ _ (by omega) (by omega) (by omega)]; exact RelC_c12 hR _ _ h5 h6
  · intro m r h5 h6; rw [hI _ _ (by omega) (by omega) (by omega)]; exact RelC_c13 hR _ _ h5 h6
  · intro m h5; rw [hI _ _ (by omega) (by omega) (by omega)]; exact RelC_c14 hR _ h5
  · intro m p h5 h6; rw [hA _ _ (fun j hj => by omega) (by omega) (by omega)]; exact RelC_c15 hR _ _ h5 h6
theorem lty_lt {σ : SG} {IA : Nat} {im : Im} {m k : Nat} (h : ImC σ IA im) (hm : m < im 0 1) : lty im m k < 12 := by
  unfold lty
  split
  · exact tyP_lt (IC_lt h hm (by assumption)).2 (IC_nc h).2
  · omega
theorem aty_lt {σ : SG} {IA : Nat} {im : Im} {m k : Nat} (h : ImC σ IA im) (hm : m < im 0 1) : aty im m k < 12 := by
  unfold aty
  split
  · exact tyP_lt (IC_at h hm (by assumption)).2 (IC_nc h).2
  · omega
theorem fty_lt {σ : SG} {IA : Nat} {im : Im} {k : Nat} (h : ImC σ IA im) : fty im k < 12 := by
  unfold fty
  split
  · rename_i c
    have e := (IC_ft h c.1 c.2).2
    rw [show 4 * (k / 4) + k % 4 = k by omega] at e
    exact tyP_lt e (IC_nc h).2
  · omega
theorem fty_nc {im : Im} {k : Nat} (h : fty im k ≠ 0) : k / 4 < im 0 0 := by
  unfold fty at h
  by_cases c : k / 4 < im 0 0 ∧ k % 4 < im 2 (k / 4)
  · exact c.1
  · rw [if_neg c] at h
    exact absurd rfl h
theorem obj_lt {σ : SG} {IA : Nat} {im : Im} {k : Nat} (h : ImC σ IA im) : obj im k < 12 := by
  unfold obj
  split
  · omega
  · rename_i c
    have := fty_nc c
    have := (IC_nc h).2
    omega
theorem plc_lt (t : Nat) : plc t < 12 := by
  unfold plc
  split <;> omega
theorem nuT_lt {σ : SG} {IA : Nat} {im : Im} {k : Nat} (h : ImC σ IA im) : nuT im k < 12 := by
  have := (IC_nc h).2
  unfold nuT
  split <;> omega
theorem neT_lt {σ : SG} {IA : Nat} {im : Im} {k : Nat} (h : ImC σ IA im) : neT im k < 12 := by
  have := (IC_nc h).2
  unfold neT
  split <;> omega
theorem res_lt {σ : SG} {IA : Nat} {im : Im} {m : Nat} (h : ImC σ IA im) (hm : m < im 0 1) : im 4 m < 12 := tyP_lt (IC_res h hm).2 (IC_nc h).2
def it1 : Nat → Option (List Nat) → Option (List Nat)
  | 0, o => o
  | c + 1, o => it1 c (o.bind (wot 1))
theorem wn_l (σ : SG) : ∀ (c i fuel : Nat) (o : Option (List Nat)) (n : Nat), i + c = n → n < 100 → c < fuel → GO o → F_Vf_withoutNumbers_4 fuel (Int32.ofNat n) (encO o) (Int32.ofNat i) σ = some (encO (it1 c o), σ) := by
  intro c
  induction c with
  | zero =>
    intro i fuel o n hi hn hf ho
    obtain ⟨fuel, rfl⟩ : ∃ x, fuel = x + 1 := ⟨fuel - 1, by omega⟩
    simp (disch := omega) only [F_Vf_withoutNumbers_4, n_le, if_pos, it1, ite_true, ite_false, if_true, if_false, Bool.false_eq_true, and_self, and_true, true_and, and_false, false_and]
  | succ c ih =>
    intro i fuel o n hi hn hf ho
    obtain ⟨fuel, rfl⟩ : ∃ x, fuel = x + 1 := ⟨fuel - 1, by omega⟩
    have h1 := f_without ho (show 1 < 15 by omega) σ
    have h2 := ih (i + 1) fuel _ n (by omega) hn (by omega) (GO_wot (t := 1) ho)
    simp (disch := omega) only [F_Vf_withoutNumbers_4, n_le, if_neg, lit32, h1, n_add, h2, it1, ite_true, ite_false, if_true, if_false, Bool.false_eq_true, and_self, and_true, true_and, and_false, false_and]
theorem wn1 {o : Option (List Nat)} (ho : GO o) (σ : SG) : F_Vf_withoutNumbers (encO o) (Int32.ofNat 1) σ = some (encO (o.bind (wot 1)), σ) := by
  have h := wn_l σ 1 0 5000 o 1 (by omega) (by omega) (by omega) ho
  simp (disch := omega) only [F_Vf_withoutNumbers, lit32, h, it1, ite_true, ite_false, if_true, if_false, Bool.false_eq_true, and_self, and_true, true_and, and_false, false_and]
theorem wn2 {o : Option (List Nat)} (ho : GO o) (σ : SG) : F_Vf_withoutNumbers (encO o) (Int32.ofNat 2) σ = some (encO ((o.bind (wot 1)).bind (wot 1)), σ) := by
  have h := wn_l σ 2 0 5000 o 2 (by omega) (by omega) (by omega) ho
  simp (disch := omega) only [F_Vf_withoutNumbers, lit32, h, it1, ite_true, ite_false, if_true, if_false, Bool.false_eq_true, and_self, and_true, true_and, and_false, false_and]
theorem a_plc {t : Nat} (ht : t < 100) (σ : SG) : F_Vf_placeOf (Int32.ofNat t) σ = some (Int32.ofNat (plc t), σ) := by
  by_cases c : t = 1
  · simp (disch := omega) only [F_Vf_placeOf, F_Vf_placeOf_10, lit32, n_eq, if_pos, plc, ite_true, ite_false, if_true, if_false, Bool.false_eq_true, and_self, and_true, true_and, and_false, false_and]
  · simp (disch := omega) only [F_Vf_placeOf, F_Vf_placeOf_10, lit32, n_eq, if_neg, plc, ite_true, ite_false, if_true, if_false, Bool.false_eq_true, and_self, and_true, true_and, and_false, false_and]
theorem head_lt {l : List Nat} (hl : Gr l) : l.headD 0 < 15 := by
  cases l with
  | nil => decide
  | cons t l => exact (hl.2 t List.mem_cons_self).2
theorem r_simple {σ : SG} {IA : Nat} {im : Im} {m k op : Nat} {l : List Nat} (h : ImC σ IA im) (hm : m < im 0 1) (hk : k < 256) (hl : Gr l) (hV : σ.2.2.1 120 0 = IA) (hW : σ.2.2.1 120 1 = IA + 4 + 9 * m) (hop : op ≤ 15) : F_Vf_rowBehindSimple 120 (Int32.ofNat op) (Int32.ofNat k) (encO (some l)) σ = some (encO (Tr im m op k (some l)), σ) := by
  have g0 : GO (some l) := fun x e => by cases e; exact hl
  have hM := d_Mc h hm
  have tl := lty_lt (k := k) h hm
  have ta := aty_lt (k := k) h hm
  have tf := fty_lt (k := k) h
  have tp := plc_lt (lty im m k)
  have tp2 := plc_lt (fty im k)
  have to := obj_lt (k := k) h
  have tn := nuT_lt (k := k) h
  have te := neT_lt (k := k) h
  have th := head_lt hl
  have ft : F_Rw_top (encO (some l)) σ = some (Int32.ofNat (l.headD 0), σ) := f_top hl σ
  have al := a_lty h hm hk
  have aa := a_aty h hm hk
  have ap := a_plc (t := lty im m k) (by omega) σ
  obtain rfl | rfl | rfl | rfl | rfl | rfl | rfl | rfl | rfl | rfl | rfl | rfl | rfl | rfl | rfl | rfl : op = 0 ∨ op = 1 ∨ op = 2 ∨ op = 3 ∨ op = 4 ∨ op = 5 ∨ op = 6 ∨ op = 7 ∨ op = 8 ∨ op = 9 ∨ op = 10 ∨ op = 11 ∨ op = 12 ∨ op = 13 ∨ op = 14 ∨ op = 15 := by omega
  · simp (disch := omega) only [F_Vf_rowBehindSimple, F_Vf_rowBehindSimple_190, F_Vf_rowBehindSimple_150, hV, hW, hM, lit32, n_eq, if_pos, if_neg, al, aa, ap, ft, Tr, true_or, or_true, or_self, or_false, false_or, Nat.reduceEqDiff, ite_true, ite_false, if_true, if_false, Bool.false_eq_true, and_self, and_true, true_and, and_false, false_and]
  · have f1 := f_with (o := (some l)) (t := 1) g0 (by omega) σ
    have g1 := GO_wth (t := 1) g0 (by omega)
    simp (disch := omega) only [F_Vf_rowBehindSimple, F_Vf_rowBehindSimple_190, F_Vf_rowBehindSimple_150, hV, hW, hM, lit32, n_eq, if_pos, if_neg, al, aa, ap, ft, f1, Tr, true_or, or_true, or_self, or_false, false_or, Nat.reduceEqDiff, ite_true, ite_false, if_true, if_false, Bool.false_eq_true, and_self, and_true, true_and, and_false, false_and]
  · have f1 := f_with (o := (some l)) (t := lty im m k) g0 (by omega) σ
    have g1 := GO_wth (t := lty im m k) g0 (by omega)
    simp (disch := omega) only [F_Vf_rowBehindSimple, F_Vf_rowBehindSimple_190, F_Vf_rowBehindSimple_150, hV, hW, hM, lit32, n_eq, if_pos, if_neg, al, aa, ap, ft, f1, Tr, true_or, or_true, or_self, or_false, false_or, Nat.reduceEqDiff, ite_true, ite_false, if_true, if_false, Bool.false_eq_true, and_self, and_true, true_and, and_false, false_and]
  · have f1 := f_without (o := (some l)) (t := lty im m k) g0 (by omega) σ
    have g1 := GO_wot (t := lty im m k) g0
    simp (disch := omega) only [F_Vf_rowBehindSimple, F_Vf_rowBehindSimple_190, F_Vf_rowBehindSimple_150, hV, hW, hM, lit32, n_eq, if_pos, if_neg, al, aa, ap, ft, f1, Tr, true_or, or_true, or_self, or_false, false_or, Nat.reduceEqDiff, ite_true, ite_false, if_true, if_false, Bool.false_eq_true, and_self, and_true, true_and, and_false, false_and]
  · have f1 := f_with (o := (some l)) (t := plc (lty im m k)) g0 (by omega) σ
    have g1 := GO_wth (t := plc (lty im m k)) g0 (by omega)
    simp (disch := omega) only [F_Vf_rowBehindSimple, F_Vf_rowBehindSimple_190, F_Vf_rowBehindSimple_150, hV, hW, hM, lit32, n_eq, if_pos, if_neg, al, aa, ap, ft, f1, Tr, true_or, or_true, or_self, or_false, false_or, Nat.reduceEqDiff, ite_true, ite_false, if_true, if_false, Bool.false_eq_true, and_self, and_true, true_and, and_false, false_and]
  · have f1 := f_with (o := (some l)) (t := aty im m k) g0 (by omega) σ
    have g1 := GO_wth (t := aty im m k) g0 (by omega)
    simp (disch := omega) only [F_Vf_rowBehindSimple, F_Vf_rowBehindSimple_190, F_Vf_rowBehindSimple_150, hV, hW, hM, lit32, n_eq, if_pos, if_neg, al, aa, ap, ft, f1, Tr, true_or, or_true, or_self, or_false, false_or, Nat.reduceEqDiff, ite_true, ite_false, if_true, if_false, Bool.false_eq_true, and_self, and_true, true_and, and_false, false_and]
  · have f1 := f_without (o := (some l)) (t := aty im m k) g0 (by omega) σ
    have g1 := GO_wot (t := aty im m k) g0
    simp (disch := omega) only [F_Vf_rowBehindSimple, F_Vf_rowBehindSimple_190, F_Vf_rowBehindSimple_150, hV, hW, hM, lit32, n_eq, if_pos, if_neg, al, aa, ap, ft, f1, Tr, true_or, or_true, or_self, or_false, false_or, Nat.reduceEqDiff, ite_true, ite_false, if_true, if_false, Bool.false_eq_true, and_self, and_true, true_and, and_false, false_and]
  · have f1 := wn2 (o := (some l)) g0 σ
    have g10 := GO_wot (t := 1) g0
    have g11 := GO_wot (t := 1) g10
    have f2 := f_with (o := (((some l).bind (wot 1)).bind (wot 1))) (t := 1) g11 (by omega) σ
    have g2 := GO_wth (t := 1) g11 (by omega)
    simp (disch := omega) only [F_Vf_rowBehindSimple, F_Vf_rowBehindSimple_190, F_Vf_rowBehindSimple_150, hV, hW, hM, lit32, n_eq, if_pos, if_neg, al, aa, ap, ft, f1, f2, Tr, true_or, or_true, or_self, or_false, false_or, Nat.reduceEqDiff, ite_true, ite_false, if_true, if_false, Bool.false_eq_true, and_self, and_true, true_and, and_false, false_and]
  · have f1 := wn2 (o := (some l)) g0 σ
    have g10 := GO_wot (t := 1) g0
    have g11 := GO_wot (t := 1) g10
    have f2 := f_with (o := (((some l).bind (wot 1)).bind (wot 1))) (t := 1) g11 (by omega) σ
    have g2 := GO_wth (t := 1) g11 (by omega)
    simp (disch := omega) only [F_Vf_rowBehindSimple, F_Vf_rowBehindSimple_190, F_Vf_rowBehindSimple_150, hV, hW, hM, lit32, n_eq, if_pos, if_neg, al, aa, ap, ft, f1, f2, Tr, true_or, or_true, or_self, or_false, false_or, Nat.reduceEqDiff, ite_true, ite_false, if_true, if_false, Bool.false_eq_true, and_self, and_true, true_and, and_false, false_and]
  · have f1 := wn2 (o := (some l)) g0 σ
    have g10 := GO_wot (t := 1) g0
    have g11 := GO_wot (t := 1) g10
    have f2 := f_with (o := (((some l).bind (wot 1)).bind (wot 1))) (t := 1) g11 (by omega) σ
    have g2 := GO_wth (t := 1) g11 (by omega)
    simp (disch := omega) only [F_Vf_rowBehindSimple, F_Vf_rowBehindSimple_190, F_Vf_rowBehindSimple_150, hV, hW, hM, lit32, n_eq, if_pos, if_neg, al, aa, ap, ft, f1, f2, Tr, true_or, or_true, or_self, or_false, false_or, Nat.reduceEqDiff, ite_true, ite_false, if_true, if_false, Bool.false_eq_true, and_self, and_true, true_and, and_false, false_and]
  · have f1 := wn2 (o := (some l)) g0 σ
    have g10 := GO_wot (t := 1) g0
    have g11 := GO_wot (t := 1) g10
    have f2 := f_with (o := (((some l).bind (wot 1)).bind (wot 1))) (t := 1) g11 (by omega) σ
    have g2 := GO_wth (t := 1) g11 (by omega)
    simp (disch := omega) only [F_Vf_rowBehindSimple, F_Vf_rowBehindSimple_190, F_Vf_rowBehindSimple_150, hV, hW, hM, lit32, n_eq, if_pos, if_neg, al, aa, ap, ft, f1, f2, Tr, true_or, or_true, or_self, or_false, false_or, Nat.reduceEqDiff, ite_true, ite_false, if_true, if_false, Bool.false_eq_true, and_self, and_true, true_and, and_false, false_and]
  · have f1 := f_with (o := (some l)) (t := l.headD 0) g0 (by omega) σ
    have g1 := GO_wth (t := l.headD 0) g0 (by omega)
    simp (disch := omega) only [F_Vf_rowBehindSimple, F_Vf_rowBehindSimple_190, F_Vf_rowBehindSimple_150, hV, hW, hM, lit32, n_eq, if_pos, if_neg, al, aa, ap, ft, f1, Tr, true_or, or_true, or_self, or_false, false_or, Nat.reduceEqDiff, ite_true, ite_false, if_true, if_false, Bool.false_eq_true, and_self, and_true, true_and, and_false, false_and]
    rfl
  · have f1 := f_without (o := (some l)) (t := l.headD 0) g0 (by omega) σ
    have g1 := GO_wot (t := l.headD 0) g0
    simp (disch := omega) only [F_Vf_rowBehindSimple, F_Vf_rowBehindSimple_190, F_Vf_rowBehindSimple_150, hV, hW, hM, lit32, n_eq, if_pos, if_neg, al, aa, ap, ft, f1, Tr, true_or, or_true, or_self, or_false, false_or, Nat.reduceEqDiff, ite_true, ite_false, if_true, if_false, Bool.false_eq_true, and_self, and_true, true_and, and_false, false_and]
    rfl
  · simp (disch := omega) only [F_Vf_rowBehindSimple, F_Vf_rowBehindSimple_190, F_Vf_rowBehindSimple_150, hV, hW, hM, lit32, n_eq, if_pos, if_neg, al, aa, ap, ft, Tr, true_or, or_true, or_self, or_false, false_or, Nat.reduceEqDiff, ite_true, ite_false, if_true, if_false, Bool.false_eq_true, and_self, and_true, true_and, and_false, false_and]
  · have f1 := wn1 (o := (some l)) g0 σ
    have g10 := GO_wot (t := 1) g0
    simp (disch := omega) only [F_Vf_rowBehindSimple, F_Vf_rowBehindSimple_190, F_Vf_rowBehindSimple_150, hV, hW, hM, lit32, n_eq, if_pos, if_neg, al, aa, ap, ft, f1, Tr, true_or, or_true, or_self, or_false, false_or, Nat.reduceEqDiff, ite_true, ite_false, if_true, if_false, Bool.false_eq_true, and_self, and_true, true_and, and_false, false_and]
  · have f1 := wn2 (o := (some l)) g0 σ
    have g10 := GO_wot (t := 1) g0
    have g11 := GO_wot (t := 1) g10
    simp (disch := omega) only [F_Vf_rowBehindSimple, F_Vf_rowBehindSimple_190, F_Vf_rowBehindSimple_150, hV, hW, hM, lit32, n_eq, if_pos, if_neg, al, aa, ap, ft, f1, Tr, true_or, or_true, or_self, or_false, false_or, Nat.reduceEqDiff, ite_true, ite_false, if_true, if_false, Bool.false_eq_true, and_self, and_true, true_and, and_false, false_and]
theorem r_thing0 {σ : SG} {IA : Nat} {im : Im} {m k op : Nat} {l : List Nat} (h : ImC σ IA im) (hm : m < im 0 1) (hk : k < 256) (hl : Gr l) (hV : σ.2.2.1 120 0 = IA) (hW : σ.2.2.1 120 1 = IA + 4 + 9 * m) (x y : Int32) : F_Vf_rowBehindThing 120 x (Int32.ofNat k) y σ = F_Vf_rowBehindThing_25 120 x (Int32.ofNat k) y (Int32.ofNat (fty im k)) (Int32.ofNat (obj im k)) σ := by
  have tf := fty_lt (k := k) h
  have hI := h.2.1
  have af := a_fty h hk
  by_cases c : fty im k = 0
  · have e : obj im k = 0 := by unfold obj; rw [if_pos c]
    simp (disch := omega) only [F_Vf_rowBehindThing, hV, hI, af, lit32, n_eq, if_pos, c, e, ite_true, ite_false, if_true, if_false, Bool.false_eq_true, and_self, and_true, true_and, and_false, false_and]
  · have e : obj im k = 8 + k / 4 := by unfold obj; rw [if_neg c]
    simp (disch := omega) only [F_Vf_rowBehindThing, hV, hI, af, lit32, n_eq, if_pos, if_neg, n_div, n_add, e, ite_true, ite_false, if_true, if_false, Bool.false_eq_true, and_self, and_true, true_and, and_false, false_and]
theorem r_thing {σ : SG} {IA : Nat} {im : Im} {m k op : Nat} {l : List Nat} (h : ImC σ IA im) (hm : m < im 0 1) (hk : k < 256) (hl : Gr l) (hV : σ.2.2.1 120 0 = IA) (hW : σ.2.2.1 120 1 = IA + 4 + 9 * m) (h16 : 16 ≤ op) (hop : op ≤ 25) : F_Vf_rowBehindThing 120 (Int32.ofNat op) (Int32.ofNat k) (encO (some l)) σ = some (encO (Tr im m op k (some l)), σ) := by
  rw [r_thing0 (l := l) (m := m) (op := op) h hm hk hl hV hW]
  have g0 : GO (some l) := fun x e => by cases e; exact hl
  have hM := d_Mc h hm
  have tl := lty_lt (k := k) h hm
  have ta := aty_lt (k := k) h hm
  have tf := fty_lt (k := k) h
  have tp := plc_lt (lty im m k)
  have tp2 := plc_lt (fty im k)
  have to := obj_lt (k := k) h
  have tn := nuT_lt (k := k) h
  have te := neT_lt (k := k) h
  have hI := h.2.1
  obtain ⟨hnc, hnc4⟩ := IC_nc h
  have an := nul_raw hnc hnc4 hk
  have ah := has_raw hnc hnc4 hk
  have ap := a_plc (t := fty im k) (by omega) σ
  obtain rfl | rfl | rfl | rfl | rfl | rfl | rfl | rfl | rfl | rfl : op = 16 ∨ op = 17 ∨ op = 18 ∨ op = 19 ∨ op = 20 ∨ op = 21 ∨ op = 22 ∨ op = 23 ∨ op = 24 ∨ op = 25 := by omega
  · have f1 := f_with (o := (some l)) (t := nuT im k) g0 (by omega) σ
    have g1 := GO_wth (t := nuT im k) g0 (by omega)
    by_cases c : k = 4 ∨ k = 5 ∨ (8 ≤ k ∧ k < 8 + im 0 0)
    · have e : nuT im k = k := by unfold nuT; rw [if_pos c]
      rw [decide_eq_true c] at an
      rw [e] at f1
      simp (disch := omega) only [an, e, F_Vf_rowBehindThing_25, F_Vf_rowBehindThing_101, F_Vf_rowBehindThing_125, hV, hW, hM, hI, lit32, n_eq, if_pos, if_neg, n_add, ap, f1, Tr, true_or, or_true, or_self, or_false, false_or, Nat.reduceEqDiff, ite_true, ite_false, if_true, if_false, Bool.false_eq_true, and_self, and_true, true_and, and_false, false_and]
    · have e : nuT im k = 0 := by unfold nuT; rw [if_neg c]
      rw [decide_eq_false c] at an
      rw [e] at f1
      simp (disch := omega) only [an, e, F_Vf_rowBehindThing_25, F_Vf_rowBehindThing_101, F_Vf_rowBehindThing_125, hV, hW, hM, hI, lit32, n_eq, if_pos, if_neg, n_add, ap, f1, Tr, true_or, or_true, or_self, or_false, false_or, Nat.reduceEqDiff, ite_true, ite_false, if_true, if_false, Bool.false_eq_true, and_self, and_true, true_and, and_false, false_and]
  · have f1 := f_with (o := (some l)) (t := neT im k) g0 (by omega) σ
    have g1 := GO_wth (t := neT im k) g0 (by omega)
    by_cases c : k < im 0 0
    · have e : neT im k = 8 + k := by unfold neT; rw [if_pos c]
      rw [decide_eq_true c] at ah
      rw [e] at f1
      simp (disch := omega) only [ah, e, F_Vf_rowBehindThing_25, F_Vf_rowBehindThing_101, F_Vf_rowBehindThing_125, hV, hW, hM, hI, lit32, n_eq, if_pos, if_neg, n_add, ap, f1, Tr, true_or, or_true, or_self, or_false, false_or, Nat.reduceEqDiff, ite_true, ite_false, if_true, if_false, Bool.false_eq_true, and_self, and_true, true_and, and_false, false_and]
    · have e : neT im k = 0 := by unfold neT; rw [if_neg c]
      rw [decide_eq_false c] at ah
      rw [e] at f1
      simp (disch := omega) only [ah, e, F_Vf_rowBehindThing_25, F_Vf_rowBehindThing_101, F_Vf_rowBehindThing_125, hV, hW, hM, hI, lit32, n_eq, if_pos, if_neg, n_add, ap, f1, Tr, true_or, or_true, or_self, or_false, false_or, Nat.reduceEqDiff, ite_true, ite_false, if_true, if_false, Bool.false_eq_true, and_self, and_true, true_and, and_false, false_and]
  · have f1 := f_without (o := (some l)) (t := obj im k) g0 (by omega) σ
    have g1 := GO_wot (t := obj im k) g0
    have f2 := f_with (o := ((some l).bind (wot (obj im k)))) (t := fty im k) g1 (by omega) σ
    have g2 := GO_wth (t := fty im k) g1 (by omega)
    simp (disch := omega) only [F_Vf_rowBehindThing_25, F_Vf_rowBehindThing_101, F_Vf_rowBehindThing_125, hV, hW, hM, hI, lit32, n_eq, if_pos, if_neg, n_add, ap, f1, f2, Tr, true_or, or_true, or_self, or_false, false_or, Nat.reduceEqDiff, ite_true, ite_false, if_true, if_false, Bool.false_eq_true, and_self, and_true, true_and, and_false, false_and]
  · have f1 := f_without (o := (some l)) (t := fty im k) g0 (by omega) σ
    have g1 := GO_wot (t := fty im k) g0
    have f2 := f_without (o := ((some l).bind (wot (fty im k)))) (t := obj im k) g1 (by omega) σ
    have g2 := GO_wot (t := obj im k) g1
    simp (disch := omega) only [F_Vf_rowBehindThing_25, F_Vf_rowBehindThing_101, F_Vf_rowBehindThing_125, hV, hW, hM, hI, lit32, n_eq, if_pos, if_neg, n_add, ap, f1, f2, Tr, true_or, or_true, or_self, or_false, false_or, Nat.reduceEqDiff, ite_true, ite_false, if_true, if_false, Bool.false_eq_true, and_self, and_true, true_and, and_false, false_and]
  · have f1 := f_without (o := (some l)) (t := obj im k) g0 (by omega) σ
    have g1 := GO_wot (t := obj im k) g0
    have f2 := f_with (o := ((some l).bind (wot (obj im k)))) (t := plc (fty im k)) g1 (by omega) σ
    have g2 := GO_wth (t := plc (fty im k)) g1 (by omega)
    simp (disch := omega) only [F_Vf_rowBehindThing_25, F_Vf_rowBehindThing_101, F_Vf_rowBehindThing_125, hV, hW, hM, hI, lit32, n_eq, if_pos, if_neg, n_add, ap, f1, f2, Tr, true_or, or_true, or_self, or_false, false_or, Nat.reduceEqDiff, ite_true, ite_false, if_true, if_false, Bool.false_eq_true, and_self, and_true, true_and, and_false, false_and]
  · have f1 := wn1 (o := (some l)) g0 σ
    have g10 := GO_wot (t := 1) g0
    have f2 := f_with (o := ((some l).bind (wot 1))) (t := 4) g10 (by omega) σ
    have g2 := GO_wth (t := 4) g10 (by omega)
    simp (disch := omega) only [F_Vf_rowBehindThing_25, F_Vf_rowBehindThing_101, F_Vf_rowBehindThing_125, hV, hW, hM, hI, lit32, n_eq, if_pos, if_neg, n_add, ap, f1, f2, Tr, true_or, or_true, or_self, or_false, false_or, Nat.reduceEqDiff, ite_true, ite_false, if_true, if_false, Bool.false_eq_true, and_self, and_true, true_and, and_false, false_and]
  · have f1 := wn1 (o := (some l)) g0 σ
    have g10 := GO_wot (t := 1) g0
    have f2 := f_without (o := ((some l).bind (wot 1))) (t := 4) g10 (by omega) σ
    have g2 := GO_wot (t := 4) g10
    have f3 := f_with (o := (((some l).bind (wot 1)).bind (wot (4)))) (t := 1) g2 (by omega) σ
    have g3 := GO_wth (t := 1) g2 (by omega)
    simp (disch := omega) only [F_Vf_rowBehindThing_25, F_Vf_rowBehindThing_101, F_Vf_rowBehindThing_125, hV, hW, hM, hI, lit32, n_eq, if_pos, if_neg, n_add, ap, f1, f2, f3, Tr, true_or, or_true, or_self, or_false, false_or, Nat.reduceEqDiff, ite_true, ite_false, if_true, if_false, Bool.false_eq_true, and_self, and_true, true_and, and_false, false_and]
  · have f1 := wn2 (o := (some l)) g0 σ
    have g10 := GO_wot (t := 1) g0
    have g11 := GO_wot (t := 1) g10
    have f2 := f_without (o := (((some l).bind (wot 1)).bind (wot 1))) (t := 4) g11 (by omega) σ
    have g2 := GO_wot (t := 4) g11
    simp (disch := omega) only [F_Vf_rowBehindThing_25, F_Vf_rowBehindThing_101, F_Vf_rowBehindThing_125, hV, hW, hM, hI, lit32, n_eq, if_pos, if_neg, n_add, ap, f1, f2, Tr, true_or, or_true, or_self, or_false, false_or, Nat.reduceEqDiff, ite_true, ite_false, if_true, if_false, Bool.false_eq_true, and_self, and_true, true_and, and_false, false_and]
  · have f1 := wn1 (o := (some l)) g0 σ
    have g10 := GO_wot (t := 1) g0
    have f2 := f_without (o := ((some l).bind (wot 1))) (t := 4) g10 (by omega) σ
    have g2 := GO_wot (t := 4) g10
    have f3 := f_with (o := (((some l).bind (wot 1)).bind (wot (4)))) (t := 3) g2 (by omega) σ
    have g3 := GO_wth (t := 3) g2 (by omega)
    simp (disch := omega) only [F_Vf_rowBehindThing_25, F_Vf_rowBehindThing_101, F_Vf_rowBehindThing_125, hV, hW, hM, hI, lit32, n_eq, if_pos, if_neg, n_add, ap, f1, f2, f3, Tr, true_or, or_true, or_self, or_false, false_or, Nat.reduceEqDiff, ite_true, ite_false, if_true, if_false, Bool.false_eq_true, and_self, and_true, true_and, and_false, false_and]
  · have f1 := f_without (o := (some l)) (t := 4) g0 (by omega) σ
    have g1 := GO_wot (t := 4) g0
    have f2 := f_with (o := ((some l).bind (wot (4)))) (t := 1) g1 (by omega) σ
    have g2 := GO_wth (t := 1) g1 (by omega)
    simp (disch := omega) only [F_Vf_rowBehindThing_25, F_Vf_rowBehindThing_101, F_Vf_rowBehindThing_125, hV, hW, hM, hI, lit32, n_eq, if_pos, if_neg, n_add, ap, f1, f2, Tr, true_or, or_true, or_self, or_false, false_or, Nat.reduceEqDiff, ite_true, ite_false, if_true, if_false, Bool.false_eq_true, and_self, and_true, true_and, and_false, false_and]
theorem r_value {σ : SG} {im : Im} {m k op : Nat} {l : List Nat} (hl : Gr l) (h26 : 26 ≤ op) (hop : op ≤ 32) : F_Vf_rowBehindValue (Int32.ofNat op) (encO (some l)) σ = some (encO (Tr im m op k (some l)), σ) := by
  have g0 : GO (some l) := fun x e => by cases e; exact hl
  obtain rfl | rfl | rfl | rfl | rfl | rfl | rfl : op = 26 ∨ op = 27 ∨ op = 28 ∨ op = 29 ∨ op = 30 ∨ op = 31 ∨ op = 32 := by omega
  · have f1 := f_without (o := (some l)) (t := 3) g0 (by omega) σ
    have g1 := GO_wot (t := 3) g0
    have f2 := f_with (o := ((some l).bind (wot (3)))) (t := 1) g1 (by omega) σ
    have g2 := GO_wth (t := 1) g1 (by omega)
    simp (disch := omega) only [F_Vf_rowBehindValue, F_Vf_rowBehindValue_74, lit32, n_eq, if_pos, if_neg, f1, f2, Tr, true_or, or_true, or_self, or_false, false_or, Nat.reduceEqDiff, ite_true, ite_false, if_true, if_false, Bool.false_eq_true, and_self, and_true, true_and, and_false, false_and]
  · have f1 := wn1 (o := (some l)) g0 σ
    have g10 := GO_wot (t := 1) g0
    have f2 := f_without (o := ((some l).bind (wot 1))) (t := 3) g10 (by omega) σ
    have g2 := GO_wot (t := 3) g10
    simp (disch := omega) only [F_Vf_rowBehindValue, F_Vf_rowBehindValue_74, lit32, n_eq, if_pos, if_neg, f1, f2, Tr, true_or, or_true, or_self, or_false, false_or, Nat.reduceEqDiff, ite_true, ite_false, if_true, if_false, Bool.false_eq_true, and_self, and_true, true_and, and_false, false_and]
  · have f1 := wn2 (o := (some l)) g0 σ
    have g10 := GO_wot (t := 1) g0
    have g11 := GO_wot (t := 1) g10
    have f2 := f_with (o := (((some l).bind (wot 1)).bind (wot 1))) (t := 2) g11 (by omega) σ
    have g2 := GO_wth (t := 2) g11 (by omega)
    simp (disch := omega) only [F_Vf_rowBehindValue, F_Vf_rowBehindValue_74, lit32, n_eq, if_pos, if_neg, f1, f2, Tr, true_or, or_true, or_self, or_false, false_or, Nat.reduceEqDiff, ite_true, ite_false, if_true, if_false, Bool.false_eq_true, and_self, and_true, true_and, and_false, false_and]
  · have f1 := f_without (o := (some l)) (t := 2) g0 (by omega) σ
    have g1 := GO_wot (t := 2) g0
    have f2 := f_with (o := ((some l).bind (wot (2)))) (t := 1) g1 (by omega) σ
    have g2 := GO_wth (t := 1) g1 (by omega)
    simp (disch := omega) only [F_Vf_rowBehindValue, F_Vf_rowBehindValue_74, lit32, n_eq, if_pos, if_neg, f1, f2, Tr, true_or, or_true, or_self, or_false, false_or, Nat.reduceEqDiff, ite_true, ite_false, if_true, if_false, Bool.false_eq_true, and_self, and_true, true_and, and_false, false_and]
  · have f1 := f_without (o := (some l)) (t := 2) g0 (by omega) σ
    have g1 := GO_wot (t := 2) g0
    have f2 := f_with (o := ((some l).bind (wot (2)))) (t := 1) g1 (by omega) σ
    have g2 := GO_wth (t := 1) g1 (by omega)
    simp (disch := omega) only [F_Vf_rowBehindValue, F_Vf_rowBehindValue_74, lit32, n_eq, if_pos, if_neg, f1, f2, Tr, true_or, or_true, or_self, or_false, false_or, Nat.reduceEqDiff, ite_true, ite_false, if_true, if_false, Bool.false_eq_true, and_self, and_true, true_and, and_false, false_and]
  · have f1 := f_without (o := (some l)) (t := 2) g0 (by omega) σ
    have g1 := GO_wot (t := 2) g0
    have f2 := f_with (o := ((some l).bind (wot (2)))) (t := 5) g1 (by omega) σ
    have g2 := GO_wth (t := 5) g1 (by omega)
    simp (disch := omega) only [F_Vf_rowBehindValue, F_Vf_rowBehindValue_74, lit32, n_eq, if_pos, if_neg, f1, f2, Tr, true_or, or_true, or_self, or_false, false_or, Nat.reduceEqDiff, ite_true, ite_false, if_true, if_false, Bool.false_eq_true, and_self, and_true, true_and, and_false, false_and]
  · have f1 := f_without (o := (some l)) (t := 5) g0 (by omega) σ
    have g1 := GO_wot (t := 5) g0
    have f2 := f_with (o := ((some l).bind (wot (5)))) (t := 2) g1 (by omega) σ
    have g2 := GO_wth (t := 2) g1 (by omega)
    simp (disch := omega) only [F_Vf_rowBehindValue, F_Vf_rowBehindValue_74, lit32, n_eq, if_pos, if_neg, f1, f2, Tr, true_or, or_true, or_self, or_false, false_or, Nat.reduceEqDiff, ite_true, ite_false, if_true, if_false, Bool.false_eq_true, and_self, and_true, true_and, and_false, false_and]
/-- a call's row -/
theorem popA_GO {im : Im} {k : Nat} : ∀ i (o : Option (List Nat)), GO o → GO (popA im k i o)
  | 0, _, h => h
  | i + 1, _, h => popA_GO i _ (GO_wot h)
theorem r_call_l {σ : SG} {IA : Nat} {im : Im} {k : Nat} (h : ImC σ IA im) (hk : k < im 0 1) : ∀ (i fuel : Nat) (o : Option (List Nat)), i ≤ im 5 k → i < fuel → GO o → F_Vf_rowBehindCall_41 fuel (some (IA + 4 + 9 * k)) (encO o) (Int32.ofNat i - Int32.ofNat 1) σ = some (encO (if im 4 k = 0 then popA im k i o else (popA im k i o).bind (wth (im 4 k))), σ) := by
  have hM := d_Mc h hk
  obtain ⟨hr, -⟩ := IC_res h hk
  have hr2 := res_lt h hk
  obtain ⟨ha, ha3⟩ := IC_ac h hk
  intro i
  induction i with
  | zero =>
    intro fuel o hi hf ho
    obtain ⟨fuel, rfl⟩ : ∃ x, fuel = x + 1 := ⟨fuel - 1, by omega⟩
    have hneg : Int32.ofNat 0 - Int32.ofNat 1 < Int32.ofNat 0 := by decide
    by_cases c : im 4 k = 0
    · simp (disch := omega) only [F_Vf_rowBehindCall_41, F_Vf_rowBehindCall_87, lit32, hneg, if_pos, hM, hr, n_eq, c, popA, ite_true, ite_false, if_true, if_false, Bool.false_eq_true, and_self, and_true, true_and, and_false, false_and]
    · have f1 := f_with (t := im 4 k) ho (by omega) σ
      simp (disch := omega) only [F_Vf_rowBehindCall_41, F_Vf_rowBehindCall_87, lit32, hneg, if_pos, hM, hr, n_eq, if_neg, f1, popA, ite_true, ite_false, if_true, if_false, Bool.false_eq_true, and_self, and_true, true_and, and_false, false_and]
  | succ i ih =>
    intro fuel o hi hf ho
    obtain ⟨fuel, rfl⟩ : ∃ x, fuel = x + 1 := ⟨fuel - 1, by omega⟩
    obtain ⟨h3, h4⟩ := IC_at (i := i) h hk (by omega)
    have h5 := tyP_lt h4 (IC_nc h).2
    have f1 := f_without (t := im 6 (3 * k + i)) ho (by omega) σ
    have h6 := ih fuel _ (by omega) (by omega) (GO_wot (t := im 6 (3 * k + i)) ho)
    have e : Int32.ofNat i + -Int32.ofNat 1 = Int32.ofNat i - Int32.ofNat 1 := Int32.add_neg_eq_sub
    simp (disch := omega) only [F_Vf_rowBehindCall_41, lit32, n_sub (show 1 ≤ i + 1 by omega), Nat.add_sub_cancel, n_nl0, n_cl, false_or, if_neg, if_pos, hM, cM5 hM, h3, f1, e, h6, popA, ite_true, ite_false, if_true, if_false, Bool.false_eq_true, and_self, and_true, true_and, and_false, false_and]
theorem r_call {σ : SG} {IA : Nat} {im : Im} {m k : Nat} {l : List Nat} (h : ImC σ IA im) (hm : m < im 0 1) (hk : k < 256) (hl : Gr l) (hV : σ.2.2.1 120 0 = IA) (hW : σ.2.2.1 120 1 = IA + 4 + 9 * m) :
    F_Vf_rowBehindCall 120 (Int32.ofNat k) (encO (some l)) σ = some (encO (callT im k (some l)), if k < im 0 1 then setI σ (IA + 4 + 9 * m) 11 (σ.1 (IA + 4 + 9 * m) 11 ||| (Int32.ofNat 1 <<< (Int32.ofNat k &&& Int32.ofNat 31))) else σ) := by
  have g0 : GO (some l) := fun x e => by cases e; exact hl
  have hM := d_Mc h hm
  have hI := h.2.1
  have am := a_meth (k := k) h (by omega)
  by_cases c : k < im 0 1
  · rw [if_pos c] at am
    have hK := d_Mc h c
    generalize hv : (σ.1 (IA + 4 + 9 * m) 11 ||| (Int32.ofNat 1 <<< (Int32.ofNat k &&& Int32.ofNat 31))) = v
    have h' : ImC (setI σ (IA + 4 + 9 * m) 11 v) IA im := by
      refine ImC_congr h (fun x f hf _ _ => ?_) (fun _ _ _ _ _ => rfl)
      rw [rI, if_neg (by omega)]
    obtain ⟨ha, ha3⟩ := IC_ac h' c
    have h2 := r_call_l h' c (im 5 k) 5000 (some l) (by omega) (by omega) g0
    simp (disch := omega) only [F_Vf_rowBehindCall, hV, hW, hI, hM, hK, am, lit32, if_pos, stl_e, hv, ha, h2, callT, ite_true, ite_false, if_true, if_false, Bool.false_eq_true, and_self, and_true, true_and, and_false, false_and]
  · rw [if_neg c] at am
    simp (disch := omega) only [F_Vf_rowBehindCall, hV, hI, am, lit32, if_pos, if_neg, callT, encO, ite_true, ite_false, if_true, if_false, Bool.false_eq_true, and_self, and_true, true_and, and_false, false_and]
theorem r_flow {σ : SG} {IA : Nat} {im : Im} {m k op : Nat} {l : List Nat} (h : ImC σ IA im) (hm : m < im 0 1) (hk : k < 256) (hl : Gr l) (hV : σ.2.2.1 120 0 = IA) (hW : σ.2.2.1 120 1 = IA + 4 + 9 * m) (h33 : 33 ≤ op) (hop : op ≤ 255) :
    F_Vf_rowBehindFlow 120 (Int32.ofNat op) (Int32.ofNat k) (encO (some l)) σ = some (encO (Tr im m op k (some l)), if op = 33 ∧ k < im 0 1 then setI σ (IA + 4 + 9 * m) 11 (σ.1 (IA + 4 + 9 * m) 11 ||| (Int32.ofNat 1 <<< (Int32.ofNat k &&& Int32.ofNat 31))) else σ) := by
  have g0 : GO (some l) := fun x e => by cases e; exact hl
  have hM := d_Mc h hm
  obtain ⟨hr, -⟩ := IC_res h hm
  have hr2 := res_lt h hm
  by_cases c : op = 33
  · subst c
    have hc := r_call h hm hk hl hV hW
    simp (disch := omega) only [F_Vf_rowBehindFlow, lit32, if_pos, hc, Tr, if_neg, ite_true, ite_false, if_true, if_false, Bool.false_eq_true, and_self, and_true, true_and, and_false, false_and]
  · rw [if_neg (fun z => c z.1)]
    by_cases c4 : op = 34
    · subst c4
      by_cases c0 : im 4 m = 0
      · simp (disch := omega) only [F_Vf_rowBehindFlow, F_Vf_rowBehindFlow_60, lit32, n_eq, if_pos, if_neg, hW, hM, hr, Tr, c0, ite_true, ite_false, if_true, if_false, Bool.false_eq_true, and_self, and_true, true_and, and_false, false_and]
      · have f1 := f_without (t := im 4 m) g0 (by omega) σ
        simp (disch := omega) only [F_Vf_rowBehindFlow, F_Vf_rowBehindFlow_60, lit32, n_eq, if_pos, if_neg, hW, hM, hr, Tr, f1, ite_true, ite_false, if_true, if_false, Bool.false_eq_true, and_self, and_true, true_and, and_false, false_and]
    · by_cases c5 : op = 35
      · subst c5
        have f1 := wn1 (o := some l) g0 σ
        simp (disch := omega) only [F_Vf_rowBehindFlow, lit32, n_eq, if_pos, if_neg, f1, Tr, ite_true, ite_false, if_true, if_false, Bool.false_eq_true, and_self, and_true, true_and, and_false, false_and]
      · simp (disch := omega) only [F_Vf_rowBehindFlow, lit32, n_eq, if_neg, Tr, ite_true, ite_false, if_true, if_false, Bool.false_eq_true, and_self, and_true, true_and, and_false, false_and]
