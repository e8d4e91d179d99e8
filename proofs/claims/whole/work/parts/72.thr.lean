/-! The way of what is thrown. -/
theorem hs_l {im : Im} {IA m f fr : Nat} {σc σm : SG} {e p : Int32} (h : ImC σc IA im) (hw : WfI im) (hM : RepM σm im) (hm : m < im 0 1) (hf : f < 8) (hP : σc.2.2.1 (125 + 6 * f) 1 = IA + 4 + 9 * m) (hfr : fr < 100) : ∀ c i, i + c = im 9 m →
    (∃ r, i ≤ r ∧ r < im 9 m ∧ iP im m r fr ∧ (∀ n, c < n → ∃ n', F_Ru_handle_3 n 123 (125 + 6 * f) (Int32.ofNat fr) (Int32.ofNat i) σc = F_Ru_handle_3 (n' + 1) 123 (125 + 6 * f) (Int32.ofNat fr) (Int32.ofNat r) σc) ∧ ∀ rec n, c < n → F_Mo_raiseBehind_39 rec n 0 e p (Int32.ofNat fr) (Int32.ofNat i) (Int32.ofNat f) (Int32.ofNat m) σm = F_Mo_raiseBehind_73 rec 0 e p (Int32.ofNat fr) (Int32.ofNat r) (Int32.ofNat f) (Int32.ofNat m) σm) ∨
    ((∀ n, c < n → F_Ru_handle_3 n 123 (125 + 6 * f) (Int32.ofNat fr) (Int32.ofNat i) σc = some (false, σc)) ∧ ∀ rec n, c < n → F_Mo_raiseBehind_39 rec n 0 e p (Int32.ofNat fr) (Int32.ofNat i) (Int32.ofNat f) (Int32.ofNat m) σm = F_Mo_raiseBehind_73 rec 0 e p (Int32.ofNat fr) (Int32.ofNat (im 9 m)) (Int32.ofNat f) (Int32.ofNat m) σm) := by
  have hMc := d_Mc h hm
  obtain ⟨h1, h2⟩ := IC_rc h hm
  have h6 := (wf_m hw hm).1
  have m9 := hM.2.2.2 9 m (by omega) (by omega)
  have hfi : (Int32.ofNat fr).toInt = (fr : Int) := n_int (by omega)
  intro c
  induction c with
  | zero =>
    intro i hi
    have ei : i = im 9 m := by omega
    refine Or.inr ⟨fun n hn => ?_, fun rec n hn => ?_⟩
    · obtain ⟨n, rfl⟩ : ∃ x, n = x + 1 := ⟨n - 1, by omega⟩
      simp (disch := omega) only [F_Ru_handle_3, hP, hMc, if_pos, h1, n_le, ite_true, ite_false, if_true, if_false, Bool.false_eq_true, and_self, and_true, true_and, and_false, false_and]
    · obtain ⟨n, rfl⟩ : ∃ x, n = x + 1 := ⟨n - 1, by omega⟩
      rw [ei]
      simp (disch := omega) only [F_Mo_raiseBehind_39, n_nl0, n_cl, false_or, if_neg, cm_13, m9, n_le, if_pos, lit32, ite_true, ite_false, if_true, if_false, Bool.false_eq_true, and_self, and_true, true_and, and_false, false_and]
  | succ c ih =>
    intro i hi
    obtain ⟨b, e1, e2⟩ := a_keeps (r := i) h hm (by omega) hfi
    obtain ⟨b', e3, e4⟩ := m_inPart (r := i) hw hm hM (by omega) hfi
    have ebb : b' = b := Bool.eq_iff_iff.mpr (e4.trans e2.symm)
    subst ebb
    cases b' with
    | true =>
      refine Or.inl ⟨i, Nat.le_refl _, by omega, e2.mp rfl, fun n hn => ⟨n - 1, by rw [show n - 1 + 1 = n by omega]⟩, fun rec n hn => ?_⟩
      obtain ⟨n, rfl⟩ : ∃ x, n = x + 1 := ⟨n - 1, by omega⟩
      simp (disch := omega) only [F_Mo_raiseBehind_39, n_nl0, n_cl, false_or, if_neg, cm_13, m9, n_le, lit32, n_mul, n_add, e3, if_pos, ite_true, ite_false, if_true, if_false, Bool.false_eq_true, and_self, and_true, true_and, and_false, false_and]
    | false =>
      have hc1 : ∀ n, F_Ru_handle_3 (n + 1) 123 (125 + 6 * f) (Int32.ofNat fr) (Int32.ofNat i) σc = F_Ru_handle_3 n 123 (125 + 6 * f) (Int32.ofNat fr) (Int32.ofNat (i + 1)) σc := fun n => by
        simp (disch := omega) only [F_Ru_handle_3, hP, hMc, if_pos, h1, n_le, if_neg, n_nl0, n_cl, false_or, cM7 hMc, cMr hMc, e1, lit32, n_add, ite_true, ite_false, if_true, if_false, Bool.false_eq_true, and_self, and_true, true_and, and_false, false_and]
      have hm1 : ∀ rec n, F_Mo_raiseBehind_39 rec (n + 1) 0 e p (Int32.ofNat fr) (Int32.ofNat i) (Int32.ofNat f) (Int32.ofNat m) σm = F_Mo_raiseBehind_39 rec n 0 e p (Int32.ofNat fr) (Int32.ofNat (i + 1)) (Int32.ofNat f) (Int32.ofNat m) σm := fun rec n => by
        simp (disch := omega) only [F_Mo_raiseBehind_39, n_nl0, n_cl, false_or, if_neg, cm_13, m9, n_le, lit32, n_mul, n_add, e3, ite_true, ite_false, if_true, if_false, Bool.false_eq_true, and_self, and_true, true_and, and_false, false_and]
      rcases ih (i + 1) (by omega) with ⟨r, g1, g2, g3, g4, g5⟩ | ⟨g1, g2⟩
      · refine Or.inl ⟨r, by omega, g2, g3, fun n hn => ?_, fun rec n hn => ?_⟩
        · obtain ⟨n, rfl⟩ : ∃ x, n = x + 1 := ⟨n - 1, by omega⟩
          rw [hc1]; exact g4 n (by omega)
        · obtain ⟨n, rfl⟩ : ∃ x, n = x + 1 := ⟨n - 1, by omega⟩
          rw [hm1]; exact g5 rec n (by omega)
      · refine Or.inr ⟨fun n hn => ?_, fun rec n hn => ?_⟩
        · obtain ⟨n, rfl⟩ : ∃ x, n = x + 1 := ⟨n - 1, by omega⟩
          rw [hc1]; exact g1 n (by omega)
        · obtain ⟨n, rfl⟩ : ∃ x, n = x + 1 := ⟨n - 1, by omega⟩
          rw [hm1]; exact g2 rec n (by omega)
theorem Fg_I {im : Im} {IA f : Nat} {K : Nat → Prop} {σ σ1 : SG} (h : ImC σ IA im) (hg : Fg f K σ σ1) : ImC σ1 IA im := by
  have hIA := h.1
  exact ImC_congr h (fun x f _ _ _ => by rw [hg.1]) (fun x g _ _ _ => hg.2.2.2.2.1 x g (by omega))
theorem Rch_mid {im : Im} {m r p : Nat} {R : RQ} {l : List Nat} (hC : Clo im m R) (hR : R p = some l) (hr : r < im 9 m) (hp : iP im m r p) : R (im 11 (3 * m + r)) = some (hRow im m r) ∧ Beg im m (im 11 (3 * m + r)) := by
  obtain ⟨q, q1, q2, -, q4⟩ := (hC.2 p l hR).2.2.1 r hr hp
  have : q = im 11 (3 * m + r) := by omega
  rw [← this]
  exact ⟨q4, q2⟩
theorem th_one {im : Im} {IA A : Nat} {ms ps : Nat → Nat} {ls : Nat → List Nat} {T : Nat → Nat} {md : Nat} {σc σm : SG} {σca σma : SG} {e : Int32} {fr r0 : Nat} {R : RQ} {l : List Nat} (h : Md im IA A ms ps ls T md σc σm) (hc : Ucg (A - 1) σc σca) (hm : Umg (A - 1) σm σma) (he : ∀ k, k < 18 → σca.2.2.2.1 175 k = σma.2.2.2.1 31 k) (hz : EnZ im σca) (hC : Clo im (ms (A - 1)) R) (hR : R (ps (A - 1)) = some l) (h6 : σca.1 123 6 = e) (hfr : fr < 100) (hr0 : r0 ≤ im 9 (ms (A - 1)))
    (hg : ∀ r, r0 ≤ r → r < im 9 (ms (A - 1)) → iP im (ms (A - 1)) r fr → iP im (ms (A - 1)) r (ps (A - 1))) (hPn : ∀ q, r0 ≤ q → q < im 9 (ms (A - 1)) → isF im (ms (A - 1)) q → iH im (ms (A - 1)) q (ps (A - 1)) → PnB im σca σma (A - 1) (ms (A - 1)) q) :
    (∃ r σc1 σm1, r < im 9 (ms (A - 1)) ∧ iP im (ms (A - 1)) r (ps (A - 1)) ∧ F_Ru_handle 123 (125 + 6 * (A - 1)) (Int32.ofNat fr) (Int32.ofNat r0) σca = some (true, σc1) ∧ (∀ rec, F_Mo_raiseBehind_39 rec 5000 0 e (Int32.ofNat (ps (A - 1))) (Int32.ofNat fr) (Int32.ofNat r0) (Int32.ofNat (A - 1)) (Int32.ofNat (ms (A - 1))) σma = some σm1) ∧ Md im IA A ms (upp ps (A - 1) (im 11 (3 * ms (A - 1) + r))) (upl ls (A - 1) (hRow im (ms (A - 1)) r)) T md σc1 σm1 ∧ Ucg (A - 1) σca σc1 ∧ Umg (A - 1) σma σm1 ∧ σm1.2.2.2.1 21 (A - 1) = Int32.ofNat (im 11 (3 * ms (A - 1) + r)) ∧ (∀ g, σc1.1 123 g = σca.1 123 g) ∧ σm1.1 = σma.1 ∧ EnZ im σc1) ∨
    (F_Ru_handle 123 (125 + 6 * (A - 1)) (Int32.ofNat fr) (Int32.ofNat r0) σca = some (false, σca) ∧ ∀ rec, F_Mo_raiseBehind_39 rec 5000 0 e (Int32.ofNat (ps (A - 1))) (Int32.ofNat fr) (Int32.ofNat r0) (Int32.ofNat (A - 1)) (Int32.ofNat (ms (A - 1))) σma = F_Mo_raiseBehind_73 rec 0 e (Int32.ofNat (ps (A - 1))) (Int32.ofNat fr) (Int32.ofNat (im 9 (ms (A - 1)))) (Int32.ofNat (A - 1)) (Int32.ofNat (ms (A - 1))) σma) := by
  obtain ⟨⟨a1, a2, a3⟩, b0, -, -, e', -, -⟩ := id h
  obtain ⟨f1, f2, f3, f4, f5, f6, f7, f8, f9, -⟩ := e' (A - 1) (by omega)
  have hI := Img_congr b0 (Ucg_W hc) (Umg_W hm)
  have w := wf_m hI.2.2.1 f1
  have h9 := w.2.2.2.2.2.2.1
  have hm6 := w.1
  have hP : σca.2.2.1 (125 + 6 * (A - 1)) 1 = IA + 4 + 9 * ms (A - 1) := by rw [hc.1]; exact f3
  have hN : σca.1 (125 + 6 * (A - 1)) 2 = Int32.ofNat (ms (A - 1)) := by rw [hc.2.1 _ _ (by omega) (by omega)]; exact f4
  have h20 : σma.2.2.2.1 20 (A - 1) = Int32.ofNat (ms (A - 1)) := by rw [hm.2.2 _ _ (by omega) (by omega) (by omega) (by omega)]; exact f9
  have hfi : (Int32.ofNat fr).toInt = (fr : Int) := n_int (by omega)
  have hpi : (Int32.ofNat (ps (A - 1))).toInt = (ps (A - 1) : Int) := n_int (by omega)
  have hMc := d_Mc hI.1 f1
  have hIA := hI.1.1
  rcases hs_l (e := e) (p := Int32.ofNat (ps (A - 1))) hI.1 hI.2.2.1 hI.2.1 f1 (show A - 1 < 8 by omega) hP hfr (im 9 (ms (A - 1)) - r0) r0 (by omega) with ⟨r, g1, g2, g3, g4, g5⟩ | ⟨g1, g2⟩
  · left
    obtain ⟨n', g4⟩ := g4 5000 (by omega)
    have hip := hg r g1 g2 g3
    obtain ⟨hR2, hB2⟩ := Rch_mid hC hR g2 hip
    have h100 : im 11 (3 * ms (A - 1) + r) < 100 := by have := hB2.1; have := w.2.2.2.2.2.2.2.2.2.1; omega
    have hmi : (Int32.ofNat (im 11 (3 * ms (A - 1) + r))).toInt = ((im 11 (3 * ms (A - 1) + r) : Nat) : Int) := n_int (by omega)
    obtain ⟨σcb, k1, k2⟩ := c_forget hI.1 f1 (show A - 1 < 8 by omega) hP hfi hmi
    obtain ⟨σmb, k3, k4⟩ := m_drop hI.2.2.1 f1 hI.2.1 (show A - 1 < 8 by omega) h20 hpi hmi
    have hIb := Fg_I hI.1 k2
    have hrg := IC_rg hI.1 f1 g2
    have hen : F_Ru_enter 123 (125 + 6 * (A - 1)) (Int32.ofNat r) σcb = some (enS im (ms (A - 1)) (A - 1) r σcb) := c_enter hIb f1 (by omega) g2 (by rw [k2.2.2.1]; exact hP) (by rw [k2.1]; exact hN)
    have hfin : (enS im (ms (A - 1)) (A - 1) r σcb).1 (IA + 4 + 9 * ms (A - 1) + 4 + r) 3 = Int32.ofNat (im 13 (3 * ms (A - 1) + r)) := by
      show (setI (setI σcb (125 + 6 * (A - 1)) 4 (Int32.ofNat 0)) (125 + 6 * (A - 1)) 3 _).1 _ _ = _
      rw [rI, if_neg (by omega), rI, if_neg (by omega), k2.1]; exact hrg.2.2.2.1
    have hth : (enS im (ms (A - 1)) (A - 1) r σcb).1 123 6 = e := by
      show (setI (setI σcb (125 + 6 * (A - 1)) 4 (Int32.ofNat 0)) (125 + 6 * (A - 1)) 3 _).1 _ _ = _
      rw [rI, if_neg (by omega), rI, if_neg (by omega), k2.1]; exact h6
    have hphc : ∀ g, (enS im (ms (A - 1)) (A - 1) r σcb).1 123 g = σca.1 123 g := fun g => by
      show (setI (setI σcb (125 + 6 * (A - 1)) 4 (Int32.ofNat 0)) (125 + 6 * (A - 1)) 3 _).1 _ _ = _
      rw [rI, if_neg (by omega), rI, if_neg (by omega), k2.1]
    obtain ⟨bk, hk1, hk2⟩ := a_keeps hI.1 f1 g2 hfi
    have ebk : bk = true := hk2.mpr g3
    subst ebk
    have hrc := (IC_rc hI.1 f1).1
    obtain ⟨hh1, hh2⟩ := m_hand (kd := Int32.ofNat 1) (e := e) (o := Int32.ofNat fr) hI.2.2.1 f1 hI.2.1 (show A - 1 < 8 by omega) g2 h20 k3 k4
    have m9 := hI.2.1.2.2.2 9 (ms (A - 1)) (by omega) (by omega)
    have hEz := EnZ_en (show A - 1 < 8 by omega) k2 g2 (by omega) hz
    by_cases cF' : im 13 (3 * ms (A - 1) + r) = 1
    · have hhr : hRow im (ms (A - 1)) r = [] := by unfold hRow; rw [if_pos cF']
      rw [cF'] at hfin
      have hMd := hd_fin (kd := 1) (fr := fr) (e := e) h hc hm he k2 k4 g2 hip (fun q q1 q2 q3 q4 => hPn q (by omega) q2 q3 q4) h100 (Or.inl rfl) hfr g3 (fun z => by omega)
      refine ⟨r, _, _, g2, hip, ?_, fun rec => ?_, by rw [hhr]; exact hMd, Ucg_trans (en_U k2) kp_U, Umg_trans (hd_U k4) (kq_U (by omega)), ?_, fun g => hphc g, ?_, ?_⟩
      · have hkp := c_keep (f := A - 1) (r := r) (σ := enS im (ms (A - 1)) (A - 1) r σcb) (a := Int32.ofNat 1) (b := e) (c := Int32.ofNat fr) (by omega) (by omega)
        unfold F_Ru_handle
        rw [g4]
        simp (disch := omega) only [F_Ru_handle_3, F_Ru_handle_85, hP, hMc, if_pos, hrc, n_le, if_neg, n_nl0, n_cl, false_or, cM7 hMc, cMr hMc, hk1, hrg.2.1, k1, hen, hfin, zb1, hth, lit32, hkp, ite_true, ite_false, if_true, if_false, Bool.false_eq_true, and_self, and_true, true_and, and_false, false_and]
        rfl
      · rw [g5 rec 5000 (by omega)]
        simp (disch := omega) only [F_Mo_raiseBehind_73, n_nl0, n_cl, false_or, if_neg, cm_13, m9, n_le, lit32, hh1 cF', ite_true, ite_false, if_true, if_false, Bool.false_eq_true, and_self, and_true, true_and, and_false, false_and]
        rfl
      · unfold kpM hdS
        rw [rA, if_neg (by omega), rA, if_neg (by omega), rA, if_neg (by omega), rA, if_neg (by omega), rA, if_pos ⟨rfl, rfl⟩]
      · exact k4.1
      · exact EnZ_same hEz (fun k => by unfold kpC; rw [rA, if_neg (by omega), rA, if_neg (by omega), rA, if_neg (by omega)])
    · have cF0 : im 13 (3 * ms (A - 1) + r) = 0 := by have := hrg.2.2.2.2.2.2.2; omega
      have hhr : hRow im (ms (A - 1)) r = [1] := by unfold hRow; rw [if_neg cF']
      rw [cF0] at hfin
      obtain ⟨σc1, σm1, r1, r2, r3, r4, r5, r6⟩ := hd_cat (e := e) h hc hm he k2 k4 g2 hip (fun q q1 q2 q3 q4 => hPn q (by omega) q2 q3 q4) h100 cF'
      refine ⟨r, σc1, σm1, g2, hip, ?_, fun rec => ?_, by rw [hhr]; exact r3, Ucg_trans (en_U k2) (Sc_G r4), Umg_trans (hd_U k4) (Sm_G r5), ?_, fun g => ?_, ?_, ?_⟩
      · unfold F_Ru_handle
        rw [g4]
        simp (disch := omega) only [F_Ru_handle_3, F_Ru_handle_85, hP, hMc, if_pos, hrc, n_le, if_neg, n_nl0, n_cl, false_or, cM7 hMc, cMr hMc, hk1, hrg.2.1, k1, hen, hfin, zb0, hth, r1, lit32, ite_true, ite_false, if_true, if_false, Bool.false_eq_true, and_self, and_true, true_and, and_false, false_and]
      · rw [g5 rec 5000 (by omega)]
        simp (disch := omega) only [F_Mo_raiseBehind_73, n_nl0, n_cl, false_or, if_neg, cm_13, m9, n_le, lit32, hh2 cF0 σm1 r2, ite_true, ite_false, if_true, if_false, Bool.false_eq_true, and_self, and_true, true_and, and_false, false_and]
      · rw [r5.2.2.2.2 _ _ (by omega) (by omega)]
        unfold hdS
        rw [rA, if_neg (by omega), rA, if_pos ⟨rfl, rfl⟩]
      · rw [r4.2.2.2.1 _ _ (by omega)]; exact hphc g
      · rw [r6]; exact k4.1
      · exact EnZ_same hEz (fun k => by rw [r4.2.2.1])
  · right
    exact ⟨g1 5000 (by omega), fun rec => g2 rec 5000 (by omega)⟩
/-! The run, between instructions. -/
def Cs (im : Im) (A : Nat) (ms ps : Nat → Nat) (ls : Nat → List Nat) (σm : SG) : Prop := ∀ f, f + 1 < A → ∃ R l0, Clo im (ms f) R ∧ (∀ Q, Clo im (ms f) Q → LeQ R Q) ∧ cdA im (ms f) (ps f) = 33 ∧ cdA im (ms f) (ps f + 1) = ms (f + 1) ∧ σm.2.2.2.1 21 f = Int32.ofNat (ps f + 2) ∧ R (ps f) = some l0 ∧ popA im (ms (f + 1)) (im 5 (ms (f + 1))) (some l0) = some (ls f)
def Ltt (im : Im) (A : Nat) (ms ps : Nat → Nat) (ls : Nat → List Nat) (σm : SG) : Prop := ∃ R, Clo im (ms (A - 1)) R ∧ (∀ Q, Clo im (ms (A - 1)) Q → LeQ R Q) ∧ R (ps (A - 1)) = some (ls (A - 1)) ∧ σm.2.2.2.1 21 (A - 1) = Int32.ofNat (ps (A - 1))
def Sv (im : Im) (A : Nat) (ms : Nat → Nat) : Prop := ∃ S, ClS (im 0 1) (VOK im) (Gc im) S ∧ ∀ f, f < A → S (ms f)
def Ph1 (σc σm : SG) : Prop := σc.1 123 5 = Int32.ofNat 0 ∧ σc.1 123 9 = Int32.ofNat 1 ∧ σc.1 123 10 = Int32.ofNat 0 ∧ σm.1 0 28 = Int32.ofNat 1
def Go (im : Im) (IA : Nat) (σc σm : SG) : Prop := ∃ A ms ps ls T md, Md im IA A ms ps ls T md σc σm ∧ Cs im A ms ps ls σm ∧ Ltt im A ms ps ls σm ∧ Sv im A ms ∧ EnZ im σc ∧ Ph1 σc σm
def Over (im : Im) (σc σm : SG) : Prop := ∃ k, (k = 2 ∨ k = 3) ∧ σc.1 123 9 = Int32.ofNat k ∧ σm.1 0 28 = Int32.ofNat k ∧ σc.1 123 10 = σm.1 0 29 ∧ σc.1 123 12 = σm.1 0 30 ∧ (∀ k, k < 18 → σc.2.2.2.1 175 k = σm.2.2.2.1 31 k) ∧ EnZ im σc ∧ σc.1 123 5 = Int32.ofNat 0
theorem Cs_top {im : Im} {A q : Nat} {ms ps : Nat → Nat} {ls : Nat → List Nat} {l : List Nat} {σm σm1 : SG} (h : Cs im A ms ps ls σm) (hm : Umg (A - 1) σm σm1) : Cs im A ms (upp ps (A - 1) q) (upl ls (A - 1) l) σm1 := by
  intro f hf
  obtain ⟨R, l0, g1, g2, g3, g4, g5, g6, g7⟩ := h f hf
  rw [upp_n _ _ (by omega), upl_n _ _ (by omega)]
  exact ⟨R, l0, g1, g2, g3, g4, by rw [hm.2.2 _ _ (by omega) (by omega) (by omega) (by omega)]; exact g5, g6, g7⟩
theorem thr_l {im : Im} {IA md : Nat} {ms T : Nat → Nat} {e : Int32} : ∀ (n A : Nat) (ps : Nat → Nat) (ls : Nat → List Nat) (σc σm σca σma : SG) (fr r0 : Nat) (R : RQ) (l : List Nat) (nC nM : Nat), A ≤ n → Md im IA A ms ps ls T md σc σm → Ucg (A - 1) σc σca → Umg (A - 1) σm σma → (∀ k, k < 18 → σca.2.2.2.1 175 k = σma.2.2.2.1 31 k) → EnZ im σca → Clo im (ms (A - 1)) R → (∀ Q, Clo im (ms (A - 1)) Q → LeQ R Q) → R (ps (A - 1)) = some l → σca.1 123 6 = e → Ph1 σca σma → fr < 100 → r0 ≤ im 9 (ms (A - 1)) →
    (∀ r, r0 ≤ r → r < im 9 (ms (A - 1)) → iP im (ms (A - 1)) r fr → iP im (ms (A - 1)) r (ps (A - 1))) → (∀ q, r0 ≤ q → q < im 9 (ms (A - 1)) → isF im (ms (A - 1)) q → iH im (ms (A - 1)) q (ps (A - 1)) → PnB im σca σma (A - 1) (ms (A - 1)) q) → Cs im A ms ps ls σma → Sv im A ms → A < nC → A < nM →
    ∃ b s σc1 σm1, F_Ru_handle 123 (125 + 6 * (A - 1)) (Int32.ofNat fr) (Int32.ofNat r0) σca = some (b, s) ∧ F_Ru_throwOn_17 nC 123 b s = some σc1 ∧ F_Mo_raiseBehind_15 nM 0 e (Int32.ofNat (ps (A - 1))) (Int32.ofNat fr) (Int32.ofNat r0) σma = some σm1 ∧ Wc σca σc1 ∧ Wm σma σm1 ∧ σm1.1 0 44 = σma.1 0 44 ∧ (Go im IA σc1 σm1 ∨ Over im σc1 σm1) := by
  intro n
  induction n with
  | zero =>
    intro A ps ls σc σm σca σma fr r0 R l nC nM hA h
    have := h.1.1
    omega
  | succ n ih =>
    intro A ps ls σc σm σca σma fr r0 R l nC nM hA h hc hm he hz hC hmin hR h6 hph hfr hr0 hg hPn hCs hS hnC hnM
    obtain ⟨⟨a1, a2, a3⟩, b0, ⟨c1, c2, c3, c4, c5⟩, -, e', -, -⟩ := id h
    obtain ⟨f1, f2, f3, f4, f5, f6, f7, f8, f9, -⟩ := e' (A - 1) (by omega)
    have hI := Img_congr b0 (Ucg_W hc) (Umg_W hm)
    have hm6 := (wf_m hI.2.2.1 f1).1
    have h93 := (wf_m hI.2.2.1 f1).2.2.2.2.2.2.1
    have h20 : σma.2.2.2.1 20 (A - 1) = Int32.ofNat (ms (A - 1)) := by rw [hm.2.2 _ _ (by omega) (by omega) (by omega) (by omega)]; exact f9
    have hA31 : σma.1 0 31 = Int32.ofNat A := by rw [hm.2.1 _ (by omega)]; exact c2
    have hA11 : σca.1 123 11 = Int32.ofNat A := by rw [hc.2.1 _ _ (by omega) (by omega)]; exact c1
    have m9 := hI.2.1.2.2.2 9 (ms (A - 1)) (by omega) (by omega)
    obtain ⟨nC, rfl⟩ : ∃ x, nC = x + 1 := ⟨nC - 1, by omega⟩
    obtain ⟨nM, rfl⟩ : ∃ x, nM = x + 1 := ⟨nM - 1, by omega⟩
    have h15 : F_Mo_raiseBehind_15 (nM + 1) 0 e (Int32.ofNat (ps (A - 1))) (Int32.ofNat fr) (Int32.ofNat r0) σma = F_Mo_raiseBehind_39 (F_Mo_raiseBehind_15 nM) 5000 0 e (Int32.ofNat (ps (A - 1))) (Int32.ofNat fr) (Int32.ofNat r0) (Int32.ofNat (A - 1)) (Int32.ofNat (ms (A - 1))) σma := by
      rw [F_Mo_raiseBehind_15]
      simp (disch := omega) only [hA31, lit32, n_le, if_neg, n_sub, n_nl0, n_cl, false_or, cm_32, h20, ite_true, ite_false, if_true, if_false, Bool.false_eq_true, and_self, and_true, true_and, and_false, false_and]
    rcases th_one h hc hm he hz hC hR h6 hfr hr0 hg hPn with ⟨r, σc1, σm1, t1, t2, t3, t4, t5, t6, t7, t8, t9, t10, t11⟩ | ⟨t1, t2⟩
    · refine ⟨true, σc1, σc1, σm1, t3, ?_, by rw [h15]; exact t4 _, Ucg_W t6, Umg_W t7, by rw [t10], Or.inl ⟨A, ms, _, _, T, md, t5, Cs_top hCs t7, ⟨R, hC, hmin, ?_, ?_⟩, hS, t11, ⟨?_, ?_, ?_, ?_⟩⟩⟩
      · simp (disch := omega) only [F_Ru_throwOn_17, F_Ru_throwOn_59, F_Ru_throwOn_72, if_pos, ite_true, ite_false, if_true, if_false, Bool.false_eq_true, and_self, and_true, true_and, and_false, false_and]
      · rw [upp_s, upl_s]; exact (Rch_mid hC hR t1 t2).1
      · rw [upp_s]; exact t8
      · rw [t9]; exact hph.1
      · rw [t9]; exact hph.2.1
      · rw [t9]; exact hph.2.2.1
      · rw [t10]; exact hph.2.2.2
    · by_cases cA : A = 1
      · refine ⟨false, σca, setI (setI σca 123 9 (Int32.ofNat 3)) 123 10 e, setI (setI (setI σma 0 31 (Int32.ofNat 0)) 0 28 (Int32.ofNat 3)) 0 29 e, t1, ?_, ?_, ⟨fun x g hx => ?_, fun _ _ _ => rfl, fun _ _ _ => rfl, fun f _ => ?_⟩, ⟨fun g p1 p2 p3 p4 p5 _ _ => ?_, fun _ _ _ => rfl, rfl⟩, by rw [rI, if_neg (by omega), rI, if_neg (by omega), rI, if_neg (by omega)], Or.inr ⟨3, Or.inr rfl, ?_, ?_, ?_, ?_, he, hz, ?_⟩⟩
        · have h11 : σca.1 123 11 = Int32.ofNat 1 := by rw [hA11, cA]
          simp (disch := omega) only [F_Ru_throwOn_17, F_Ru_throwOn_59, F_Ru_throwOn_72, F_Ru_end, if_neg, h11, lit32, n_le, if_pos, stl_e, h6, ite_true, ite_false, if_true, if_false, Bool.false_eq_true, and_self, and_true, true_and, and_false, false_and]
        · rw [h15, t2]
          obtain ⟨nM, rfl⟩ : ∃ x, nM = x + 1 := ⟨nM - 1, by omega⟩
          have h31 : σma.1 0 31 = Int32.ofNat 1 := by rw [hA31, cA]
          simp (disch := omega) only [F_Mo_raiseBehind_73, F_Mo_raiseBehind_134, F_Mo_raiseBehind_15, n_nl0, n_cl, false_or, if_neg, cm_13, m9, n_le, if_pos, h31, lit32, n_sub, Nat.sub_self, stl_e, rI, ite_true, ite_false, if_true, if_false, Bool.false_eq_true, and_self, and_true, true_and, and_false, false_and]
        · rw [rI, if_neg (by omega), rI, if_neg (by omega)]
        · rw [rI, if_neg (by omega), rI, if_neg (by omega)]
        · rw [rI, if_neg (by omega), rI, if_neg (by omega), rI, if_neg (by omega)]
        · rw [rI, if_neg (by omega), rI, if_pos ⟨rfl, rfl⟩]
        · rw [rI, if_neg (by omega), rI, if_pos ⟨rfl, rfl⟩]
        · rw [rI, if_pos ⟨rfl, rfl⟩, rI, if_pos ⟨rfl, rfl⟩]
        · rw [rI, if_neg (by omega), rI, if_neg (by omega), rI, if_neg (by omega), rI, if_neg (by omega), rI, if_neg (by omega), hc.2.1 _ _ (by omega) (by omega), hm.2.1 _ (by omega), c3, c4]
        · rw [rI, if_neg (by omega), rI, if_neg (by omega)]; exact hph.1
      · have hMd := Md_dn h hc hm he (by omega)
        obtain ⟨R2, l2, g1, g2, g3, g4, g5, g6, g7⟩ := hCs (A - 1 - 1) (by omega)
        obtain ⟨-, -, -, -, k5, k6, -, -, -, -, -, -, k13⟩ := hMd.2.2.2.2.1 (A - 1 - 1) (by omega)
        have h9 := (wf_m hI.2.2.1 (hMd.2.2.2.2.1 (A - 1 - 1) (by omega)).1).2.2.2.2.2.2.1
        obtain ⟨b, s, σc1, σm1, u1, u2, u3, u4, u5, u44, u6⟩ := ih (A - 1) ps ls _ _ (setI σca 123 11 (Int32.ofNat (A - 1))) (setI σma 0 31 (Int32.ofNat (A - 1))) (ps (A - 1 - 1)) 0 R2 l2 nC nM (by omega) hMd (Ucg_refl _ _) (Umg_refl _ _) he hz g1 g2 g6 (by rw [rI, if_neg (by omega)]; exact h6) ⟨by rw [rI, if_neg (by omega)]; exact hph.1, by rw [rI, if_neg (by omega)]; exact hph.2.1, by rw [rI, if_neg (by omega)]; exact hph.2.2.1, by rw [rI, if_neg (by omega)]; exact hph.2.2.2⟩ k5 (Nat.zero_le _) (fun r _ _ z => z) (fun q _ q2 q3 q4 => k13 q q2 q3 q4) (fun f hf => hCs f (by omega)) (by obtain ⟨S, s1, s2⟩ := hS; exact ⟨S, s1, fun f hf => s2 f (by omega)⟩) (by omega) (by omega)
        have hwc : Wc σca (setI σca 123 11 (Int32.ofNat (A - 1))) := ⟨fun x g hx => by rw [rI, if_neg (by omega)], fun _ _ _ => rfl, fun _ _ _ => rfl, fun f _ => by rw [rI, if_neg (by omega)]⟩
        have hwm : Wm σma (setI σma 0 31 (Int32.ofNat (A - 1))) := ⟨fun g p1 p2 p3 p4 p5 _ _ => by rw [rI, if_neg (by omega)], fun _ _ _ => rfl, rfl⟩
        refine ⟨false, σca, σc1, σm1, t1, ?_, ?_, Wc_trans hwc u4, Wm_trans hwm u5, by rw [u44, rI, if_neg (by omega)], u6⟩
        · have hl := ru_latest (σ := setI σca 123 11 (Int32.ofNat (A - 1))) (A := A - 1) (by rw [rI, if_pos ⟨rfl, rfl⟩]) (by omega) (by omega)
          have hFr := (cF (f := A - 1 - 1) (by omega)).1
          simp (disch := omega) only [F_Ru_throwOn_17, if_neg, hA11, lit32, n_le, n_sub, stl_e, hl, hFr, if_pos, k6, u1, u2, ite_true, ite_false, if_true, if_false, Bool.false_eq_true, and_self, and_true, true_and, and_false, false_and]
        · rw [h15, t2]
          have h21 : (setI σma 0 31 (Int32.ofNat (A - 1))).2.2.2.1 21 (A - 1 - 1) = Int32.ofNat (ps (A - 1 - 1) + 2) := g5
          simp (disch := omega) only [F_Mo_raiseBehind_73, F_Mo_raiseBehind_134, n_nl0, n_cl, false_or, if_neg, cm_13, m9, n_le, if_pos, hA31, lit32, n_sub, stl_e, rI, cm_33, h21, Nat.add_sub_cancel, u3, ite_true, ite_false, if_true, if_false, Bool.false_eq_true, and_self, and_true, true_and, and_false, false_and]
