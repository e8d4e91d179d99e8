/-! A leave. -/
theorem ls_l {im : Im} {IA m f fr tg : Nat} {σc σm : SG} {p : Int32} (h : ImC σc IA im) (hw : WfI im) (hM : RepM σm im) (hm : m < im 0 1) (hf : f < 8) (hP : σc.2.2.1 (125 + 6 * f) 1 = IA + 4 + 9 * m) (hfr : fr < 100) (htg : tg < 100) : ∀ c i, i + c = im 9 m →
    (∃ r, i ≤ r ∧ r < im 9 m ∧ isF im m r ∧ iP im m r fr ∧ ¬ iP im m r tg ∧ (∀ n, c < n → ∃ n', F_Ru_leave_9 n 123 (125 + 6 * f) (Int32.ofNat tg) (Int32.ofNat fr) (Int32.ofNat i) σc = F_Ru_leave_9 (n' + 1) 123 (125 + 6 * f) (Int32.ofNat tg) (Int32.ofNat fr) (Int32.ofNat r) σc) ∧ ∀ n, c < n → F_Mo_leaveBehind_21 n 0 p (Int32.ofNat fr) (Int32.ofNat tg) (Int32.ofNat f) (Int32.ofNat m) (Int32.ofNat i) σm = F_Mo_leaveBehind_84 0 p (Int32.ofNat fr) (Int32.ofNat tg) (Int32.ofNat f) (Int32.ofNat m) (Int32.ofNat r) σm) ∨
    ((∀ n, c < n → F_Ru_leave_9 n 123 (125 + 6 * f) (Int32.ofNat tg) (Int32.ofNat fr) (Int32.ofNat i) σc = some (false, setI σc (125 + 6 * f) 3 (Int32.ofNat tg))) ∧ ∀ n, c < n → F_Mo_leaveBehind_21 n 0 p (Int32.ofNat fr) (Int32.ofNat tg) (Int32.ofNat f) (Int32.ofNat m) (Int32.ofNat i) σm = F_Mo_leaveBehind_84 0 p (Int32.ofNat fr) (Int32.ofNat tg) (Int32.ofNat f) (Int32.ofNat m) (Int32.ofNat (im 9 m)) σm) := by
  have hMc := d_Mc h hm
  obtain ⟨h1, h2⟩ := IC_rc h hm
  have h6 := (wf_m hw hm).1
  have m9 := hM.2.2.2 9 m (by omega) (by omega)
  have hfi : (Int32.ofNat fr).toInt = (fr : Int) := n_int (by omega)
  have hti : (Int32.ofNat tg).toInt = (tg : Int) := n_int (by omega)
  intro c
  induction c with
  | zero =>
    intro i hi
    have ei : i = im 9 m := by omega
    refine Or.inr ⟨fun n hn => ?_, fun n hn => ?_⟩
    · obtain ⟨n, rfl⟩ : ∃ x, n = x + 1 := ⟨n - 1, by omega⟩
      simp (disch := omega) only [F_Ru_leave_9, hP, hMc, if_pos, h1, n_le, stl_e, ite_true, ite_false, if_true, if_false, Bool.false_eq_true, and_self, and_true, true_and, and_false, false_and]
    · obtain ⟨n, rfl⟩ : ∃ x, n = x + 1 := ⟨n - 1, by omega⟩
      rw [ei]
      simp (disch := omega) only [F_Mo_leaveBehind_21, n_nl0, n_cl, false_or, if_neg, cm_13, m9, n_le, if_pos, lit32, ite_true, ite_false, if_true, if_false, Bool.false_eq_true, and_self, and_true, true_and, and_false, false_and]
  | succ c ih =>
    intro i hi
    obtain ⟨b, e1, e2⟩ := a_keeps (r := i) h hm (by omega) hfi
    obtain ⟨b', e3, e4⟩ := m_inPart (r := i) hw hm hM (by omega) hfi
    have ebb : b' = b := Bool.eq_iff_iff.mpr (e4.trans e2.symm)
    subst ebb
    obtain ⟨d, d1, d2⟩ := a_keeps (r := i) h hm (by omega) hti
    obtain ⟨d', d3, d4⟩ := m_inPart (r := i) hw hm hM (by omega) hti
    have edd : d' = d := Bool.eq_iff_iff.mpr (d4.trans d2.symm)
    subst edd
    have hrg := IC_rg (r := i) h hm (by omega)
    have m13 := hM.2.2.2 13 (3 * m + i) (by omega) (by omega)
    have hgo : ((∀ n, F_Ru_leave_9 (n + 1) 123 (125 + 6 * f) (Int32.ofNat tg) (Int32.ofNat fr) (Int32.ofNat i) σc = F_Ru_leave_9 n 123 (125 + 6 * f) (Int32.ofNat tg) (Int32.ofNat fr) (Int32.ofNat (i + 1)) σc) ∧ (∀ n, F_Mo_leaveBehind_21 (n + 1) 0 p (Int32.ofNat fr) (Int32.ofNat tg) (Int32.ofNat f) (Int32.ofNat m) (Int32.ofNat i) σm = F_Mo_leaveBehind_21 n 0 p (Int32.ofNat fr) (Int32.ofNat tg) (Int32.ofNat f) (Int32.ofNat m) (Int32.ofNat (i + 1)) σm)) ∨ (isF im m i ∧ iP im m i fr ∧ ¬ iP im m i tg ∧ ∀ n, F_Mo_leaveBehind_21 (n + 1) 0 p (Int32.ofNat fr) (Int32.ofNat tg) (Int32.ofNat f) (Int32.ofNat m) (Int32.ofNat i) σm = F_Mo_leaveBehind_84 0 p (Int32.ofNat fr) (Int32.ofNat tg) (Int32.ofNat f) (Int32.ofNat m) (Int32.ofNat i) σm) := by
      by_cases cF' : im 13 (3 * m + i) = 1
      · have hf3 := hrg.2.2.2.1
        rw [cF'] at hf3 m13
        cases b' with
        | false =>
          left
          refine ⟨fun n => ?_, fun n => ?_⟩
          · simp (disch := omega) only [F_Ru_leave_9, F_Ru_leave_77, hP, hMc, if_pos, h1, n_le, if_neg, n_nl0, n_cl, false_or, cM7 hMc, cMr hMc, hf3, zb1, e1, lit32, n_add, ite_true, ite_false, if_true, if_false, Bool.false_eq_true, and_self, and_true, true_and, and_false, false_and]
          · simp (disch := omega) only [F_Mo_leaveBehind_21, F_Mo_leaveBehind_78, n_nl0, n_cl, false_or, if_neg, cm_13, m9, n_le, lit32, n_mul, n_add, cm_17, m13, zb1, if_pos, e3, ite_true, ite_false, if_true, if_false, Bool.false_eq_true, and_self, and_true, true_and, and_false, false_and]
        | true =>
          cases d' with
          | true =>
            left
            refine ⟨fun n => ?_, fun n => ?_⟩
            · simp (disch := omega) only [F_Ru_leave_9, F_Ru_leave_77, hP, hMc, if_pos, h1, n_le, if_neg, n_nl0, n_cl, false_or, cM7 hMc, cMr hMc, hf3, zb1, e1, d1, lit32, n_add, ite_true, ite_false, if_true, if_false, Bool.false_eq_true, and_self, and_true, true_and, and_false, false_and]
            · simp (disch := omega) only [F_Mo_leaveBehind_21, F_Mo_leaveBehind_78, n_nl0, n_cl, false_or, if_neg, cm_13, m9, n_le, lit32, n_mul, n_add, cm_17, m13, zb1, if_pos, e3, d3, ite_true, ite_false, if_true, if_false, Bool.false_eq_true, and_self, and_true, true_and, and_false, false_and]
          | false =>
            right
            refine ⟨cF', e2.mp rfl, (fun z => by have q := d2.mpr z; exact absurd q (by decide)), fun n => ?_⟩
            simp (disch := omega) only [F_Mo_leaveBehind_21, F_Mo_leaveBehind_78, n_nl0, n_cl, false_or, if_neg, cm_13, m9, n_le, lit32, n_mul, n_add, cm_17, m13, zb1, if_pos, e3, d3, ite_true, ite_false, if_true, if_false, Bool.false_eq_true, and_self, and_true, true_and, and_false, false_and]
      · left
        have cF0 : im 13 (3 * m + i) = 0 := by have := hrg.2.2.2.2.2.2.2; omega
        have hf3 := hrg.2.2.2.1
        rw [cF0] at hf3 m13
        refine ⟨fun n => ?_, fun n => ?_⟩
        · simp (disch := omega) only [F_Ru_leave_9, F_Ru_leave_77, hP, hMc, if_pos, h1, n_le, if_neg, n_nl0, n_cl, false_or, cM7 hMc, cMr hMc, hf3, zb0, lit32, n_add, ite_true, ite_false, if_true, if_false, Bool.false_eq_true, and_self, and_true, true_and, and_false, false_and]
        · simp (disch := omega) only [F_Mo_leaveBehind_21, F_Mo_leaveBehind_78, n_nl0, n_cl, false_or, if_neg, cm_13, m9, n_le, lit32, n_mul, n_add, cm_17, m13, zb0, ite_true, ite_false, if_true, if_false, Bool.false_eq_true, and_self, and_true, true_and, and_false, false_and]
    rcases hgo with ⟨hc1, hm1⟩ | ⟨o1, o2, o3, o4⟩
    · rcases ih (i + 1) (by omega) with ⟨r, g1, g2, g3, g4, g5, g6, g7⟩ | ⟨g1, g2⟩
      · refine Or.inl ⟨r, by omega, g2, g3, g4, g5, fun n hn => ?_, fun n hn => ?_⟩
        · obtain ⟨n, rfl⟩ : ∃ x, n = x + 1 := ⟨n - 1, by omega⟩
          rw [hc1]; exact g6 n (by omega)
        · obtain ⟨n, rfl⟩ : ∃ x, n = x + 1 := ⟨n - 1, by omega⟩
          rw [hm1]; exact g7 n (by omega)
      · refine Or.inr ⟨fun n hn => ?_, fun n hn => ?_⟩
        · obtain ⟨n, rfl⟩ : ∃ x, n = x + 1 := ⟨n - 1, by omega⟩
          rw [hc1]; exact g1 n (by omega)
        · obtain ⟨n, rfl⟩ : ∃ x, n = x + 1 := ⟨n - 1, by omega⟩
          rw [hm1]; exact g2 n (by omega)
    · refine Or.inl ⟨i, Nat.le_refl _, by omega, o1, o2, o3, fun n hn => ⟨n - 1, by rw [show n - 1 + 1 = n by omega]⟩, fun n hn => ?_⟩
      obtain ⟨n, rfl⟩ : ∃ x, n = x + 1 := ⟨n - 1, by omega⟩
      exact o4 n
theorem lv_sim {im : Im} {IA A : Nat} {ms ps : Nat → Nat} {ls : Nat → List Nat} {T : Nat → Nat} {md : Nat} {σc σm : SG} {σca σma : SG} {fr tg r0 : Nat} {R : RQ} {l : List Nat} (h : Md im IA A ms ps ls T md σc σm) (hc : Ucg (A - 1) σc σca) (hm : Umg (A - 1) σm σma) (he : ∀ k, k < 18 → σca.2.2.2.1 175 k = σma.2.2.2.1 31 k) (hz : EnZ im σca) (hC : Clo im (ms (A - 1)) R) (hmin : ∀ Q, Clo im (ms (A - 1)) Q → LeQ R Q) (hR : R (ps (A - 1)) = some l) (hfr : fr < 100) (htg : tg < 100) (hr0 : r0 ≤ im 9 (ms (A - 1))) (hmay : mayL im (ms (A - 1)) fr tg) (hRt : R tg = some [])
    (hg : ∀ r, r0 ≤ r → r < im 9 (ms (A - 1)) → iP im (ms (A - 1)) r fr → iP im (ms (A - 1)) r (ps (A - 1))) (hPn : ∀ q, r0 ≤ q → q < im 9 (ms (A - 1)) → isF im (ms (A - 1)) q → iH im (ms (A - 1)) q (ps (A - 1)) → PnB im σca σma (A - 1) (ms (A - 1)) q) (hq : ∀ q, q < im 9 (ms (A - 1)) → isF im (ms (A - 1)) q → iH im (ms (A - 1)) q tg → r0 ≤ q ∧ iH im (ms (A - 1)) q (ps (A - 1))) :
    ∃ σc1 σm1 q l', F_Ru_leave 123 (125 + 6 * (A - 1)) (Int32.ofNat tg) (Int32.ofNat fr) (Int32.ofNat r0) σca = some (false, σc1) ∧ F_Mo_leaveBehind 0 (Int32.ofNat (ps (A - 1))) (Int32.ofNat fr) (Int32.ofNat tg) (Int32.ofNat r0) σma = some σm1 ∧ Md im IA A ms (upp ps (A - 1) q) (upl ls (A - 1) l') T md σc1 σm1 ∧ R q = some l' ∧ σm1.2.2.2.1 21 (A - 1) = Int32.ofNat q ∧ Ucg (A - 1) σca σc1 ∧ Umg (A - 1) σma σm1 ∧ (∀ g, σc1.1 123 g = σca.1 123 g) ∧ σm1.1 = σma.1 ∧ EnZ im σc1 := by
  obtain ⟨⟨a1, a2, a3⟩, b0, ⟨-, c2, -⟩, -, e', -, -⟩ := id h
  obtain ⟨f1, f2, f3, f4, f5, f6, f7, f8, f9, -⟩ := e' (A - 1) (by omega)
  have hI := Img_congr b0 (Ucg_W hc) (Umg_W hm)
  have w := wf_m hI.2.2.1 f1
  have h9 := w.2.2.2.2.2.2.1
  have hm6 := w.1
  have hA31 : σma.1 0 31 = Int32.ofNat A := by rw [hm.2.1 _ (by omega)]; exact c2
  have hP : (setI σca (125 + 6 * (A - 1)) 4 (Int32.ofNat 0)).2.2.1 (125 + 6 * (A - 1)) 1 = IA + 4 + 9 * ms (A - 1) := by
    show σca.2.2.1 (125 + 6 * (A - 1)) 1 = _
    rw [hc.1]; exact f3
  have hN : (setI σca (125 + 6 * (A - 1)) 4 (Int32.ofNat 0)).1 (125 + 6 * (A - 1)) 2 = Int32.ofNat (ms (A - 1)) := by rw [rI, if_neg (by omega), hc.2.1 _ _ (by omega) (by omega)]; exact f4
  have h20 : σma.2.2.2.1 20 (A - 1) = Int32.ofNat (ms (A - 1)) := by rw [hm.2.2 _ _ (by omega) (by omega) (by omega) (by omega)]; exact f9
  have hpi : (Int32.ofNat (ps (A - 1))).toInt = (ps (A - 1) : Int) := n_int (by omega)
  have hfi : (Int32.ofNat fr).toInt = (fr : Int) := n_int (by omega)
  have hti : (Int32.ofNat tg).toInt = (tg : Int) := n_int (by omega)
  have hMc := d_Mc hI.1 f1
  have hU0 : Ucg (A - 1) σca (setI σca (125 + 6 * (A - 1)) 4 (Int32.ofNat 0)) := ⟨rfl, fun x g p q => by rw [rI, if_neg (by omega)], fun _ _ _ _ => rfl, fun _ _ _ => rfl⟩
  have hI0 := Img_congr hI (Ucg_W hU0) (Wm_refl _)
  have hIA := hI.1.1
  have m9 := hI.2.1.2.2.2 9 (ms (A - 1)) (by omega) (by omega)
  have hlb : ∀ k, F_Mo_leaveBehind_21 5000 0 (Int32.ofNat (ps (A - 1))) (Int32.ofNat fr) (Int32.ofNat tg) (Int32.ofNat (A - 1)) (Int32.ofNat (ms (A - 1))) (Int32.ofNat r0) σma = k → F_Mo_leaveBehind 0 (Int32.ofNat (ps (A - 1))) (Int32.ofNat fr) (Int32.ofNat tg) (Int32.ofNat r0) σma = k := fun k hk => by
    simp (disch := omega) only [F_Mo_leaveBehind, hA31, lit32, n_sub, n_nl0, n_cl, false_or, if_neg, cm_32, h20, hk, ite_true, ite_false, if_true, if_false, Bool.false_eq_true, and_self, and_true, true_and, and_false, false_and]
  rcases ls_l (p := Int32.ofNat (ps (A - 1))) hI0.1 hI.2.2.1 hI.2.1 f1 (show A - 1 < 8 by omega) hP hfr htg (im 9 (ms (A - 1)) - r0) r0 (by omega) with ⟨r, g1, g2, g3, g4, g5, g6, g7⟩ | ⟨g1, g2⟩
  · obtain ⟨n', g6⟩ := g6 5000 (by omega)
    have hip := hg r g1 g2 g4
    obtain ⟨hR2, hB2⟩ := Rch_mid hC hR g2 hip
    have h100 : im 11 (3 * ms (A - 1) + r) < 100 := by have := hB2.1; have := w.2.2.2.2.2.2.2.2.2.1; omega
    have hmi : (Int32.ofNat (im 11 (3 * ms (A - 1) + r))).toInt = ((im 11 (3 * ms (A - 1) + r) : Nat) : Int) := n_int (by omega)
    obtain ⟨σmb, k3, k4⟩ := m_drop hI.2.2.1 f1 hI.2.1 (show A - 1 < 8 by omega) h20 hpi hmi
    have hrg := IC_rg hI0.1 f1 g2
    have hen : F_Ru_enter 123 (125 + 6 * (A - 1)) (Int32.ofNat r) (setI σca (125 + 6 * (A - 1)) 4 (Int32.ofNat 0)) = some (enS im (ms (A - 1)) (A - 1) r (setI σca (125 + 6 * (A - 1)) 4 (Int32.ofNat 0))) := c_enter hI0.1 f1 (by omega) g2 hP hN
    have k2 := Fg_refl (A - 1) (Kh im (ms (A - 1)) r) (setI σca (125 + 6 * (A - 1)) 4 (Int32.ofNat 0))
    obtain ⟨bk, hk1, hk2⟩ := a_keeps hI0.1 f1 g2 hfi
    have ebk : bk = true := hk2.mpr g4
    subst ebk
    obtain ⟨bt', ht1, ht2⟩ := a_keeps hI0.1 f1 g2 hti
    have ebt : bt' = false := by
      cases bt' with
      | false => rfl
      | true => exact absurd (ht2.mp rfl) g5
    subst ebt
    have hrc := (IC_rc hI0.1 f1).1
    have hf3 := hrg.2.2.2.1
    rw [show im 13 (3 * ms (A - 1) + r) = 1 from g3] at hf3
    obtain ⟨hh1, -⟩ := m_hand (kd := Int32.ofNat 2) (e := Int32.ofNat tg) (o := Int32.ofNat fr) hI.2.2.1 f1 hI.2.1 (show A - 1 < 8 by omega) g2 h20 k3 k4
    have hMd := hd_fin (kd := 2) (fr := fr) (e := Int32.ofNat tg) h (Ucg_trans hc hU0) hm he k2 k4 g2 hip (fun q q1 q2 q3 q4 => hPn q (by omega) q2 q3 q4) h100 (Or.inr rfl) hfr g4 (fun _ => ⟨tg, R, rfl, htg, hmay, hC, hmin, hRt, g5⟩)
    have hhr : hRow im (ms (A - 1)) r = [] := by unfold hRow; rw [if_pos (show im 13 (3 * ms (A - 1) + r) = 1 from g3)]
    refine ⟨_, _, _, _, ?_, hlb _ ?_, hMd, by rw [hR2, hhr], ?_, Ucg_trans hU0 (Ucg_trans (en_U k2) kp_U), Umg_trans (hd_U k4) (kq_U (by omega)), fun g => ?_, k4.1, ?_⟩
    · have hkp := c_keep (f := A - 1) (r := r) (σ := enS im (ms (A - 1)) (A - 1) r (setI σca (125 + 6 * (A - 1)) 4 (Int32.ofNat 0))) (a := Int32.ofNat 2) (b := Int32.ofNat tg) (c := Int32.ofNat fr) (by omega) (by omega)
      simp (disch := omega) only [F_Ru_leave, stl_e, lit32, ite_true, ite_false, if_true, if_false, Bool.false_eq_true, and_self, and_true, true_and, and_false, false_and]
      rw [g6]
      simp (disch := omega) only [F_Ru_leave_9, hP, hMc, if_pos, hrc, n_le, if_neg, n_nl0, n_cl, false_or, cM7 hMc, cMr hMc, hf3, zb1, hk1, ht1, hen, lit32, hkp, ite_true, ite_false, if_true, if_false, Bool.false_eq_true, and_self, and_true, true_and, and_false, false_and]
      rfl
    · rw [g7 5000 (by omega)]
      simp (disch := omega) only [F_Mo_leaveBehind_84, n_nl0, n_cl, false_or, if_neg, cm_13, m9, n_le, lit32, hh1 g3, ite_true, ite_false, if_true, if_false, Bool.false_eq_true, and_self, and_true, true_and, and_false, false_and]
      rfl
    · unfold kpM hdS
      rw [rA, if_neg (by omega), rA, if_neg (by omega), rA, if_neg (by omega), rA, if_neg (by omega), rA, if_pos ⟨rfl, rfl⟩]
    · show (setI (setI (setI σca (125 + 6 * (A - 1)) 4 (Int32.ofNat 0)) (125 + 6 * (A - 1)) 4 (Int32.ofNat 0)) (125 + 6 * (A - 1)) 3 _).1 _ _ = _
      rw [rI, if_neg (by omega), rI, if_neg (by omega), rI, if_neg (by omega)]
    · exact EnZ_same (EnZ_en (show A - 1 < 8 by omega) k2 g2 (by omega) (EnZ_same hz (fun _ => rfl))) (fun k => by unfold kpC; rw [rA, if_neg (by omega), rA, if_neg (by omega), rA, if_neg (by omega)])
  · have h20' : (setA σma 22 (A - 1) (Int32.ofNat 0)).2.2.2.1 20 (A - 1) = Int32.ofNat (ms (A - 1)) := by rw [rA, if_neg (by omega)]; exact h20
    have hUm : Umg (A - 1) σma (setA σma 22 (A - 1) (Int32.ofNat 0)) := ⟨rfl, fun _ _ => rfl, fun x g p1 p2 p3 p4 => by rw [rA, if_neg (by omega)]⟩
    have hI1 := Img_congr hI (Wc_refl _) (Umg_W hUm)
    obtain ⟨σmb, k3, k4⟩ := m_drop hI.2.2.1 f1 hI1.2.1 (show A - 1 < 8 by omega) h20' hpi hti
    have hU1 : Ucg (A - 1) σca (setI (setI σca (125 + 6 * (A - 1)) 4 (Int32.ofNat 0)) (125 + 6 * (A - 1)) 3 (Int32.ofNat tg)) := ⟨rfl, fun x g p q => by rw [rI, if_neg (by omega), rI, if_neg (by omega)], fun _ _ _ _ => rfl, fun _ _ _ => rfl⟩
    have hU2 : Umg (A - 1) σma (setA σmb 21 (A - 1) (Int32.ofNat tg)) := ⟨k4.2.2.2.1, fun g p => by show σmb.1 0 g = _; rw [k4.1]; rfl, fun x g p1 p2 p3 p4 => by rw [rA, if_neg (by omega), k4.2.2.2.2.1 _ _ (by omega), rA, if_neg (by omega)]⟩
    refine ⟨_, setA σmb 21 (A - 1) (Int32.ofNat tg), tg, [], ?_, hlb _ ?_, Md_top h (Ucg_trans hc hU1) (Umg_trans hm hU2) htg ?_ (by decide) ?_ ?_ trivial (fun q q1 q2 q3 => ?_) (fun k hk => ?_), hRt, ?_, hU1, hU2, fun g => ?_, ?_, EnZ_same hz (fun _ => rfl)⟩
    · simp (disch := omega) only [F_Ru_leave, stl_e, lit32, ite_true, ite_false, if_true, if_false, Bool.false_eq_true, and_self, and_true, true_and, and_false, false_and]
      exact g1 5000 (by omega)
    · rw [g2 5000 (by omega)]
      simp (disch := omega) only [F_Mo_leaveBehind_84, n_nl0, n_cl, false_or, if_neg, cm_13, m9, n_le, if_pos, lit32, cm_34, stl_e, k3, cm_33, ite_true, ite_false, if_true, if_false, Bool.false_eq_true, and_self, and_true, true_and, and_false, false_and]
    · rw [rI, if_pos ⟨rfl, rfl⟩]
    · rw [rI, if_neg (by omega), rI, if_pos ⟨rfl, rfl⟩]; rfl
    · rw [rA, if_neg (by omega), k4.2.2.2.2.1 _ _ (by omega), rA, if_pos ⟨rfl, rfl⟩]; rfl
    · obtain ⟨u1, u2⟩ := hq q q1 q2 q3
      refine PnB_congr (hPn q u1 q1 q2 u2) (fun x _ _ => rfl) (fun x x1 x2 => ?_)
      rw [rA, if_neg (by omega)]
      by_cases cx : x = 28
      · rw [cx, k4.2.2.2.2.2 q ⟨q1, q3⟩, rA, if_neg (by omega)]
      · rw [k4.2.2.2.2.1 _ _ (by omega), rA, if_neg (by omega)]
    · rw [rA, if_neg (by omega), k4.2.2.2.2.1 _ _ (by omega), rA, if_neg (by omega)]
      exact he k hk
    · rw [rA, if_pos ⟨rfl, rfl⟩]
    · rw [rI, if_neg (by omega), rI, if_neg (by omega)]
    · show σmb.1 = _
      rw [k4.1]; rfl
