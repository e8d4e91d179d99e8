/-! Call and return. -/
theorem call_T {im : Im} {m p k : Nat} {L : List Nat} {o : Option (List Nat)} (h : Tr im m 33 k (some L) = o) (ho : o ≠ none) : k < im 0 1 ∧ ∃ L', popA im k (im 5 k) (some L) = some L' ∧ ((im 4 k = 0 ∧ o = some L') ∨ (im 4 k ≠ 0 ∧ L'.length < 8 ∧ o = some (im 4 k :: L'))) := by
  have h' : callT im k (some L) = o := h
  unfold callT at h'
  by_cases c : k < im 0 1
  · rw [if_pos c] at h'
    refine ⟨c, ?_⟩
    cases e : popA im k (im 5 k) (some L) with
    | none =>
      rw [e] at h'
      by_cases c4 : im 4 k = 0
      · rw [if_pos c4] at h'; exact absurd h'.symm ho
      · rw [if_neg c4] at h'; exact absurd h'.symm ho
    | some L' =>
      rw [e] at h'
      refine ⟨L', rfl, ?_⟩
      by_cases c4 : im 4 k = 0
      · rw [if_pos c4] at h'; exact Or.inl ⟨c4, h'.symm⟩
      · rw [if_neg c4] at h'
        cases o with
        | none => exact absurd rfl ho
        | some l =>
          obtain ⟨L0, e1, e2, e3, e4⟩ := b_th h'
          have : L' = L0 := Option.some.inj e1
          subst this
          exact Or.inr ⟨c4, e2, by rw [e4]⟩
  · rw [if_neg c] at h'; exact absurd h'.symm ho
theorem ins_call {im : Im} {IA A : Nat} {ms ps : Nat → Nat} {ls : Nat → List Nat} {T : Nat → Nat} {md : Nat} {σc σm : SG} {R : RQ} (h : Bs im IA A ms ps ls T md σc σm R) (hop : cdA im (ms (A - 1)) (ps (A - 1)) = 33) : StpR im IA σc σm := by
  obtain ⟨o1, o2, o3, o4, o5, o6, o7⟩ := Bs_f h
  obtain ⟨k, hk⟩ : ∃ k, cdA im (ms (A - 1)) (ps (A - 1) + 1) = k := ⟨_, rfl⟩
  have hMi := st_mi (q := ps (A - 1) + wdt 33) h.1 h.2.2.2.2.2
  have hMd := hMi.1
  rw [upl_id] at hMd
  obtain ⟨L1, hT⟩ : ∃ L1, Tr im (ms (A - 1)) 33 k (some (ls (A - 1))) = some L1 := by
    have := o7.1
    rw [hop, hk] at this
    exact Option.ne_none_iff_exists'.mp this
  rw [hop] at o6
  have hw2 : wdt 33 = 2 := by decide
  have hk15 : im 15 (100 * ms (A - 1) + ps (A - 1) + 1) = k := by
    rw [← hk]
    unfold cdA
    rw [if_pos (by omega), Nat.add_assoc]
  have hp1 : ps (A - 1) + 1 < 100 := by omega
  obtain ⟨hk1, L', hpa, -⟩ := call_T (m := ms (A - 1)) (p := 0) hT (fun z => by cases z)
  obtain ⟨-, -, -, d4⟩ := di_0 h.1 hop hk (by omega)
  obtain ⟨-, -, p3⟩ := pf_0 h.1 h.2.2.1.2.2.2 hop o4 (by omega)
  obtain ⟨t1, t2, t3, t4, t5, t6, t7, t8, t9, t10, t11, t12, t13, t14, t15, t16, t17, t18⟩ := Mi_op hMi
  have hopn := m_opnd t6 o1 hp1
  rw [hk15] at hopn
  have hk6 := (wf_m t8.2.2.1 hk1).1
  by_cases cA : A = 8
  · obtain ⟨s1, r1, r2⟩ := mi_raise (e := 5) hMi ⟨by omega, by omega⟩
    have h11 : σc.1 123 11 = Int32.ofNat 8 := by rw [t13, cA]
    have h31 : (pfS σm (A - 1) (ms (A - 1)) (ps (A - 1) + wdt 33)).1 0 31 = Int32.ofNat 8 := by rw [t17, cA]
    refine st_op h hop hk (by omega) (by omega) hT (OpR_f (L' := L1) (x := F_Ru_doFlow 123 (125 + 6 * (A - 1)) (Int32.ofNat 33) (Int32.ofNat k) σc) (y := F_Mo_control 0 (Int32.ofNat (A - 1)) (Int32.ofNat (ps (A - 1))) (Int32.ofNat 33) (pfS σm (A - 1) (ms (A - 1)) (ps (A - 1) + wdt 33))) ?_ ?_ r2) (fun b s => d4 (by omega) b s) (fun s => p3 (by omega) s)
    · simp (disch := omega) only [↓reduceIte, Nat.reduceEqDiff, F_Ru_doFlow, F_Ru_call, lit32, n_eq, if_pos, if_neg, h11, n_lt, r1, ite_true, ite_false, if_true, if_false, Bool.false_eq_true, and_self, and_true, true_and, and_false, false_and]
    · simp (disch := omega) only [↓reduceIte, Nat.reduceEqDiff, F_Mo_control, F_Mo_control_83, F_Mo_call, lit32, n_eq, if_pos, hopn, h31, stl_e, ite_true, ite_false, if_true, if_false, Bool.false_eq_true, and_self, and_true, true_and, and_false, false_and]
  · obtain ⟨H1, H2, ⟨r1, r2, r3, r4⟩, ⟨S, rS1, rS2⟩, r6, r7⟩ := h
    obtain ⟨f1, f2, f3, f4, f5, f6, f7, f8, f9, f10, f11, f12, f13⟩ := hMd.2.2.2.2.1 (A - 1) (by omega)
    have hSk : S k := (rS1 _ (rS2 (A - 1) (by omega))).2.2 k hk1 ⟨R, r1, r2, ps (A - 1), (by rw [r3]; exact fun z => by cases z), hop, hk⟩
    have hVk : VOK im k := (rS1 k hSk).2.1
    obtain ⟨z1, z2, z3⟩ := popA_spec _ _ hpa f11
    have h5k := (wf_m t8.2.2.1 hk1).2.2.1
    rw [z1] at f8 f10
    rw [z1] at f7
    have hkP : hMd.2.2.1.2.2.2.2 = hMd.2.2.1.2.2.2.2 := rfl
    obtain ⟨s1, u1, u2⟩ := ru_act t8.1 (show A < 8 by omega) hk1 t13 hMd.2.2.1.2.2.2.2 (hMd.2.2.2.1 A (by omega))
    have hac := (IC_ac t8.1 hk1).1
    obtain ⟨s2, v1, v2, v3, v4, v5⟩ := cl_pop (f := A - 1) (A := A) (H := L'.length) (by omega) (by omega) (by omega) (im 5 k) 5000 s1 (by omega) h5k (by omega) (by rw [u2.1, if_neg (by omega), if_neg (by omega), if_neg (by omega)]; exact f8)
    obtain ⟨m1, w1, w2, w3, w4, w5, w6⟩ := mo_pop (k := k) (f := A - 1) (H := L'.length) (by omega) (im 5 k) 5000 (pfS σm (A - 1) (ms (A - 1)) (ps (A - 1) + wdt 33)) (by omega) h5k (by omega) (by rw [t17, show A - 1 + 1 = A by omega]) f10
    rw [show A - 1 + 1 = A by omega] at w5 w6
    have hM1 : RepM m1 im := ⟨t8.2.1.1, by rw [w2 _ (by omega)]; exact t8.2.1.2.1, by rw [w2 _ (by omega)]; exact t8.2.1.2.2.1, fun a g y1 y2 => by rw [w5 _ _ (by omega) (by omega)]; exact t8.2.1.2.2.2 a g y1 y2⟩
    obtain ⟨m2, x1, x2, x3, x4, ⟨x5, x6, x7⟩, x8⟩ := mo_enter t8.2.2.1 hk1 (show A < 8 by omega) hM1 (by rw [w2 _ (by omega)]; exact t17)
    have y1 := w1 m2 x1
    have m20 : im 5 k ≤ 3 := h5k
    have hnew := Md_cl (σc1 := s2) (σm1 := m2) (L' := L') hMd (by omega) hk1 hVk (by omega) z2 (fun x g => by
        rw [v2]
        by_cases c : x = 125 + 6 * (A - 1) ∧ g = 4
        · rw [if_pos c, if_pos c]
        · rw [if_neg c, if_neg c, u2.1]) (fun x g => by rw [v3, u2.2.1]) (fun x g hx => by rw [v4, u2.2.2.1 x g hx]) (fun x g y1 y2 => by rw [v5, if_neg (fun z => y1 z.1), u2.2.2.2.1 x g y2]) (fun g y1 y2 => by rw [v5, if_neg (by omega), u2.2.2.2.2 g y1 y2]) (fun g hg => by
        rw [x2]
        by_cases c : g = 31
        · rw [if_pos c, if_pos c]
        · rw [if_neg c, if_neg c, w2 g hg]) (x3.trans w3) (by rw [x4 _ _ (by omega) (by omega) (by omega)]; exact w4) (fun x g y1 y2 y3 y4 y5 => by rw [x4 x g y2 y4 y5, w5 x g y1 (by omega)]) x5 x7 x8 (fun i hi => by
        obtain ⟨b1, b2⟩ := w6 i hi
        rw [v5, if_pos ⟨rfl, hi⟩, u2.2.2.2.1 _ _ (by omega), x4 _ _ (by omega) (by omega) (by omega), x4 _ _ (by omega) (by omega) (by omega), b1, b2]
        exact z3 i hi)
    obtain ⟨bb, Rk, q1, q2, q3, q4⟩ := t8.2.2.2 k hk1
    have hRk := (q4 (q3.mpr hVk)).1
    obtain ⟨q0, j1, j2, j3, j4⟩ := hRk.1.1
    have j0 : q0 = 0 := by omega
    subst j0
    have h5s : s2.1 123 5 = Int32.ofNat 0 := by rw [v2, if_neg (by omega), u2.1, if_neg (by omega), if_neg (by omega), if_neg (by omega)]; exact r7.1
    have h44 : m2.1 0 44 = Int32.ofNat 0 := by rw [x2, if_neg (by omega), w2 _ (by omega)]; exact pf_44
    have hMc := d_Mc t8.1 hk1
    have hFrA := (cF (f := A) (by omega)).1
    have hIA := t8.1.1
    have hN6 := (IC_nm t8.1).2.2
    refine ⟨s2, m2, (d4 (by omega) false s2 ?_).trans ?_, (p3 (by omega) m2 ?_).trans ?_, ⟨fun x g hx => ?_, fun x g hx => ?_, fun x g hx => ?_, fun f _ => ?_⟩, Wm_trans (Umg_W pf_U) ⟨fun g _ _ _ _ y31 _ y46 => ?_, fun x g hx => ?_, x3.trans w3⟩, Or.inl ⟨A + 1, _, _, _, T, md, hnew, fun f hf => ?_, ⟨Rk, ?_, ?_, ?_, ?_⟩, ⟨S, rS1, fun f hf => ?_⟩, ?_, ?_⟩⟩
    · have e1 : s1.2.2.1 (125 + 6 * A) 1 = IA + 4 + 9 * k := by rw [u2.2.1, if_pos ⟨rfl, rfl⟩]
      have e2 : s1.1 (IA + 4 + 9 * k) 1 = Int32.ofNat (im 5 k) := by rw [u2.1, if_neg (by omega), if_neg (by omega), if_neg (by omega)]; exact hac
      simp (disch := omega) only [↓reduceIte, Nat.reduceEqDiff, F_Ru_doFlow, F_Ru_call, lit32, n_eq, if_pos, t13, n_lt, u1, hFrA, e1, hMc, e2, v1, ite_true, ite_false, if_true, if_false, Bool.false_eq_true, and_self, and_true, true_and, and_false, false_and]
    · simp (disch := omega) only [F_Ru_doInstruction_93, F_Ru_doInstruction_130, h5s, zb0, ite_true, ite_false, if_true, if_false, Bool.false_eq_true, and_self, and_true, true_and, and_false, false_and]
    · have e3 := t8.2.1.2.2.2 5 k (by omega) (by omega)
      simp (disch := omega) only [↓reduceIte, Nat.reduceEqDiff, F_Mo_control, F_Mo_control_83, F_Mo_call, lit32, n_eq, if_pos, if_neg, hopn, t17, n_nl0, n_cl, false_or, cm_9, e3, y1, ite_true, ite_false, if_true, if_false, Bool.false_eq_true, and_self, and_true, true_and, and_false, false_and]
    · simp (disch := omega) only [F_Mo_perform_100, F_Mo_perform_116, h44, lit32, n_le, if_pos, ite_true, ite_false, if_true, if_false, Bool.false_eq_true, and_self, and_true, true_and, and_false, false_and]
    · rw [v2, if_neg (by omega), u2.1, if_neg (by omega), if_neg (by omega), if_neg (by omega)]
    · rw [v3, u2.2.1, if_neg (by omega)]
    · rw [v4, u2.2.2.1 _ _ (by omega)]
    · rw [v2, if_neg (by omega), u2.1, if_neg (by omega), if_neg (by omega), if_neg (by omega)]
    · rw [x2, if_neg y31, w2 _ y46]
    · rw [x4 _ _ (by omega) (by omega) (by omega), w5 _ _ (by omega) (by omega)]
    · by_cases cf : f = A - 1
      · subst cf
        rw [upp_n _ _ (show A - 1 ≠ A by omega), upp_n _ _ (show A - 1 ≠ A by omega), upl_n _ _ (show A - 1 ≠ A by omega), upl_s, show A - 1 + 1 = A by omega, upp_s]
        refine ⟨R, _, r1, r2, hop, hk, ?_, r3, hpa⟩
        rw [x4 _ _ (by omega) (by omega) (by omega), w5 _ _ (by omega) (by omega), pf_21, hw2]
      · obtain ⟨R', l0, g1, g2, g3, g4, g5, g6, g7⟩ := H2 f (by omega)
        rw [upp_n _ _ (show f ≠ A by omega), upp_n _ _ (show f ≠ A by omega), upp_n _ _ (show f + 1 ≠ A by omega), upl_n _ _ (show f ≠ A by omega), upl_n _ _ cf]
        refine ⟨R', l0, g1, g2, g3, g4, ?_, g6, g7⟩
        rw [x4 _ _ (by omega) (by omega) (by omega), w5 _ _ (by omega) (by omega), pf_U.2.2 _ _ (by omega) (by omega) (by omega) (by omega)]
        exact g5
    · rw [Nat.add_sub_cancel, upp_s]; exact hRk.1
    · rw [Nat.add_sub_cancel, upp_s]; exact hRk.2.1
    · rw [Nat.add_sub_cancel, upp_s, upl_s]; exact j4
    · rw [Nat.add_sub_cancel, upp_s]; exact x6
    · by_cases cf : f = A
      · rw [cf, upp_s]; exact hSk
      · rw [upp_n _ _ cf]; exact rS2 f (by omega)
    · exact EnZ_same r6 (fun j => by rw [v4, u2.2.2.1 _ _ (by omega)])
    · refine ⟨h5s, ?_, ?_, ?_⟩
      · rw [v2, if_neg (by omega), u2.1, if_neg (by omega), if_neg (by omega), if_neg (by omega)]; exact r7.2.1
      · rw [v2, if_neg (by omega), u2.1, if_neg (by omega), if_neg (by omega), if_neg (by omega)]; exact r7.2.2.1
      · rw [x2, if_neg (by omega), w2 _ (by omega), pf_28]; exact r7.2.2.2
