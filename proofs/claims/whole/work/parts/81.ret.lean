/-! A return; and every instruction. -/
theorem ret_end {im : Im} {IA A : Nat} {ms ps : Nat → Nat} {ls : Nat → List Nat} {T : Nat → Nat} {md : Nat} {σc σm : SG} {q : Nat} {R : RQ} (h : Md im IA A ms ps ls T md σc σm) (hCs : Cs im A ms ps ls σm) (hS : Sv im A ms) (hz : EnZ im σc) (hph : Ph1 σc σm) (hC : Clo im (ms (A - 1)) R) (hmin : ∀ Q, Clo im (ms (A - 1)) Q → LeQ R Q) (hRq : R q = some (ls (A - 1))) (hq : q < 100) (hH : ∀ r, r < im 9 (ms (A - 1)) → iH im (ms (A - 1)) r q → iH im (ms (A - 1)) r (ps (A - 1))) (h21 : σm.2.2.2.1 21 (A - 1) = Int32.ofNat q) : Go im IA (setI σc (125 + 6 * (A - 1)) 3 (Int32.ofNat q)) σm := by
  obtain ⟨⟨a1, a2, a3⟩, b0, -, -, e', -, k'⟩ := id h
  obtain ⟨f1, f2, f3, f4, f5, f6, f7, f8, f9, f10, f11, f12, f13⟩ := e' (A - 1) (by omega)
  have hU1 : Ucg (A - 1) σc (setI σc (125 + 6 * (A - 1)) 3 (Int32.ofNat q)) := ⟨rfl, fun x g p q => by rw [rI, if_neg (by omega)], fun _ _ _ _ => rfl, fun _ _ _ => rfl⟩
  have h9 := (wf_m b0.2.2.1 f1).2.2.2.2.2.2.1
  have hMd := Md_top (l := ls (A - 1)) h hU1 (Umg_refl _ _) hq (by rw [rI, if_pos ⟨rfl, rfl⟩]) f7 (by rw [rI, if_neg (by omega)]; exact f8) f10 (StR_congr _ f11 (fun j hj => ⟨rfl, rfl, rfl⟩)) (PnR_place (PnR_congr f13 h9 (fun _ _ _ _ => rfl) (fun _ _ _ _ _ => rfl)) hH) k'
  refine ⟨A, ms, _, _, T, md, hMd, Cs_top hCs (Umg_refl _ _), ⟨R, hC, hmin, by rw [upp_s, upl_s]; exact hRq, by rw [upp_s]; exact h21⟩, hS, EnZ_same hz (fun _ => rfl), ?_, ?_, ?_, hph.2.2.2⟩
  · rw [rI, if_neg (by omega)]; exact hph.1
  · rw [rI, if_neg (by omega)]; exact hph.2.1
  · rw [rI, if_neg (by omega)]; exact hph.2.2.1
/-- what is given back is taken, in both -/
theorem ret_pop {im : Im} {IA A : Nat} {ms ps : Nat → Nat} {ls : Nat → List Nat} {T : Nat → Nat} {md : Nat} {σc σm : SG} {R : RQ} (h : Bs im IA A ms ps ls T md σc σm R) (hop : cdA im (ms (A - 1)) (ps (A - 1)) = 34) : ∃ v a L1 s1 s2, F_Ru_giveBack 123 (125 + 6 * (A - 1)) σc = F_Ru_giveBack_20 123 (Int32.ofNat (im 4 (ms (A - 1)))) v s1 ∧ F_Mo_finish 0 (pfS σm (A - 1) (ms (A - 1)) (ps (A - 1) + wdt 34)) = F_Mo_finish_22 0 (Int32.ofNat (im 4 (ms (A - 1)))) a s2 ∧ Mi im IA A ms ps ls T md σc (pfS σm (A - 1) (ms (A - 1)) (ps (A - 1) + wdt 34)) L1 s1 s2 ∧ (im 4 (ms (A - 1)) = 0 ∨ (im 4 (ms (A - 1)) ≠ 0 ∧ VR im A ms T md (A - 1) (im 4 (ms (A - 1))) v a (s2.1 0 46))) := by
  obtain ⟨o1, o2, o3, o4, o5, o6, o7⟩ := Bs_f h
  obtain ⟨k, hk⟩ : ∃ k, cdA im (ms (A - 1)) (ps (A - 1) + 1) = k := ⟨_, rfl⟩
  have hMi := st_mi (q := ps (A - 1) + wdt 34) h.1 h.2.2.2.2.2
  obtain ⟨L1, hT⟩ : ∃ L1, Tr im (ms (A - 1)) 34 k (some (ls (A - 1))) = some L1 := by
    have := o7.1
    rw [hop, hk] at this
    exact Option.ne_none_iff_exists'.mp this
  have hT' : (if im 4 (ms (A - 1)) = 0 then some (ls (A - 1)) else (some (ls (A - 1))).bind (wot (im 4 (ms (A - 1))))) = some L1 := hT
  obtain ⟨t1, t2, t3, t4, t5, t6, t7, t8, -⟩ := Mi_op hMi
  obtain ⟨f1, f2, f3, -⟩ := hMi.1.2.2.2.2.1 (A - 1) (by omega)
  have hMc := d_Mc t8.1 f1
  have hrs := IC_res t8.1 f1
  have m4 := t8.2.1.2.2.2 4 (ms (A - 1)) (by omega) (by omega)
  have h256 := t8.2.1.1 4 (ms (A - 1))
  have p24 : (pfS σm (A - 1) (ms (A - 1)) (ps (A - 1) + wdt 34)).1 0 24 = Int32.ofNat (ms (A - 1)) := pf_24
  by_cases c4 : im 4 (ms (A - 1)) = 0
  · have hr0 := hrs.1
    rw [c4] at hr0 m4 ⊢
    refine ⟨0, Int32.ofNat 0, ls (A - 1), σc, _, ?_, ?_, hMi, Or.inl rfl⟩
    · simp (disch := omega) only [↓reduceIte, Nat.reduceEqDiff, F_Ru_giveBack, f3, hMc, if_pos, hr0, lit32, n_eq, ite_true, ite_false, if_true, if_false, Bool.false_eq_true, and_self, and_true, true_and, and_false, false_and]
    · simp (disch := omega) only [↓reduceIte, Nat.reduceEqDiff, F_Mo_finish, p24, lit32, n_nl0, n_cl, false_or, if_neg, cm_8, m4, n_le, if_pos, ite_true, ite_false, if_true, if_false, Bool.false_eq_true, and_self, and_true, true_and, and_false, false_and]
  · rw [if_neg c4] at hT'
    obtain ⟨e1, e2⟩ := b_ot hT'
    rw [Option.some.inj e1] at hMi
    obtain ⟨v, a, s1, s2, u1, u2, u3, u4, u5⟩ := mi_pop hMi
    refine ⟨v, a, L1, s1, s2, ?_, ?_, u5, Or.inr ⟨c4, u4⟩⟩
    · simp (disch := omega) only [↓reduceIte, Nat.reduceEqDiff, F_Ru_giveBack, f3, hMc, if_pos, hrs.1, lit32, n_eq, if_neg, u1, ite_true, ite_false, if_true, if_false, Bool.false_eq_true, and_self, and_true, true_and, and_false, false_and]
    · simp (disch := omega) only [↓reduceIte, Nat.reduceEqDiff, F_Mo_finish, p24, lit32, n_nl0, n_cl, false_or, if_neg, cm_8, m4, n_le, u3, ite_true, ite_false, if_true, if_false, Bool.false_eq_true, and_self, and_true, true_and, and_false, false_and]
theorem ins_ret {im : Im} {IA A : Nat} {ms ps : Nat → Nat} {ls : Nat → List Nat} {T : Nat → Nat} {md : Nat} {σc σm : SG} {R : RQ} (h : Bs im IA A ms ps ls T md σc σm R) (hop : cdA im (ms (A - 1)) (ps (A - 1)) = 34) : StpR im IA σc σm := by
  obtain ⟨o1, o2, o3, o4, o5, o6, o7⟩ := Bs_f h
  obtain ⟨k, hk⟩ : ∃ k, cdA im (ms (A - 1)) (ps (A - 1) + 1) = k := ⟨_, rfl⟩
  obtain ⟨v, a, L1, s1, s2, u1, u2, u3, u4⟩ := ret_pop h hop
  obtain ⟨-, -, -, d4⟩ := di_0 h.1 hop hk (by omega)
  obtain ⟨-, -, p3⟩ := pf_0 h.1 h.2.2.1.2.2.2 hop o4 (by omega)
  obtain ⟨t1, t2, t3, t4, t5, t6, t7, t8, t9, t10, t11, t12, t13, t14, t15, t16, t17, t18⟩ := Mi_op u3
  obtain ⟨h1, ⟨w1, w2, w3⟩, ⟨q1, q2, q3, q4⟩, q5, q6⟩ := u3
  obtain ⟨H1, H2, ⟨r1, r2, r3, r4⟩, r5, r6, r7⟩ := h
  have hk0 := H1.2.2.2.2.2.2
  have hk1 := h1.2.2.2.2.2.2
  have hze : EnZ im s1 := fun m r y1 y2 y3 => by
    have hm6 := (wf_m h1.2.1.2.2.1 y1).1
    rw [hk1 _ (by omega), w3 _ _ (by omega), pf_A (by omega), ← hk0 _ (by omega)]
    exact r6 m r y1 y2 y3
  have h256 := t8.2.1.1 4 (ms (A - 1))
  have hcl : ∀ y, F_Ru_giveBack_20 123 (Int32.ofNat (im 4 (ms (A - 1)))) v s1 = some (false, y) → F_Ru_doFlow 123 (125 + 6 * (A - 1)) (Int32.ofNat 34) (Int32.ofNat k) σc = some (false, y) := fun y hy => by
    simp (disch := omega) only [↓reduceIte, Nat.reduceEqDiff, F_Ru_doFlow, lit32, n_eq, u1, hy, ite_true, ite_false, if_true, if_false, Bool.false_eq_true, and_self, and_true, true_and, and_false, false_and]
  have hcm : ∀ y, F_Mo_finish_22 0 (Int32.ofNat (im 4 (ms (A - 1)))) a s2 = some y → F_Mo_control 0 (Int32.ofNat (A - 1)) (Int32.ofNat (ps (A - 1))) (Int32.ofNat 34) (pfS σm (A - 1) (ms (A - 1)) (ps (A - 1) + wdt 34)) = some y := fun y hy => by
    simp (disch := omega) only [↓reduceIte, Nat.reduceEqDiff, F_Mo_control, F_Mo_control_83, lit32, n_eq, u2, hy, ite_true, ite_false, if_true, if_false, Bool.false_eq_true, and_self, and_true, true_and, and_false, false_and]
  by_cases cA : A = 1
  · have h11 : s1.1 123 11 = Int32.ofNat 1 := by rw [t13, cA]
    have h31 : s2.1 0 31 = Int32.ofNat 1 := by rw [t17, cA]
    obtain ⟨nv, hnc, hnm⟩ : ∃ nv : Int32, F_Ru_giveBack_20 123 (Int32.ofNat (im 4 (ms (A - 1)))) v s1 = some (false, setI (setI (setI s1 123 11 (Int32.ofNat 0)) 123 9 (Int32.ofNat 2)) 123 10 nv) ∧ F_Mo_finish_22 0 (Int32.ofNat (im 4 (ms (A - 1)))) a s2 = some (setI (setI (setI s2 0 31 (Int32.ofNat 0)) 0 28 (Int32.ofNat 2)) 0 29 nv) := by
      by_cases c1 : im 4 (ms (A - 1)) = 1
      · have hva : v.toInt32 = a := by
          rcases u4 with u4 | ⟨-, u4⟩
          · omega
          · rw [c1] at u4
            rw [VR_1 u4, i64_32]
        rw [c1]
        refine ⟨a, ?_, ?_⟩
        · simp (disch := omega) only [↓reduceIte, Nat.reduceEqDiff, F_Ru_giveBack_20, F_Ru_numberOf, F_Ru_end, h11, lit32, n_sub, Nat.sub_self, stl_e, rI, if_pos, n_lt, if_neg, n_eq, hva, ite_true, ite_false, if_true, if_false, Bool.false_eq_true, and_self, and_true, true_and, and_false, false_and]
        · simp (disch := omega) only [↓reduceIte, Nat.reduceEqDiff, F_Mo_finish_22, F_Mo_finish_72, F_Mo_finish_77, h31, lit32, n_sub, Nat.sub_self, stl_e, rI, if_pos, n_le, n_eq, ite_true, ite_false, if_true, if_false, Bool.false_eq_true, and_self, and_true, true_and, and_false, false_and]
      · by_cases c2 : im 4 (ms (A - 1)) = 2
        · have hva : (v >>> ((Int32.ofNat 32).toInt64 &&& Int64.ofNat 63)).toInt32 = a := by
            rcases u4 with u4 | ⟨-, u4⟩
            · omega
            · rw [c2] at u4
              rw [VR_2 u4, pv_hi]
          rw [c2]
          refine ⟨a, ?_, ?_⟩
          · have hva' : (v >>> ((Int32.ofNat 32).toInt64 &&& 63)).toInt32 = a := hva
            simp (disch := omega) only [↓reduceIte, Nat.reduceEqDiff, F_Ru_giveBack_20, F_Ru_numberOf, F_Ru_numberOf_21, F_Ru_firstOf, F_Ru_end, h11, lit32, n_sub, Nat.sub_self, stl_e, rI, if_pos, n_lt, if_neg, n_eq, hva', ite_true, ite_false, if_true, if_false, Bool.false_eq_true, and_self, and_true, true_and, and_false, false_and]
          · simp (disch := omega) only [↓reduceIte, Nat.reduceEqDiff, F_Mo_finish_22, F_Mo_finish_72, F_Mo_finish_77, h31, lit32, n_sub, Nat.sub_self, stl_e, rI, if_pos, n_le, n_eq, ite_true, ite_false, if_true, if_false, Bool.false_eq_true, and_self, and_true, true_and, and_false, false_and]
        · refine ⟨Int32.ofNat 0, ?_, ?_⟩
          · simp (disch := omega) only [↓reduceIte, Nat.reduceEqDiff, F_Ru_giveBack_20, F_Ru_numberOf, F_Ru_numberOf_21, F_Ru_end, h11, lit32, n_sub, Nat.sub_self, stl_e, rI, if_pos, n_lt, if_neg, n_eq, ite_true, ite_false, if_true, if_false, Bool.false_eq_true, and_self, and_true, true_and, and_false, false_and]
          · simp (disch := omega) only [↓reduceIte, Nat.reduceEqDiff, F_Mo_finish_22, F_Mo_finish_72, F_Mo_finish_77, h31, lit32, n_sub, Nat.sub_self, stl_e, rI, if_pos, if_neg, n_le, n_eq, ite_true, ite_false, if_true, if_false, Bool.false_eq_true, and_self, and_true, true_and, and_false, false_and]
    have hwc : Wc s1 (setI (setI (setI s1 123 11 (Int32.ofNat 0)) 123 9 (Int32.ofNat 2)) 123 10 nv) := ⟨fun x g hx => by rw [rI, if_neg (by omega), rI, if_neg (by omega), rI, if_neg (by omega)], fun _ _ _ => rfl, fun _ _ _ => rfl, fun f _ => by rw [rI, if_neg (by omega), rI, if_neg (by omega), rI, if_neg (by omega)]⟩
    have hwm : Wm s2 (setI (setI (setI s2 0 31 (Int32.ofNat 0)) 0 28 (Int32.ofNat 2)) 0 29 nv) := ⟨fun g y1 y2 y3 y4 y5 _ _ => by rw [rI, if_neg (by omega), rI, if_neg (by omega), rI, if_neg (by omega)], fun _ _ _ => rfl, rfl⟩
    have e5 : (setI (setI (setI s1 123 11 (Int32.ofNat 0)) 123 9 (Int32.ofNat 2)) 123 10 nv).1 123 5 = Int32.ofNat 0 := by rw [rI, if_neg (by omega), rI, if_neg (by omega), rI, if_neg (by omega)]; exact q5
    have e44 : (setI (setI (setI s2 0 31 (Int32.ofNat 0)) 0 28 (Int32.ofNat 2)) 0 29 nv).1 0 44 = Int32.ofNat 0 := by rw [rI, if_neg (by omega), rI, if_neg (by omega), rI, if_neg (by omega)]; exact q6
    refine ⟨_, _, (d4 (by omega) false _ (hcl _ hnc)).trans ?_, (p3 (by omega) _ (hcm _ hnm)).trans ?_, Wc_trans w1 hwc, Wm_trans (Umg_W pf_U) (Wm_trans w2 hwm), Or.inr ⟨2, Or.inl rfl, ?_, ?_, ?_, ?_, hk1, EnZ_same hze (fun _ => rfl), e5⟩⟩
    · simp (disch := omega) only [F_Ru_doInstruction_93, F_Ru_doInstruction_130, e5, zb0, ite_true, ite_false, if_true, if_false, Bool.false_eq_true, and_self, and_true, true_and, and_false, false_and]
    · simp (disch := omega) only [F_Mo_perform_100, F_Mo_perform_116, e44, lit32, n_le, if_pos, ite_true, ite_false, if_true, if_false, Bool.false_eq_true, and_self, and_true, true_and, and_false, false_and]
    · rw [rI, if_neg (by omega), rI, if_pos ⟨rfl, rfl⟩]
    · rw [rI, if_neg (by omega), rI, if_pos ⟨rfl, rfl⟩]
    · rw [rI, if_pos ⟨rfl, rfl⟩, rI, if_pos ⟨rfl, rfl⟩]
    · rw [rI, if_neg (by omega), rI, if_neg (by omega), rI, if_neg (by omega), rI, if_neg (by omega), rI, if_neg (by omega), rI, if_neg (by omega), t14, t15]
  · have hMd := Md_dn h1 (Ucg_refl _ _) (Umg_refl _ _) hk1 (by omega)
    obtain ⟨R2, l2, g1, g2, g3, g4, g5, g6, g7⟩ := H2 (A - 1 - 1) (by omega)
    rw [show A - 1 - 1 + 1 = A - 1 by omega] at g4 g7
    obtain ⟨z1, q, z2, z3, z4, z5⟩ := (g1.2 _ _ g6).2.2.2.2.2 (by rw [g3]; decide) (by rw [g3]; decide)
    rw [g3, g4] at z1 z5
    have hw33 : wdt 33 = 2 := by decide
    rw [g3, hw33] at z2
    rw [hw33] at z1
    have eqq : q = ps (A - 1 - 1) + 2 := by omega
    subst eqq
    obtain ⟨-, L', zz1, zz2⟩ := call_T (m := ms (A - 1 - 1)) (p := 0) (k := ms (A - 1)) (L := l2) rfl (g1.2 _ _ g6 |>.1 |> fun z => by rw [g3, g4] at z; exact z)
    rw [g7] at zz1
    have eL : L' = ls (A - 1 - 1) := (Option.some.inj zz1).symm
    subst eL
    have hls : upl ls (A - 1) L1 (A - 1 - 1) = ls (A - 1 - 1) := upl_n _ _ (by omega)
    obtain ⟨f1, f2, f3, f4, f5, f6, f7, f8, f9, f10, f11, f12, f13⟩ := hMd.2.2.2.2.1 (A - 1 - 1) (by omega)
    have h100 := (wf_m hMd.2.1.2.2.1 f1).2.2.2.2.2.2.2.2.2.1
    have hq100 : ps (A - 1 - 1) + 2 < 100 := by have := z3.1; omega
    have hwc : Wc s1 (setI s1 123 11 (Int32.ofNat (A - 1))) := ⟨fun x g hx => by rw [rI, if_neg (by omega)], fun _ _ _ => rfl, fun _ _ _ => rfl, fun f _ => by rw [rI, if_neg (by omega)]⟩
    have hwm : Wm s2 (setI s2 0 31 (Int32.ofNat (A - 1))) := ⟨fun g p1 p2 p3 p4 p5 _ _ => by rw [rI, if_neg (by omega)], fun _ _ _ => rfl, rfl⟩
    have hl := ru_latest (σ := setI s1 123 11 (Int32.ofNat (A - 1))) (A := A - 1) (by rw [rI, if_pos ⟨rfl, rfl⟩]) (by omega) (by omega)
    have hFr := (cF (f := A - 1 - 1) (by omega)).1
    have r11 : (setI s1 123 11 (Int32.ofNat (A - 1))).1 123 11 = Int32.ofNat (A - 1) := by rw [rI, if_pos ⟨rfl, rfl⟩]
    have r31 : (setI s2 0 31 (Int32.ofNat (A - 1))).1 0 31 = Int32.ofNat (A - 1) := by rw [rI, if_pos ⟨rfl, rfl⟩]
    have hwd := fun σ => a_width (op := 33) (by omega) σ
    rw [hw33] at hwd
    have hCs' : Cs im (A - 1) ms ps (upl ls (A - 1) L1) (setI s2 0 31 (Int32.ofNat (A - 1))) := fun f hf => by
      obtain ⟨R', l0, y1, y2, y3, y4, y5, y6, y7⟩ := H2 f (by omega)
      rw [upl_n _ _ (by omega)]
      refine ⟨R', l0, y1, y2, y3, y4, ?_, y6, y7⟩
      show s2.2.2.2.1 21 f = _
      rw [w3 _ _ (by omega), pf_U.2.2 _ _ (by omega) (by omega) (by omega) (by omega)]; exact y5
    have h21 : s2.2.2.2.1 21 (A - 1 - 1) = Int32.ofNat (ps (A - 1 - 1) + 2) := by
      rw [w3 _ _ (by omega), pf_U.2.2 _ _ (by omega) (by omega) (by omega) (by omega)]; exact g5
    have hSv : Sv im (A - 1) ms := by obtain ⟨S, y1, y2⟩ := r5; exact ⟨S, y1, fun f hf => y2 f (by omega)⟩
    have hph : Ph1 (setI s1 123 11 (Int32.ofNat (A - 1))) (setI s2 0 31 (Int32.ofNat (A - 1))) := ⟨by rw [rI, if_neg (by omega)]; exact q5, by rw [rI, if_neg (by omega)]; exact q1, by rw [rI, if_neg (by omega)]; exact q2, by rw [rI, if_neg (by omega)]; exact q3⟩
    have hiH : ∀ r, r < im 9 (ms (A - 1 - 1)) → iH im (ms (A - 1 - 1)) r (ps (A - 1 - 1) + 2 : Nat) → iH im (ms (A - 1 - 1)) r (ps (A - 1 - 1)) := fun r hr hz => ((z1 r hr).1).mpr hz
    rcases zz2 with ⟨c0, y2⟩ | ⟨c0, y1, y2⟩
    · rw [y2] at z5
      have hgo := ret_end hMd hCs' hSv (EnZ_same hze (fun _ => rfl)) hph g1 g2 (by rw [hls]; exact z5) hq100 hiH h21
      have hU1 : Wc (setI s1 123 11 (Int32.ofNat (A - 1))) (setI (setI s1 123 11 (Int32.ofNat (A - 1))) (125 + 6 * (A - 1 - 1)) 3 (Int32.ofNat (ps (A - 1 - 1) + 2))) := ⟨fun x g hx => by rw [rI, if_neg (by omega)], fun _ _ _ => rfl, fun _ _ _ => rfl, fun f _ => by rw [rI, if_neg (by omega)]⟩
      have e5 : (setI (setI s1 123 11 (Int32.ofNat (A - 1))) (125 + 6 * (A - 1 - 1)) 3 (Int32.ofNat (ps (A - 1 - 1) + 2))).1 123 5 = Int32.ofNat 0 := by rw [rI, if_neg (by omega)]; exact hph.1
      have e44 : (setI s2 0 31 (Int32.ofNat (A - 1))).1 0 44 = Int32.ofNat 0 := by rw [rI, if_neg (by omega)]; exact q6
      refine ⟨(setI (setI s1 123 11 (Int32.ofNat (A - 1))) (125 + 6 * (A - 1 - 1)) 3 (Int32.ofNat (ps (A - 1 - 1) + 2))), (setI s2 0 31 (Int32.ofNat (A - 1))), (d4 (by omega) false (setI (setI s1 123 11 (Int32.ofNat (A - 1))) (125 + 6 * (A - 1 - 1)) 3 (Int32.ofNat (ps (A - 1 - 1) + 2))) (hcl _ ?_)).trans ?_, (p3 (by omega) (setI s2 0 31 (Int32.ofNat (A - 1))) (hcm _ ?_)).trans ?_, Wc_trans w1 (Wc_trans hwc hU1), Wm_trans (Umg_W pf_U) (Wm_trans w2 hwm), Or.inl hgo⟩
      · rw [c0]
        simp (disch := omega) only [↓reduceIte, Nat.reduceEqDiff, F_Ru_giveBack_20, F_Ru_giveBack_66, t13, lit32, n_sub, stl_e, r11, n_lt, if_pos, hl, n_eq, hFr, hwd, f6, n_add, ite_true, ite_false, if_true, if_false, Bool.false_eq_true, and_self, and_true, true_and, and_false, false_and]
      · simp (disch := omega) only [F_Ru_doInstruction_93, F_Ru_doInstruction_130, e5, zb0, ite_true, ite_false, if_true, if_false, Bool.false_eq_true, and_self, and_true, true_and, and_false, false_and]
      · rw [c0]
        simp (disch := omega) only [↓reduceIte, Nat.reduceEqDiff, F_Mo_finish_22, F_Mo_finish_55, t17, lit32, n_sub, stl_e, r31, n_le, if_pos, if_neg, ite_true, ite_false, if_true, if_false, Bool.false_eq_true, and_self, and_true, true_and, and_false, false_and]
      · simp (disch := omega) only [F_Mo_perform_100, F_Mo_perform_116, e44, lit32, n_le, if_pos, ite_true, ite_false, if_true, if_false, Bool.false_eq_true, and_self, and_true, true_and, and_false, false_and]
    · rw [y2] at z5
      rcases u4 with u4 | ⟨-, u4⟩
      · exact absurd u4 c0
      · have ht3 : im 4 (ms (A - 1)) ≠ 3 := tyP_n3 (wf_m t8.2.2.1 t4).2.1
        obtain ⟨c1, m1, b1, b2, b3, b4, b5, b6⟩ := sim_push (t := im 4 (ms (A - 1))) (v := v) (a := a) (b := s2.1 0 46) hMd (by rw [hls]; exact y1) (VR_n3 u4 ht3 (Nat.le_refl _) (fun _ _ => rfl))
        rw [hls] at b3
        have hCs2 : Cs im (A - 1) ms ps (upl (upl ls (A - 1) L1) (A - 1 - 1) (im 4 (ms (A - 1)) :: ls (A - 1 - 1))) m1 := fun f hf => by
          obtain ⟨R', l0, y1, y2, y3, y4, y5, y6, y7⟩ := hCs' f hf
          rw [upl_n _ _ (by omega)]
          refine ⟨R', l0, y1, y2, y3, y4, ?_, y6, y7⟩
          rw [b5.2.2.2.2 _ _ (by omega) (by omega)]; exact y5
        have hph2 : Ph1 c1 m1 := ⟨by rw [b4.2.2.2.1 _ _ (by omega)]; exact hph.1, by rw [b4.2.2.2.1 _ _ (by omega)]; exact hph.2.1, by rw [b4.2.2.2.1 _ _ (by omega)]; exact hph.2.2.1, by rw [b6]; exact hph.2.2.2⟩
        have hgo := ret_end b3 hCs2 hSv (EnZ_same hze (fun k => by rw [b4.2.2.1]; rfl)) hph2 g1 g2 (by rw [upl_s]; exact z5) hq100 hiH (by rw [b5.2.2.2.2 _ _ (by omega) (by omega)]; exact h21)
        have hU1 : Wc c1 (setI c1 (125 + 6 * (A - 1 - 1)) 3 (Int32.ofNat (ps (A - 1 - 1) + 2))) := ⟨fun x g hx => by rw [rI, if_neg (by omega)], fun _ _ _ => rfl, fun _ _ _ => rfl, fun f _ => by rw [rI, if_neg (by omega)]⟩
        have e5 : (setI c1 (125 + 6 * (A - 1 - 1)) 3 (Int32.ofNat (ps (A - 1 - 1) + 2))).1 123 5 = Int32.ofNat 0 := by rw [rI, if_neg (by omega)]; exact hph2.1
        have e44 : m1.1 0 44 = Int32.ofNat 0 := by rw [b6, rI, if_neg (by omega)]; exact q6
        have e3 : c1.1 (125 + 6 * (A - 1 - 1)) 3 = Int32.ofNat (ps (A - 1 - 1)) := by rw [b4.2.2.2.1 _ _ (by omega)]; exact f6
        refine ⟨(setI c1 (125 + 6 * (A - 1 - 1)) 3 (Int32.ofNat (ps (A - 1 - 1) + 2))), m1, (d4 (by omega) false (setI c1 (125 + 6 * (A - 1 - 1)) 3 (Int32.ofNat (ps (A - 1 - 1) + 2))) (hcl _ ?_)).trans ?_, (p3 (by omega) m1 (hcm _ ?_)).trans ?_, Wc_trans w1 (Wc_trans hwc (Wc_trans (Sc_W b4) hU1)), Wm_trans (Umg_W pf_U) (Wm_trans w2 (Wm_trans hwm (Sm_W b5))), Or.inl hgo⟩
        · simp (disch := omega) only [↓reduceIte, Nat.reduceEqDiff, F_Ru_giveBack_20, F_Ru_giveBack_66, t13, lit32, n_sub, stl_e, r11, n_lt, if_pos, hl, n_eq, if_neg, hFr, b1, hwd, e3, n_add, ite_true, ite_false, if_true, if_false, Bool.false_eq_true, and_self, and_true, true_and, and_false, false_and]
        · simp (disch := omega) only [F_Ru_doInstruction_93, F_Ru_doInstruction_130, e5, zb0, ite_true, ite_false, if_true, if_false, Bool.false_eq_true, and_self, and_true, true_and, and_false, false_and]
        · simp (disch := omega) only [↓reduceIte, Nat.reduceEqDiff, F_Mo_finish_22, F_Mo_finish_55, t17, lit32, n_sub, stl_e, r31, n_le, if_neg, b2, ite_true, ite_false, if_true, if_false, Bool.false_eq_true, and_self, and_true, true_and, and_false, false_and]
        · simp (disch := omega) only [F_Mo_perform_100, F_Mo_perform_116, e44, lit32, n_le, if_pos, ite_true, ite_false, if_true, if_false, Bool.false_eq_true, and_self, and_true, true_and, and_false, false_and]
/-- every instruction -/
theorem ins_sim {im : Im} {IA : Nat} {σc σm : SG} (h : Go im IA σc σm) : StpR im IA σc σm := by
  obtain ⟨A, ms, ps, ls, T, md, h1, h2, ⟨R, r1, r2, r3, r4⟩, h4, h5, h6⟩ := h
  have hB : Bs im IA A ms ps ls T md σc σm R := ⟨h1, h2, ⟨r1, r2, r3, r4⟩, h4, h5, h6⟩
  have h37 := (Bs_f hB).2.2.2.2.1
  by_cases c1 : cdA im (ms (A - 1)) (ps (A - 1)) = 13 ∨ cdA im (ms (A - 1)) (ps (A - 1)) = 14 ∨ cdA im (ms (A - 1)) (ps (A - 1)) = 15
  · exact ins_jump hB c1
  · by_cases c2 : cdA im (ms (A - 1)) (ps (A - 1)) < 33
    · exact ins_plain hB c2 (by omega) (by omega) (by omega)
    · have hc : cdA im (ms (A - 1)) (ps (A - 1)) = 33 ∨ cdA im (ms (A - 1)) (ps (A - 1)) = 34 ∨ cdA im (ms (A - 1)) (ps (A - 1)) = 35 ∨ cdA im (ms (A - 1)) (ps (A - 1)) = 36 ∨ cdA im (ms (A - 1)) (ps (A - 1)) = 37 := by omega
      rcases hc with c | c | c | c | c
      · exact ins_call hB c
      · exact ins_ret hB c
      · exact ins_throw hB c
      · exact ins_leave hB c
      · exact ins_done hB c
